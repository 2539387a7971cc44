def R0_pf_P_hurt_0 : Room := ({ frames := 7, cells := 2, slots := 12, locals := 147 } : Room)
def pf_P_hurt_0 (σ : kM) (x1 : Int) (x2 : Int) : Option ((String ⊕ Int) × kM) :=
  (pf_P_needPerson_0 σ x1).bind fun q_11 => match q_11 with
  | (.inl E_3, σ_1) => some (.inl E_3, σ_1)
  | (.inr _, σ_1) =>
    (pf_P_needPoet_0 σ_1 x2).bind fun q_10 => match q_10 with
    | (.inl E_6, σ_4) => some (.inl E_6, σ_4)
    | (.inr _, σ_4) =>
      (pf_Oracle_firstHit_57 σ_4 x1 x2).bind fun (r_7, σ_8) =>
      some ((.inr r_7, σ_8))
set_option maxHeartbeats 4000000 in
theorem bd_pf_P_hurt_0 {x : kX} {l0 : Launch} {Q : State → Prop} (C : kCx x prog_1_method_18_code "PoetFines" (some .int) kcl yC 3 l0 R0_pf_P_hurt_0) (hT : kTb x) (hfl : l0.stackTraces = false) (σ : kM) (x1 : Int) (x2 : Int) {out : (String ⊕ Int) × kM} (h : pf_P_hurt_0 σ x1 x2 = some out) (hR : ∀ (r : Int) (τ : kM), out = (.inr r, τ) → Q = kQX x (.inr (some (ki r))) τ 2 12) (hE : ∀ (E : String) (τ : kM), out = (.inl E, τ) → Q = kQX x (.inl E) τ 2 12) : KW x 0 0 Q σ 0 [some (kr 0), some (ki x1), some (ki x2)] [] := by
  unfold pf_P_hurt_0 at h
  refine kw_aload_n C (kdec dc_P_hurt 0 rfl) rfl 1 rfl rfl ?_
  refine kw_iload_n C (kdec dc_P_hurt 1 rfl) rfl 2 rfl rfl ?_
  obtain ⟨⟨q_11, σ_1⟩, hg_2, h⟩ := kbind_h h
  rcases q_11 with E_3 | _
  · dsimp only at h
    obtain rfl := Option.some.inj h
    exact kw_Q (hE _ _ rfl) (kw_callVX_t (As := [ki x1]) C hT (kdec dc_P_hurt 2 rfl) cv_P_148 rfl rfl (me_pf_P_needPerson_0 l0 hfl hg_2) ⟨rfl, rfl⟩ ⟨Nat.le_of_ble_eq_true rfl, Nat.le_of_ble_eq_true rfl⟩ ⟨Nat.le_of_ble_eq_true rfl, Nat.le_of_ble_eq_true rfl⟩ rfl (Nat.le_of_ble_eq_true rfl) (Nat.le_of_ble_eq_true rfl) (Nat.le_of_ble_eq_true rfl))
  · dsimp only at h
    refine kw_callVX (As := [ki x1]) C (kdec dc_P_hurt 2 rfl) 5 rfl cv_P_148 rfl rfl (mx_pf_P_needPerson_0 l0 hfl hg_2) ⟨rfl, rfl⟩ ⟨Nat.le_of_ble_eq_true rfl, Nat.le_of_ble_eq_true rfl⟩ ⟨Nat.le_of_ble_eq_true rfl, Nat.le_of_ble_eq_true rfl⟩ rfl (Nat.le_of_ble_eq_true rfl) ?_
    change KW x 1 6 Q σ_1 5 [some (kr 0), some (ki x1), some (ki x2)] []
    refine kw_aload_n C (kdec dc_P_hurt 3 rfl) rfl 6 rfl rfl ?_
    refine kw_iload_n C (kdec dc_P_hurt 4 rfl) rfl 7 rfl rfl ?_
    obtain ⟨⟨q_10, σ_4⟩, hg_5, h⟩ := kbind_h h
    rcases q_10 with E_6 | _
    · dsimp only at h
      obtain rfl := Option.some.inj h
      exact kw_Q (hE _ _ rfl) (kw_callVX_t (As := [ki x2]) C hT (kdec dc_P_hurt 5 rfl) cv_P_162 rfl rfl (me_pf_P_needPoet_0 l0 hfl hg_5) ⟨rfl, rfl⟩ ⟨Nat.le_of_ble_eq_true rfl, Nat.le_of_ble_eq_true rfl⟩ ⟨Nat.le_of_ble_eq_true rfl, Nat.le_of_ble_eq_true rfl⟩ rfl (Nat.le_of_ble_eq_true rfl) (Nat.le_of_ble_eq_true rfl) (Nat.le_of_ble_eq_true rfl))
    · dsimp only at h
      refine kw_callVX (As := [ki x2]) C (kdec dc_P_hurt 5 rfl) 10 rfl cv_P_162 rfl rfl (mx_pf_P_needPoet_0 l0 hfl hg_5) ⟨rfl, rfl⟩ ⟨Nat.le_of_ble_eq_true rfl, Nat.le_of_ble_eq_true rfl⟩ ⟨Nat.le_of_ble_eq_true rfl, Nat.le_of_ble_eq_true rfl⟩ rfl (Nat.le_of_ble_eq_true rfl) ?_
      change KW x 2 12 Q σ_4 10 [some (kr 0), some (ki x1), some (ki x2)] []
      refine kw_aload_n C (kdec dc_P_hurt 6 rfl) rfl 11 rfl rfl ?_
      refine kw_getR C (kdec dc_P_hurt 7 rfl) 14 rfl fd_C_P_81_0 ?_
      refine kw_iload_n C (kdec dc_P_hurt 8 rfl) rfl 15 rfl rfl ?_
      refine kw_iload_n C (kdec dc_P_hurt 9 rfl) rfl 16 rfl rfl ?_
      obtain ⟨⟨r_7, σ_8⟩, hg_9, h⟩ := kbind_h h
      dsimp only at h
      refine kw_callV (As := [ki x1, ki x2]) C (kdec dc_P_hurt 10 rfl) 19 rfl cv_P_234 rfl rfl (mt_pf_Oracle_firstHit_57 l0 hg_9) ⟨rfl, rfl⟩ ⟨Nat.le_of_ble_eq_true rfl, Nat.le_of_ble_eq_true rfl⟩ ⟨Nat.le_of_ble_eq_true rfl, Nat.le_of_ble_eq_true rfl⟩ rfl (Nat.le_of_ble_eq_true rfl) ?_
      change KW x 2 12 Q σ_8 19 [some (kr 0), some (ki x1), some (ki x2)] [ki r_7]
      obtain rfl := Option.some.inj h
      exact kw_Q (hR _ _ rfl) (kw_xret (by decide) (by decide) (kw_ireturn C (kdec dc_P_hurt 11 rfl)))
theorem mx_pf_P_hurt_0 (l0 : Launch) (hfl : l0.stackTraces = false) {σ : kM} {x1 : Int} {x2 : Int} {r : Int} {τ : kM} (h : pf_P_hurt_0 σ x1 x2 = some (.inr r, τ)) : kXet l0 ky_P_hurt prog_1_method_18_code 3 (some .int) R0_pf_P_hurt_0 kcl yC σ [kr 0, ki x1, ki x2] (.inr (some (ki r))) τ 2 12 := kXet.of [some (kr 0), some (ki x1), some (ki x2)] (by decide) (Nat.le_of_ble_eq_true rfl) ⟨rfl, rfl, rfl, trivial⟩ (fun x C hT => bd_pf_P_hurt_0 C hT hfl σ x1 x2 h (fun r τ e => by cases e; rfl) (fun E τ e => by cases e))
theorem me_pf_P_hurt_0 (l0 : Launch) (hfl : l0.stackTraces = false) {σ : kM} {x1 : Int} {x2 : Int} {E : String} {τ : kM} (h : pf_P_hurt_0 σ x1 x2 = some (.inl E, τ)) : kXet l0 ky_P_hurt prog_1_method_18_code 3 (some .int) R0_pf_P_hurt_0 kcl yC σ [kr 0, ki x1, ki x2] (.inl E) τ 2 12 := kXet.of [some (kr 0), some (ki x1), some (ki x2)] (by decide) (Nat.le_of_ble_eq_true rfl) ⟨rfl, rfl, rfl, trivial⟩ (fun x C hT => bd_pf_P_hurt_0 C hT hfl σ x1 x2 h (fun r τ e => by cases e) (fun E τ e => by cases e; rfl))
def R0_pf_Oracle_richest_57 : Room := ({ frames := 0, cells := 0, slots := 0, locals := 0 } : Room)
def pf_Oracle_richest_57_l4_j47 (σ : kM) (x1 : Int) (x2 : Int) : Option ((Int × Int) ⊕ ((Int))) :=
  klet (w32 (x2 + 1)) fun x2_2 =>
  some (Sum.inl (x1, x2_2))
set_option maxHeartbeats 4000000 in
theorem bd_pf_Oracle_richest_57_l4_j47 {x : kX} {l0 : Launch} {Q : State → Prop} (C : kCx x prog_5_method_4_code "PoetFines$Oracle" (some .int) kcl yC 3 l0 R0_pf_Oracle_richest_57) (σ : kM) (x1 : Int) (x2 : Int) {out : (Int × Int) ⊕ ((Int))} (h : pf_Oracle_richest_57_l4_j47 σ x1 x2 = some out) (hC : ∀ (x1' : Int) (x2' : Int), out = Sum.inl (x1', x2') → KW x 0 0 Q σ 4 [some (kr 57), some (ki x1'), some (ki x2')] []) (hX53 : ∀ (x1' : Int), out = Sum.inr x1' → KW x 0 0 Q σ 53 [none, some (ki x1'), none] []) : KW x 0 0 Q σ 47 [some (kr 57), some (ki x1), some (ki x2)] [] := by
  unfold pf_Oracle_richest_57_l4_j47 at h
  obtain ⟨x2_2, ex2_2, h⟩ := klet_h h
  refine kw_iinc (L' := [some (kr 57), some (ki x1), some (ki x2_2)]) C (kdec dc_Oracle_richest 29 rfl) 50 rfl rfl (by decide) rfl (by rw [ex2_2]; rfl) ?_
  refine kw_goto C (kdec dc_Oracle_richest 30 rfl) 4 (by decide) ?_
  obtain rfl := Option.some.inj h
  exact (hC _ _ rfl)
def pf_Oracle_richest_57_l4_j45 (σ : kM) (x2 : Int) : Option ((Int × Int) ⊕ ((Int))) :=
  pf_Oracle_richest_57_l4_j47 σ x2 x2
set_option maxHeartbeats 4000000 in
theorem bd_pf_Oracle_richest_57_l4_j45 {x : kX} {l0 : Launch} {Q : State → Prop} (C : kCx x prog_5_method_4_code "PoetFines$Oracle" (some .int) kcl yC 3 l0 R0_pf_Oracle_richest_57) (σ : kM) (x2 : Int) {out : (Int × Int) ⊕ ((Int))} (h : pf_Oracle_richest_57_l4_j45 σ x2 = some out) (hC : ∀ (x1' : Int) (x2' : Int), out = Sum.inl (x1', x2') → KW x 0 0 Q σ 4 [some (kr 57), some (ki x1'), some (ki x2')] []) (hX53 : ∀ (x1' : Int), out = Sum.inr x1' → KW x 0 0 Q σ 53 [none, some (ki x1'), none] []) : KW x 0 0 Q σ 45 [some (kr 57), none, some (ki x2)] [] := by
  unfold pf_Oracle_richest_57_l4_j45 at h
  refine kw_iload_n C (kdec dc_Oracle_richest 27 rfl) rfl 46 rfl rfl ?_
  refine kw_istore_n (L' := [some (kr 57), some (ki x2), some (ki x2)]) C (kdec dc_Oracle_richest 28 rfl) rfl 47 rfl (by decide) rfl rfl ?_
  exact bd_pf_Oracle_richest_57_l4_j47 C σ x2 x2 h hC hX53
def pf_Oracle_richest_57_l4 (σ : kM) (x1 : Int) (x2 : Int) : Option ((Int × Int) ⊕ ((Int))) :=
  if (σ 3 1) ≤ x2 then
    some (Sum.inr x1)
  else
    if x1 = ((-1)) then
      pf_Oracle_richest_57_l4_j45 σ x2
    else
      kchk (0 ≤ (w32 (1 + x2)) ∧ (w32 (1 + x2)) < 85) <|
      kchk (0 ≤ (w32 (1 + x1)) ∧ (w32 (1 + x1)) < 85) <|
      if (σ 59 (w32 (1 + x2)).toNat) ≤ (σ 59 (w32 (1 + x1)).toNat) then
        pf_Oracle_richest_57_l4_j47 σ x1 x2
      else
        pf_Oracle_richest_57_l4_j45 σ x2
set_option maxHeartbeats 4000000 in
theorem bd_pf_Oracle_richest_57_l4 {x : kX} {l0 : Launch} {Q : State → Prop} (C : kCx x prog_5_method_4_code "PoetFines$Oracle" (some .int) kcl yC 3 l0 R0_pf_Oracle_richest_57) (σ : kM) (x1 : Int) (x2 : Int) {out : (Int × Int) ⊕ ((Int))} (h : pf_Oracle_richest_57_l4 σ x1 x2 = some out) (hC : ∀ (x1' : Int) (x2' : Int), out = Sum.inl (x1', x2') → KW x 0 0 Q σ 4 [some (kr 57), some (ki x1'), some (ki x2')] []) (hX53 : ∀ (x1' : Int), out = Sum.inr x1' → KW x 0 0 Q σ 53 [none, some (ki x1'), none] []) : KW x 0 0 Q σ 4 [some (kr 57), some (ki x1), some (ki x2)] [] := by
  unfold pf_Oracle_richest_57_l4 at h
  refine kw_iload_n C (kdec dc_Oracle_richest 4 rfl) rfl 5 rfl rfl ?_
  refine kw_aload_n C (kdec dc_Oracle_richest 5 rfl) rfl 6 rfl rfl ?_
  refine kw_getR C (kdec dc_Oracle_richest 6 rfl) 9 rfl fd_C_Oracle_42_57 ?_
  refine kw_getI C (kdec dc_Oracle_richest 7 rfl) 12 rfl fd_C_Oracle_79_3 ?_
  refine kw_icmp_ge C (kdec dc_Oracle_richest 8 rfl) 53 15 (by decide) rfl (fun hc12 => ?_) (fun hc12 => ?_)
  · rw [if_pos hc12] at h
    obtain rfl := Option.some.inj h
    exact kw_sub (L' := [none, some (ki x1), none]) ⟨rfl, trivial⟩ (hX53 _ rfl)
  · rw [if_neg hc12] at h
    refine kw_iload_n C (kdec dc_Oracle_richest 9 rfl) rfl 16 rfl rfl ?_
    refine kw_iconst C (kdec dc_Oracle_richest 10 rfl) 17 rfl rfl ⟨by decide, by decide⟩ ?_
    refine kw_icmp_eq C (kdec dc_Oracle_richest 11 rfl) 45 20 (by decide) rfl (fun hc17 => ?_) (fun hc17 => ?_)
    · rw [if_pos hc17] at h
      exact kw_sub (L' := [some (kr 57), none, some (ki x2)]) ⟨rfl, rfl, trivial⟩ (bd_pf_Oracle_richest_57_l4_j45 C σ x2 h hC hX53)
    · rw [if_neg hc17] at h
      refine kw_aload_n C (kdec dc_Oracle_richest 12 rfl) rfl 21 rfl rfl ?_
      refine kw_getR C (kdec dc_Oracle_richest 13 rfl) 24 rfl fd_C_Oracle_12_57 ?_
      refine kw_getR C (kdec dc_Oracle_richest 14 rfl) 27 rfl fd_C_Oracle_84_58 ?_
      refine kw_iconst C (kdec dc_Oracle_richest 15 rfl) 28 rfl rfl ⟨by decide, by decide⟩ ?_
      refine kw_iload_n C (kdec dc_Oracle_richest 16 rfl) rfl 29 rfl rfl ?_
      refine kw_iadd C (kdec dc_Oracle_richest 17 rfl) 30 rfl ?_
      obtain ⟨hc_3, h⟩ := kchk_h h
      refine kw_iald C (kdec dc_Oracle_richest 18 rfl) 31 rfl rfl hc_3.1 hc_3.2 ?_
      refine kw_aload_n C (kdec dc_Oracle_richest 19 rfl) rfl 32 rfl rfl ?_
      refine kw_getR C (kdec dc_Oracle_richest 20 rfl) 35 rfl fd_C_Oracle_12_57 ?_
      refine kw_getR C (kdec dc_Oracle_richest 21 rfl) 38 rfl fd_C_Oracle_84_58 ?_
      refine kw_iconst C (kdec dc_Oracle_richest 22 rfl) 39 rfl rfl ⟨by decide, by decide⟩ ?_
      refine kw_iload_n C (kdec dc_Oracle_richest 23 rfl) rfl 40 rfl rfl ?_
      refine kw_iadd C (kdec dc_Oracle_richest 24 rfl) 41 rfl ?_
      obtain ⟨hc_4, h⟩ := kchk_h h
      refine kw_iald C (kdec dc_Oracle_richest 25 rfl) 42 rfl rfl hc_4.1 hc_4.2 ?_
      refine kw_icmp_le C (kdec dc_Oracle_richest 26 rfl) 47 45 (by decide) rfl (fun hc42 => ?_) (fun hc42 => ?_)
      · rw [if_pos hc42] at h
        exact bd_pf_Oracle_richest_57_l4_j47 C σ x1 x2 h hC hX53
      · rw [if_neg hc42] at h
        exact kw_sub (L' := [some (kr 57), none, some (ki x2)]) ⟨rfl, rfl, trivial⟩ (bd_pf_Oracle_richest_57_l4_j45 C σ x2 h hC hX53)
theorem lp_pf_Oracle_richest_57_l4 {x : kX} {l0 : Launch} {Q : State → Prop} (C : kCx x prog_5_method_4_code "PoetFines$Oracle" (some .int) kcl yC 3 l0 R0_pf_Oracle_richest_57) (σ : kM) {ex : (Int)} (hX53 : ∀ (x1' : Int), ex = x1' → KW x 0 0 Q σ 53 [none, some (ki x1'), none] []) (n : Nat) (x1 : Int) (x2 : Int) (h : kloop (fun st => pf_Oracle_richest_57_l4 σ st.1 st.2) n (x1, x2) = some ex) : KW x 0 0 Q σ 4 [some (kr 57), some (ki x1), some (ki x2)] [] :=
  kloop_ind (P := (fun st : Int × Int => KW x 0 0 Q σ 4 [some (kr 57), some (ki (st.1)), some (ki (st.2))] [])) (fun st out hb hc hx => bd_pf_Oracle_richest_57_l4 C σ st.1 st.2 hb (fun a0 a1 e => hc _ e) (fun a0 e => hX53 _ ((hx _ e).symm))) n (x1, x2) h
def pf_Oracle_richest_57 (σ : kM) : Option (Int) :=
  klet ((-1)) fun x1_1 =>
  (kloop (fun st => pf_Oracle_richest_57_l4 σ st.1 st.2) kFuel (x1_1, 0)).bind fun x1_7 =>
  some x1_7
set_option maxHeartbeats 4000000 in
theorem bd_pf_Oracle_richest_57 {x : kX} {l0 : Launch} {Q : State → Prop} (C : kCx x prog_5_method_4_code "PoetFines$Oracle" (some .int) kcl yC 3 l0 R0_pf_Oracle_richest_57) (σ : kM) {out : Int} (h : pf_Oracle_richest_57 σ = some out) (hR : ∀ (r : Int), out = r → Q = kQ x (some (ki r)) σ 0 0) : KW x 0 0 Q σ 0 [some (kr 57), none, none] [] := by
  unfold pf_Oracle_richest_57 at h
  refine kw_iconst C (kdec dc_Oracle_richest 0 rfl) 1 rfl rfl ⟨by decide, by decide⟩ ?_
  obtain ⟨x1_1, ex1_1, h⟩ := klet_h h
  refine kw_top ex1_1 ?_
  refine kw_istore_n (L' := [some (kr 57), some (ki x1_1), none]) C (kdec dc_Oracle_richest 1 rfl) rfl 2 rfl (by decide) rfl rfl ?_
  refine kw_iconst C (kdec dc_Oracle_richest 2 rfl) 3 rfl rfl ⟨by decide, by decide⟩ ?_
  refine kw_istore_n (L' := [some (kr 57), some (ki x1_1), some (ki 0)]) C (kdec dc_Oracle_richest 3 rfl) rfl 4 rfl (by decide) rfl rfl ?_
  obtain ⟨ex_5, hl_6, h⟩ := kbind_h h
  refine lp_pf_Oracle_richest_57_l4 C σ ?_ kFuel x1_1 0 hl_6
  · intro x1_7 e
    subst ex_5
    try dsimp only at h
    refine kw_iload_n C (kdec dc_Oracle_richest 31 rfl) rfl 54 rfl rfl ?_
    obtain rfl := Option.some.inj h
    exact kw_Q (hR _ rfl) (kw_ireturn C (kdec dc_Oracle_richest 32 rfl))
theorem mt_pf_Oracle_richest_57 (l0 : Launch) {σ : kM} {r : Int} (h : pf_Oracle_richest_57 σ = some r) : kMet l0 ky_Oracle_richest prog_5_method_4_code 3 (some .int) R0_pf_Oracle_richest_57 kcl yC σ [kr 57] (some (ki r)) σ := kMet.of' [some (kr 57), none, none] (by decide) (Nat.le_of_ble_eq_true rfl) ⟨rfl, trivial⟩ (fun x C => bd_pf_Oracle_richest_57 C σ h (fun r e => by subst e; rfl))
def R0_pf_Oracle_poorestPoet_57 : Room := ({ frames := 0, cells := 0, slots := 0, locals := 0 } : Room)
def pf_Oracle_poorestPoet_57_l4_j49 (σ : kM) (x1 : Int) (x2 : Int) : Option ((Int × Int) ⊕ ((Int))) :=
  klet (w32 (x2 + 1)) fun x2_2 =>
  some (Sum.inl (x1, x2_2))
set_option maxHeartbeats 4000000 in
theorem bd_pf_Oracle_poorestPoet_57_l4_j49 {x : kX} {l0 : Launch} {Q : State → Prop} (C : kCx x prog_5_method_5_code "PoetFines$Oracle" (some .int) kcl yC 3 l0 R0_pf_Oracle_poorestPoet_57) (σ : kM) (x1 : Int) (x2 : Int) {out : (Int × Int) ⊕ ((Int))} (h : pf_Oracle_poorestPoet_57_l4_j49 σ x1 x2 = some out) (hC : ∀ (x1' : Int) (x2' : Int), out = Sum.inl (x1', x2') → KW x 0 0 Q σ 4 [some (kr 57), some (ki x1'), some (ki x2')] []) (hX55 : ∀ (x1' : Int), out = Sum.inr x1' → KW x 0 0 Q σ 55 [none, some (ki x1'), none] []) : KW x 0 0 Q σ 49 [some (kr 57), some (ki x1), some (ki x2)] [] := by
  unfold pf_Oracle_poorestPoet_57_l4_j49 at h
  obtain ⟨x2_2, ex2_2, h⟩ := klet_h h
  refine kw_iinc (L' := [some (kr 57), some (ki x1), some (ki x2_2)]) C (kdec dc_Oracle_poorestPoet 29 rfl) 52 rfl rfl (by decide) rfl (by rw [ex2_2]; rfl) ?_
  refine kw_goto C (kdec dc_Oracle_poorestPoet 30 rfl) 4 (by decide) ?_
  obtain rfl := Option.some.inj h
  exact (hC _ _ rfl)
def pf_Oracle_poorestPoet_57_l4_j47 (σ : kM) (x2 : Int) : Option ((Int × Int) ⊕ ((Int))) :=
  pf_Oracle_poorestPoet_57_l4_j49 σ x2 x2
set_option maxHeartbeats 4000000 in
theorem bd_pf_Oracle_poorestPoet_57_l4_j47 {x : kX} {l0 : Launch} {Q : State → Prop} (C : kCx x prog_5_method_5_code "PoetFines$Oracle" (some .int) kcl yC 3 l0 R0_pf_Oracle_poorestPoet_57) (σ : kM) (x2 : Int) {out : (Int × Int) ⊕ ((Int))} (h : pf_Oracle_poorestPoet_57_l4_j47 σ x2 = some out) (hC : ∀ (x1' : Int) (x2' : Int), out = Sum.inl (x1', x2') → KW x 0 0 Q σ 4 [some (kr 57), some (ki x1'), some (ki x2')] []) (hX55 : ∀ (x1' : Int), out = Sum.inr x1' → KW x 0 0 Q σ 55 [none, some (ki x1'), none] []) : KW x 0 0 Q σ 47 [some (kr 57), none, some (ki x2)] [] := by
  unfold pf_Oracle_poorestPoet_57_l4_j47 at h
  refine kw_iload_n C (kdec dc_Oracle_poorestPoet 27 rfl) rfl 48 rfl rfl ?_
  refine kw_istore_n (L' := [some (kr 57), some (ki x2), some (ki x2)]) C (kdec dc_Oracle_poorestPoet 28 rfl) rfl 49 rfl (by decide) rfl rfl ?_
  exact bd_pf_Oracle_poorestPoet_57_l4_j49 C σ x2 x2 h hC hX55
def pf_Oracle_poorestPoet_57_l4 (σ : kM) (x1 : Int) (x2 : Int) : Option ((Int × Int) ⊕ ((Int))) :=
  if (σ 3 2) ≤ x2 then
    some (Sum.inr x1)
  else
    if x1 = ((-1)) then
      pf_Oracle_poorestPoet_57_l4_j47 σ x2
    else
      kchk (0 ≤ (w32 (49 + x2)) ∧ (w32 (49 + x2)) < 85) <|
      kchk (0 ≤ (w32 (49 + x1)) ∧ (w32 (49 + x1)) < 85) <|
      if (σ 59 (w32 (49 + x1)).toNat) ≤ (σ 59 (w32 (49 + x2)).toNat) then
        pf_Oracle_poorestPoet_57_l4_j49 σ x1 x2
      else
        pf_Oracle_poorestPoet_57_l4_j47 σ x2
set_option maxHeartbeats 4000000 in
theorem bd_pf_Oracle_poorestPoet_57_l4 {x : kX} {l0 : Launch} {Q : State → Prop} (C : kCx x prog_5_method_5_code "PoetFines$Oracle" (some .int) kcl yC 3 l0 R0_pf_Oracle_poorestPoet_57) (σ : kM) (x1 : Int) (x2 : Int) {out : (Int × Int) ⊕ ((Int))} (h : pf_Oracle_poorestPoet_57_l4 σ x1 x2 = some out) (hC : ∀ (x1' : Int) (x2' : Int), out = Sum.inl (x1', x2') → KW x 0 0 Q σ 4 [some (kr 57), some (ki x1'), some (ki x2')] []) (hX55 : ∀ (x1' : Int), out = Sum.inr x1' → KW x 0 0 Q σ 55 [none, some (ki x1'), none] []) : KW x 0 0 Q σ 4 [some (kr 57), some (ki x1), some (ki x2)] [] := by
  unfold pf_Oracle_poorestPoet_57_l4 at h
  refine kw_iload_n C (kdec dc_Oracle_poorestPoet 4 rfl) rfl 5 rfl rfl ?_
  refine kw_aload_n C (kdec dc_Oracle_poorestPoet 5 rfl) rfl 6 rfl rfl ?_
  refine kw_getR C (kdec dc_Oracle_poorestPoet 6 rfl) 9 rfl fd_C_Oracle_42_57 ?_
  refine kw_getI C (kdec dc_Oracle_poorestPoet 7 rfl) 12 rfl fd_C_Oracle_87_3 ?_
  refine kw_icmp_ge C (kdec dc_Oracle_poorestPoet 8 rfl) 55 15 (by decide) rfl (fun hc12 => ?_) (fun hc12 => ?_)
  · rw [if_pos hc12] at h
    obtain rfl := Option.some.inj h
    exact kw_sub (L' := [none, some (ki x1), none]) ⟨rfl, trivial⟩ (hX55 _ rfl)
  · rw [if_neg hc12] at h
    refine kw_iload_n C (kdec dc_Oracle_poorestPoet 9 rfl) rfl 16 rfl rfl ?_
    refine kw_iconst C (kdec dc_Oracle_poorestPoet 10 rfl) 17 rfl rfl ⟨by decide, by decide⟩ ?_
    refine kw_icmp_eq C (kdec dc_Oracle_poorestPoet 11 rfl) 47 20 (by decide) rfl (fun hc17 => ?_) (fun hc17 => ?_)
    · rw [if_pos hc17] at h
      exact kw_sub (L' := [some (kr 57), none, some (ki x2)]) ⟨rfl, rfl, trivial⟩ (bd_pf_Oracle_poorestPoet_57_l4_j47 C σ x2 h hC hX55)
    · rw [if_neg hc17] at h
      refine kw_aload_n C (kdec dc_Oracle_poorestPoet 12 rfl) rfl 21 rfl rfl ?_
      refine kw_getR C (kdec dc_Oracle_poorestPoet 13 rfl) 24 rfl fd_C_Oracle_12_57 ?_
      refine kw_getR C (kdec dc_Oracle_poorestPoet 14 rfl) 27 rfl fd_C_Oracle_84_58 ?_
      refine kw_bipush (v := 49) C (kdec dc_Oracle_poorestPoet 15 rfl) 29 rfl (by decide) ⟨by decide, by decide⟩ ?_
      refine kw_iload_n C (kdec dc_Oracle_poorestPoet 16 rfl) rfl 30 rfl rfl ?_
      refine kw_iadd C (kdec dc_Oracle_poorestPoet 17 rfl) 31 rfl ?_
      obtain ⟨hc_3, h⟩ := kchk_h h
      refine kw_iald C (kdec dc_Oracle_poorestPoet 18 rfl) 32 rfl rfl hc_3.1 hc_3.2 ?_
      refine kw_aload_n C (kdec dc_Oracle_poorestPoet 19 rfl) rfl 33 rfl rfl ?_
      refine kw_getR C (kdec dc_Oracle_poorestPoet 20 rfl) 36 rfl fd_C_Oracle_12_57 ?_
      refine kw_getR C (kdec dc_Oracle_poorestPoet 21 rfl) 39 rfl fd_C_Oracle_84_58 ?_
      refine kw_bipush (v := 49) C (kdec dc_Oracle_poorestPoet 22 rfl) 41 rfl (by decide) ⟨by decide, by decide⟩ ?_
      refine kw_iload_n C (kdec dc_Oracle_poorestPoet 23 rfl) rfl 42 rfl rfl ?_
      refine kw_iadd C (kdec dc_Oracle_poorestPoet 24 rfl) 43 rfl ?_
      obtain ⟨hc_4, h⟩ := kchk_h h
      refine kw_iald C (kdec dc_Oracle_poorestPoet 25 rfl) 44 rfl rfl hc_4.1 hc_4.2 ?_
      refine kw_icmp_ge C (kdec dc_Oracle_poorestPoet 26 rfl) 49 47 (by decide) rfl (fun hc44 => ?_) (fun hc44 => ?_)
      · rw [if_pos hc44] at h
        exact bd_pf_Oracle_poorestPoet_57_l4_j49 C σ x1 x2 h hC hX55
      · rw [if_neg hc44] at h
        exact kw_sub (L' := [some (kr 57), none, some (ki x2)]) ⟨rfl, rfl, trivial⟩ (bd_pf_Oracle_poorestPoet_57_l4_j47 C σ x2 h hC hX55)
theorem lp_pf_Oracle_poorestPoet_57_l4 {x : kX} {l0 : Launch} {Q : State → Prop} (C : kCx x prog_5_method_5_code "PoetFines$Oracle" (some .int) kcl yC 3 l0 R0_pf_Oracle_poorestPoet_57) (σ : kM) {ex : (Int)} (hX55 : ∀ (x1' : Int), ex = x1' → KW x 0 0 Q σ 55 [none, some (ki x1'), none] []) (n : Nat) (x1 : Int) (x2 : Int) (h : kloop (fun st => pf_Oracle_poorestPoet_57_l4 σ st.1 st.2) n (x1, x2) = some ex) : KW x 0 0 Q σ 4 [some (kr 57), some (ki x1), some (ki x2)] [] :=
  kloop_ind (P := (fun st : Int × Int => KW x 0 0 Q σ 4 [some (kr 57), some (ki (st.1)), some (ki (st.2))] [])) (fun st out hb hc hx => bd_pf_Oracle_poorestPoet_57_l4 C σ st.1 st.2 hb (fun a0 a1 e => hc _ e) (fun a0 e => hX55 _ ((hx _ e).symm))) n (x1, x2) h
def pf_Oracle_poorestPoet_57 (σ : kM) : Option (Int) :=
  klet ((-1)) fun x1_1 =>
  (kloop (fun st => pf_Oracle_poorestPoet_57_l4 σ st.1 st.2) kFuel (x1_1, 0)).bind fun x1_7 =>
  some x1_7
set_option maxHeartbeats 4000000 in
theorem bd_pf_Oracle_poorestPoet_57 {x : kX} {l0 : Launch} {Q : State → Prop} (C : kCx x prog_5_method_5_code "PoetFines$Oracle" (some .int) kcl yC 3 l0 R0_pf_Oracle_poorestPoet_57) (σ : kM) {out : Int} (h : pf_Oracle_poorestPoet_57 σ = some out) (hR : ∀ (r : Int), out = r → Q = kQ x (some (ki r)) σ 0 0) : KW x 0 0 Q σ 0 [some (kr 57), none, none] [] := by
  unfold pf_Oracle_poorestPoet_57 at h
  refine kw_iconst C (kdec dc_Oracle_poorestPoet 0 rfl) 1 rfl rfl ⟨by decide, by decide⟩ ?_
  obtain ⟨x1_1, ex1_1, h⟩ := klet_h h
  refine kw_top ex1_1 ?_
  refine kw_istore_n (L' := [some (kr 57), some (ki x1_1), none]) C (kdec dc_Oracle_poorestPoet 1 rfl) rfl 2 rfl (by decide) rfl rfl ?_
  refine kw_iconst C (kdec dc_Oracle_poorestPoet 2 rfl) 3 rfl rfl ⟨by decide, by decide⟩ ?_
  refine kw_istore_n (L' := [some (kr 57), some (ki x1_1), some (ki 0)]) C (kdec dc_Oracle_poorestPoet 3 rfl) rfl 4 rfl (by decide) rfl rfl ?_
  obtain ⟨ex_5, hl_6, h⟩ := kbind_h h
  refine lp_pf_Oracle_poorestPoet_57_l4 C σ ?_ kFuel x1_1 0 hl_6
  · intro x1_7 e
    subst ex_5
    try dsimp only at h
    refine kw_iload_n C (kdec dc_Oracle_poorestPoet 31 rfl) rfl 56 rfl rfl ?_
    obtain rfl := Option.some.inj h
    exact kw_Q (hR _ rfl) (kw_ireturn C (kdec dc_Oracle_poorestPoet 32 rfl))
theorem mt_pf_Oracle_poorestPoet_57 (l0 : Launch) {σ : kM} {r : Int} (h : pf_Oracle_poorestPoet_57 σ = some r) : kMet l0 ky_Oracle_poorestPoet prog_5_method_5_code 3 (some .int) R0_pf_Oracle_poorestPoet_57 kcl yC σ [kr 57] (some (ki r)) σ := kMet.of' [some (kr 57), none, none] (by decide) (Nat.le_of_ble_eq_true rfl) ⟨rfl, trivial⟩ (fun x C => bd_pf_Oracle_poorestPoet_57 C σ h (fun r e => by subst e; rfl))
def R0_pf_World_sitting_58 : Room := ({ frames := 0, cells := 0, slots := 0, locals := 0 } : Room)
def pf_World_sitting_58_l4_j29 (σ : kM) (x1 : Int) (x3 : Int) (s0 : Int) (s1 : Int) : Option ((Int × Int) ⊕ ((Int))) :=
  klet (kor s1 s0) fun x2_2 =>
  klet (w32 (x3 + 1)) fun x3_3 =>
  some (Sum.inl (x2_2, x3_3))
set_option maxHeartbeats 4000000 in
theorem bd_pf_World_sitting_58_l4_j29 {x : kX} {l0 : Launch} {Q : State → Prop} (C : kCx x prog_12_method_10_code "PoetFines$World" (some .int) kcl yC 4 l0 R0_pf_World_sitting_58) (σ : kM) (x1 : Int) (x3 : Int) (s0 : Int) (s1 : Int) {out : (Int × Int) ⊕ ((Int))} (h : pf_World_sitting_58_l4_j29 σ x1 x3 s0 s1 = some out) (hC : ∀ (x2' : Int) (x3' : Int), out = Sum.inl (x2', x3') → KW x 0 0 Q σ 4 [some (kr 58), some (ki x1), some (ki x2'), some (ki x3')] []) (hX37 : ∀ (x2' : Int), out = Sum.inr x2' → KW x 0 0 Q σ 37 [none, none, some (ki x2'), none] []) : KW x 0 0 Q σ 29 [some (kr 58), some (ki x1), none, some (ki x3)] [ki s0, ki s1] := by
  unfold pf_World_sitting_58_l4_j29 at h
  refine kw_ior C (kdec dc_World_sitting 20 rfl) 30 rfl ?_
  obtain ⟨x2_2, ex2_2, h⟩ := klet_h h
  refine kw_top ex2_2 ?_
  refine kw_istore_n (L' := [some (kr 58), some (ki x1), some (ki x2_2), some (ki x3)]) C (kdec dc_World_sitting 21 rfl) rfl 31 rfl (by decide) rfl rfl ?_
  obtain ⟨x3_3, ex3_3, h⟩ := klet_h h
  refine kw_iinc (L' := [some (kr 58), some (ki x1), some (ki x2_2), some (ki x3_3)]) C (kdec dc_World_sitting 22 rfl) 34 rfl rfl (by decide) rfl (by rw [ex3_3]; rfl) ?_
  refine kw_goto C (kdec dc_World_sitting 23 rfl) 4 (by decide) ?_
  obtain rfl := Option.some.inj h
  exact (hC _ _ rfl)
def pf_World_sitting_58_l4 (σ : kM) (x1 : Int) (x2 : Int) (x3 : Int) : Option ((Int × Int) ⊕ ((Int))) :=
  if x1 ≤ x3 then
    some (Sum.inr x2)
  else
    kchk (0 ≤ (w32 (57 + x3)) ∧ (w32 (57 + x3)) < 85) <|
    if (σ 59 (w32 (57 + x3)).toNat) ≤ 0 then
      pf_World_sitting_58_l4_j29 σ x1 x3 0 x2
    else
      pf_World_sitting_58_l4_j29 σ x1 x3 (kshl 1 x3) x2
set_option maxHeartbeats 4000000 in
theorem bd_pf_World_sitting_58_l4 {x : kX} {l0 : Launch} {Q : State → Prop} (C : kCx x prog_12_method_10_code "PoetFines$World" (some .int) kcl yC 4 l0 R0_pf_World_sitting_58) (σ : kM) (x1 : Int) (x2 : Int) (x3 : Int) {out : (Int × Int) ⊕ ((Int))} (h : pf_World_sitting_58_l4 σ x1 x2 x3 = some out) (hC : ∀ (x2' : Int) (x3' : Int), out = Sum.inl (x2', x3') → KW x 0 0 Q σ 4 [some (kr 58), some (ki x1), some (ki x2'), some (ki x3')] []) (hX37 : ∀ (x2' : Int), out = Sum.inr x2' → KW x 0 0 Q σ 37 [none, none, some (ki x2'), none] []) : KW x 0 0 Q σ 4 [some (kr 58), some (ki x1), some (ki x2), some (ki x3)] [] := by
  unfold pf_World_sitting_58_l4 at h
  refine kw_iload_n C (kdec dc_World_sitting 4 rfl) rfl 5 rfl rfl ?_
  refine kw_iload_n C (kdec dc_World_sitting 5 rfl) rfl 6 rfl rfl ?_
  refine kw_icmp_ge C (kdec dc_World_sitting 6 rfl) 37 9 (by decide) rfl (fun hc6 => ?_) (fun hc6 => ?_)
  · rw [if_pos hc6] at h
    obtain rfl := Option.some.inj h
    exact kw_sub (L' := [none, none, some (ki x2), none]) ⟨rfl, trivial⟩ (hX37 _ rfl)
  · rw [if_neg hc6] at h
    refine kw_iload_n C (kdec dc_World_sitting 7 rfl) rfl 10 rfl rfl ?_
    refine kw_aload_n C (kdec dc_World_sitting 8 rfl) rfl 11 rfl rfl ?_
    refine kw_getR C (kdec dc_World_sitting 9 rfl) 14 rfl fd_C_World_11_58 ?_
    refine kw_bipush (v := 57) C (kdec dc_World_sitting 10 rfl) 16 rfl (by decide) ⟨by decide, by decide⟩ ?_
    refine kw_iload_n C (kdec dc_World_sitting 11 rfl) rfl 17 rfl rfl ?_
    refine kw_iadd C (kdec dc_World_sitting 12 rfl) 18 rfl ?_
    obtain ⟨hc_1, h⟩ := kchk_h h
    refine kw_iald C (kdec dc_World_sitting 13 rfl) 19 rfl rfl hc_1.1 hc_1.2 ?_
    refine kw_if_le C (kdec dc_World_sitting 14 rfl) 28 22 (by decide) rfl (fun hc19 => ?_) (fun hc19 => ?_)
    · rw [if_pos hc19] at h
      refine kw_iconst C (kdec dc_World_sitting 19 rfl) 29 rfl rfl ⟨by decide, by decide⟩ ?_
      exact kw_sub (L' := [some (kr 58), some (ki x1), none, some (ki x3)]) ⟨rfl, rfl, rfl, trivial⟩ (bd_pf_World_sitting_58_l4_j29 C σ x1 x3 0 x2 h hC hX37)
    · rw [if_neg hc19] at h
      refine kw_iconst C (kdec dc_World_sitting 15 rfl) 23 rfl rfl ⟨by decide, by decide⟩ ?_
      refine kw_iload_n C (kdec dc_World_sitting 16 rfl) rfl 24 rfl rfl ?_
      refine kw_ishl C (kdec dc_World_sitting 17 rfl) 25 rfl ?_
      refine kw_goto C (kdec dc_World_sitting 18 rfl) 29 (by decide) ?_
      exact kw_sub (L' := [some (kr 58), some (ki x1), none, some (ki x3)]) ⟨rfl, rfl, rfl, trivial⟩ (bd_pf_World_sitting_58_l4_j29 C σ x1 x3 (kshl 1 x3) x2 h hC hX37)
theorem lp_pf_World_sitting_58_l4 {x : kX} {l0 : Launch} {Q : State → Prop} (C : kCx x prog_12_method_10_code "PoetFines$World" (some .int) kcl yC 4 l0 R0_pf_World_sitting_58) (σ : kM) (x1 : Int) {ex : (Int)} (hX37 : ∀ (x2' : Int), ex = x2' → KW x 0 0 Q σ 37 [none, none, some (ki x2'), none] []) (n : Nat) (x2 : Int) (x3 : Int) (h : kloop (fun st => pf_World_sitting_58_l4 σ x1 st.1 st.2) n (x2, x3) = some ex) : KW x 0 0 Q σ 4 [some (kr 58), some (ki x1), some (ki x2), some (ki x3)] [] :=
  kloop_ind (P := (fun st : Int × Int => KW x 0 0 Q σ 4 [some (kr 58), some (ki x1), some (ki (st.1)), some (ki (st.2))] [])) (fun st out hb hc hx => bd_pf_World_sitting_58_l4 C σ x1 st.1 st.2 hb (fun a0 a1 e => hc _ e) (fun a0 e => hX37 _ ((hx _ e).symm))) n (x2, x3) h
def pf_World_sitting_58 (σ : kM) (x1 : Int) : Option (Int) :=
  (kloop (fun st => pf_World_sitting_58_l4 σ x1 st.1 st.2) kFuel (0, 0)).bind fun x2_6 =>
  some x2_6
set_option maxHeartbeats 4000000 in
theorem bd_pf_World_sitting_58 {x : kX} {l0 : Launch} {Q : State → Prop} (C : kCx x prog_12_method_10_code "PoetFines$World" (some .int) kcl yC 4 l0 R0_pf_World_sitting_58) (σ : kM) (x1 : Int) {out : Int} (h : pf_World_sitting_58 σ x1 = some out) (hR : ∀ (r : Int), out = r → Q = kQ x (some (ki r)) σ 0 0) : KW x 0 0 Q σ 0 [some (kr 58), some (ki x1), none, none] [] := by
  unfold pf_World_sitting_58 at h
  refine kw_iconst C (kdec dc_World_sitting 0 rfl) 1 rfl rfl ⟨by decide, by decide⟩ ?_
  refine kw_istore_n (L' := [some (kr 58), some (ki x1), some (ki 0), none]) C (kdec dc_World_sitting 1 rfl) rfl 2 rfl (by decide) rfl rfl ?_
  refine kw_iconst C (kdec dc_World_sitting 2 rfl) 3 rfl rfl ⟨by decide, by decide⟩ ?_
  refine kw_istore_n (L' := [some (kr 58), some (ki x1), some (ki 0), some (ki 0)]) C (kdec dc_World_sitting 3 rfl) rfl 4 rfl (by decide) rfl rfl ?_
  obtain ⟨ex_4, hl_5, h⟩ := kbind_h h
  refine lp_pf_World_sitting_58_l4 C σ x1 ?_ kFuel 0 0 hl_5
  · intro x2_6 e
    subst ex_4
    try dsimp only at h
    refine kw_iload_n C (kdec dc_World_sitting 24 rfl) rfl 38 rfl rfl ?_
    obtain rfl := Option.some.inj h
    exact kw_Q (hR _ rfl) (kw_ireturn C (kdec dc_World_sitting 25 rfl))
theorem mt_pf_World_sitting_58 (l0 : Launch) {σ : kM} {x1 : Int} {r : Int} (h : pf_World_sitting_58 σ x1 = some r) : kMet l0 ky_World_sitting prog_12_method_10_code 4 (some .int) R0_pf_World_sitting_58 kcl yC σ [kr 58, ki x1] (some (ki r)) σ := kMet.of' [some (kr 58), some (ki x1), none, none] (by decide) (Nat.le_of_ble_eq_true rfl) ⟨rfl, rfl, trivial⟩ (fun x C => bd_pf_World_sitting_58 C σ x1 h (fun r e => by subst e; rfl))
def R0_pf_World_unscarred_58 : Room := ({ frames := 0, cells := 0, slots := 0, locals := 0 } : Room)
def pf_World_unscarred_58_l4_j29 (σ : kM) (x1 : Int) (x3 : Int) (s0 : Int) (s1 : Int) : Option ((Int × Int) ⊕ ((Int))) :=
  klet (kor s1 s0) fun x2_2 =>
  klet (w32 (x3 + 1)) fun x3_3 =>
  some (Sum.inl (x2_2, x3_3))
set_option maxHeartbeats 4000000 in
theorem bd_pf_World_unscarred_58_l4_j29 {x : kX} {l0 : Launch} {Q : State → Prop} (C : kCx x prog_12_method_9_code "PoetFines$World" (some .int) kcl yC 4 l0 R0_pf_World_unscarred_58) (σ : kM) (x1 : Int) (x3 : Int) (s0 : Int) (s1 : Int) {out : (Int × Int) ⊕ ((Int))} (h : pf_World_unscarred_58_l4_j29 σ x1 x3 s0 s1 = some out) (hC : ∀ (x2' : Int) (x3' : Int), out = Sum.inl (x2', x3') → KW x 0 0 Q σ 4 [some (kr 58), some (ki x1), some (ki x2'), some (ki x3')] []) (hX37 : ∀ (x2' : Int), out = Sum.inr x2' → KW x 0 0 Q σ 37 [none, none, some (ki x2'), none] []) : KW x 0 0 Q σ 29 [some (kr 58), some (ki x1), none, some (ki x3)] [ki s0, ki s1] := by
  unfold pf_World_unscarred_58_l4_j29 at h
  refine kw_ior C (kdec dc_World_unscarred 20 rfl) 30 rfl ?_
  obtain ⟨x2_2, ex2_2, h⟩ := klet_h h
  refine kw_top ex2_2 ?_
  refine kw_istore_n (L' := [some (kr 58), some (ki x1), some (ki x2_2), some (ki x3)]) C (kdec dc_World_unscarred 21 rfl) rfl 31 rfl (by decide) rfl rfl ?_
  obtain ⟨x3_3, ex3_3, h⟩ := klet_h h
  refine kw_iinc (L' := [some (kr 58), some (ki x1), some (ki x2_2), some (ki x3_3)]) C (kdec dc_World_unscarred 22 rfl) 34 rfl rfl (by decide) rfl (by rw [ex3_3]; rfl) ?_
  refine kw_goto C (kdec dc_World_unscarred 23 rfl) 4 (by decide) ?_
  obtain rfl := Option.some.inj h
  exact (hC _ _ rfl)
def pf_World_unscarred_58_l4 (σ : kM) (x1 : Int) (x2 : Int) (x3 : Int) : Option ((Int × Int) ⊕ ((Int))) :=
  if x1 ≤ x3 then
    some (Sum.inr x2)
  else
    kchk (0 ≤ (w32 (9 + x3)) ∧ (w32 (9 + x3)) < 85) <|
    if (σ 59 (w32 (9 + x3)).toNat) = 0 then
      pf_World_unscarred_58_l4_j29 σ x1 x3 (kshl 1 x3) x2
    else
      pf_World_unscarred_58_l4_j29 σ x1 x3 0 x2
set_option maxHeartbeats 4000000 in
theorem bd_pf_World_unscarred_58_l4 {x : kX} {l0 : Launch} {Q : State → Prop} (C : kCx x prog_12_method_9_code "PoetFines$World" (some .int) kcl yC 4 l0 R0_pf_World_unscarred_58) (σ : kM) (x1 : Int) (x2 : Int) (x3 : Int) {out : (Int × Int) ⊕ ((Int))} (h : pf_World_unscarred_58_l4 σ x1 x2 x3 = some out) (hC : ∀ (x2' : Int) (x3' : Int), out = Sum.inl (x2', x3') → KW x 0 0 Q σ 4 [some (kr 58), some (ki x1), some (ki x2'), some (ki x3')] []) (hX37 : ∀ (x2' : Int), out = Sum.inr x2' → KW x 0 0 Q σ 37 [none, none, some (ki x2'), none] []) : KW x 0 0 Q σ 4 [some (kr 58), some (ki x1), some (ki x2), some (ki x3)] [] := by
  unfold pf_World_unscarred_58_l4 at h
  refine kw_iload_n C (kdec dc_World_unscarred 4 rfl) rfl 5 rfl rfl ?_
  refine kw_iload_n C (kdec dc_World_unscarred 5 rfl) rfl 6 rfl rfl ?_
  refine kw_icmp_ge C (kdec dc_World_unscarred 6 rfl) 37 9 (by decide) rfl (fun hc6 => ?_) (fun hc6 => ?_)
  · rw [if_pos hc6] at h
    obtain rfl := Option.some.inj h
    exact kw_sub (L' := [none, none, some (ki x2), none]) ⟨rfl, trivial⟩ (hX37 _ rfl)
  · rw [if_neg hc6] at h
    refine kw_iload_n C (kdec dc_World_unscarred 7 rfl) rfl 10 rfl rfl ?_
    refine kw_aload_n C (kdec dc_World_unscarred 8 rfl) rfl 11 rfl rfl ?_
    refine kw_getR C (kdec dc_World_unscarred 9 rfl) 14 rfl fd_C_World_11_58 ?_
    refine kw_bipush (v := 9) C (kdec dc_World_unscarred 10 rfl) 16 rfl (by decide) ⟨by decide, by decide⟩ ?_
    refine kw_iload_n C (kdec dc_World_unscarred 11 rfl) rfl 17 rfl rfl ?_
    refine kw_iadd C (kdec dc_World_unscarred 12 rfl) 18 rfl ?_
    obtain ⟨hc_1, h⟩ := kchk_h h
    refine kw_iald C (kdec dc_World_unscarred 13 rfl) 19 rfl rfl hc_1.1 hc_1.2 ?_
    refine kw_if_ne C (kdec dc_World_unscarred 14 rfl) 28 22 (by decide) rfl (fun hc19 => ?_) (fun hc19 => ?_)
    · rw [if_neg hc19] at h
      refine kw_iconst C (kdec dc_World_unscarred 19 rfl) 29 rfl rfl ⟨by decide, by decide⟩ ?_
      exact kw_sub (L' := [some (kr 58), some (ki x1), none, some (ki x3)]) ⟨rfl, rfl, rfl, trivial⟩ (bd_pf_World_unscarred_58_l4_j29 C σ x1 x3 0 x2 h hC hX37)
    · rw [if_pos hc19] at h
      refine kw_iconst C (kdec dc_World_unscarred 15 rfl) 23 rfl rfl ⟨by decide, by decide⟩ ?_
      refine kw_iload_n C (kdec dc_World_unscarred 16 rfl) rfl 24 rfl rfl ?_
      refine kw_ishl C (kdec dc_World_unscarred 17 rfl) 25 rfl ?_
      refine kw_goto C (kdec dc_World_unscarred 18 rfl) 29 (by decide) ?_
      exact kw_sub (L' := [some (kr 58), some (ki x1), none, some (ki x3)]) ⟨rfl, rfl, rfl, trivial⟩ (bd_pf_World_unscarred_58_l4_j29 C σ x1 x3 (kshl 1 x3) x2 h hC hX37)
theorem lp_pf_World_unscarred_58_l4 {x : kX} {l0 : Launch} {Q : State → Prop} (C : kCx x prog_12_method_9_code "PoetFines$World" (some .int) kcl yC 4 l0 R0_pf_World_unscarred_58) (σ : kM) (x1 : Int) {ex : (Int)} (hX37 : ∀ (x2' : Int), ex = x2' → KW x 0 0 Q σ 37 [none, none, some (ki x2'), none] []) (n : Nat) (x2 : Int) (x3 : Int) (h : kloop (fun st => pf_World_unscarred_58_l4 σ x1 st.1 st.2) n (x2, x3) = some ex) : KW x 0 0 Q σ 4 [some (kr 58), some (ki x1), some (ki x2), some (ki x3)] [] :=
  kloop_ind (P := (fun st : Int × Int => KW x 0 0 Q σ 4 [some (kr 58), some (ki x1), some (ki (st.1)), some (ki (st.2))] [])) (fun st out hb hc hx => bd_pf_World_unscarred_58_l4 C σ x1 st.1 st.2 hb (fun a0 a1 e => hc _ e) (fun a0 e => hX37 _ ((hx _ e).symm))) n (x2, x3) h
def pf_World_unscarred_58 (σ : kM) (x1 : Int) : Option (Int) :=
  (kloop (fun st => pf_World_unscarred_58_l4 σ x1 st.1 st.2) kFuel (0, 0)).bind fun x2_6 =>
  some x2_6
set_option maxHeartbeats 4000000 in
theorem bd_pf_World_unscarred_58 {x : kX} {l0 : Launch} {Q : State → Prop} (C : kCx x prog_12_method_9_code "PoetFines$World" (some .int) kcl yC 4 l0 R0_pf_World_unscarred_58) (σ : kM) (x1 : Int) {out : Int} (h : pf_World_unscarred_58 σ x1 = some out) (hR : ∀ (r : Int), out = r → Q = kQ x (some (ki r)) σ 0 0) : KW x 0 0 Q σ 0 [some (kr 58), some (ki x1), none, none] [] := by
  unfold pf_World_unscarred_58 at h
  refine kw_iconst C (kdec dc_World_unscarred 0 rfl) 1 rfl rfl ⟨by decide, by decide⟩ ?_
  refine kw_istore_n (L' := [some (kr 58), some (ki x1), some (ki 0), none]) C (kdec dc_World_unscarred 1 rfl) rfl 2 rfl (by decide) rfl rfl ?_
  refine kw_iconst C (kdec dc_World_unscarred 2 rfl) 3 rfl rfl ⟨by decide, by decide⟩ ?_
  refine kw_istore_n (L' := [some (kr 58), some (ki x1), some (ki 0), some (ki 0)]) C (kdec dc_World_unscarred 3 rfl) rfl 4 rfl (by decide) rfl rfl ?_
  obtain ⟨ex_4, hl_5, h⟩ := kbind_h h
  refine lp_pf_World_unscarred_58_l4 C σ x1 ?_ kFuel 0 0 hl_5
  · intro x2_6 e
    subst ex_4
    try dsimp only at h
    refine kw_iload_n C (kdec dc_World_unscarred 24 rfl) rfl 38 rfl rfl ?_
    obtain rfl := Option.some.inj h
    exact kw_Q (hR _ rfl) (kw_ireturn C (kdec dc_World_unscarred 25 rfl))
theorem mt_pf_World_unscarred_58 (l0 : Launch) {σ : kM} {x1 : Int} {r : Int} (h : pf_World_unscarred_58 σ x1 = some r) : kMet l0 ky_World_unscarred prog_12_method_9_code 4 (some .int) R0_pf_World_unscarred_58 kcl yC σ [kr 58, ki x1] (some (ki r)) σ := kMet.of' [some (kr 58), some (ki x1), none, none] (by decide) (Nat.le_of_ble_eq_true rfl) ⟨rfl, rfl, trivial⟩ (fun x C => bd_pf_World_unscarred_58 C σ x1 h (fun r e => by subst e; rfl))
def R0_pf_P_later_0 : Room := ({ frames := 7, cells := 2, slots := 12, locals := 166 } : Room)
def pf_P_later_0 (σ : kM) (x1 : Int) (x2 : Int) : Option ((String ⊕ Int) × kM) :=
  (pf_P_needWhat_0 σ x2 4).bind fun q_18 => match q_18 with
  | (.inl E_3, σ_1) => some (.inl E_3, σ_1)
  | (.inr _, σ_1) =>
    (pf_P_needWithin_0 σ_1 x1 0 60).bind fun q_17 => match q_17 with
    | (.inl E_6, σ_4) => some (.inl E_6, σ_4)
    | (.inr _, σ_4) =>
      (pf_Oracle_foresee_57 σ_4 x1).bind fun σ_7 =>
      if x2 = 0 then
        (pf_Oracle_richest_57 σ_7).bind fun r_8 =>
        some ((.inr r_8, σ_7))
      else
        if x2 = 1 then
          (pf_Oracle_poorestPoet_57 σ_7).bind fun r_10 =>
          some ((.inr r_10, σ_7))
        else
          if x2 = 2 then
            (pf_World_sitting_58 σ_7 (σ_7 3 2)).bind fun r_12 =>
            some ((.inr r_12, σ_7))
          else
            if x2 = 3 then
              (pf_World_unscarred_58 σ_7 (σ_7 3 1)).bind fun r_14 =>
              some ((.inr r_14, σ_7))
            else
              some ((.inr (σ_7 65 7), σ_7))
set_option maxHeartbeats 4000000 in
theorem bd_pf_P_later_0 {x : kX} {l0 : Launch} {Q : State → Prop} (C : kCx x prog_1_method_19_code "PoetFines" (some .int) kcl yC 3 l0 R0_pf_P_later_0) (hT : kTb x) (hfl : l0.stackTraces = false) (σ : kM) (x1 : Int) (x2 : Int) {out : (String ⊕ Int) × kM} (h : pf_P_later_0 σ x1 x2 = some out) (hR : ∀ (r : Int) (τ : kM), out = (.inr r, τ) → Q = kQX x (.inr (some (ki r))) τ 2 12) (hE : ∀ (E : String) (τ : kM), out = (.inl E, τ) → Q = kQX x (.inl E) τ 2 12) : KW x 0 0 Q σ 0 [some (kr 0), some (ki x1), some (ki x2)] [] := by
  unfold pf_P_later_0 at h
  refine kw_aload_n C (kdec dc_P_later 0 rfl) rfl 1 rfl rfl ?_
  refine kw_iload_n C (kdec dc_P_later 1 rfl) rfl 2 rfl rfl ?_
  refine kw_iconst C (kdec dc_P_later 2 rfl) 3 rfl rfl ⟨by decide, by decide⟩ ?_
  obtain ⟨⟨q_18, σ_1⟩, hg_2, h⟩ := kbind_h h
  rcases q_18 with E_3 | _
  · dsimp only at h
    obtain rfl := Option.some.inj h
    exact kw_Q (hE _ _ rfl) (kw_callVX_t (As := [ki x2, ki 4]) C hT (kdec dc_P_later 3 rfl) cv_P_154 rfl rfl (me_pf_P_needWhat_0 l0 hfl hg_2) ⟨rfl, rfl⟩ ⟨Nat.le_of_ble_eq_true rfl, Nat.le_of_ble_eq_true rfl⟩ ⟨Nat.le_of_ble_eq_true rfl, Nat.le_of_ble_eq_true rfl⟩ rfl (Nat.le_of_ble_eq_true rfl) (Nat.le_of_ble_eq_true rfl) (Nat.le_of_ble_eq_true rfl))
  · dsimp only at h
    refine kw_callVX (As := [ki x2, ki 4]) C (kdec dc_P_later 3 rfl) 6 rfl cv_P_154 rfl rfl (mx_pf_P_needWhat_0 l0 hfl hg_2) ⟨rfl, rfl⟩ ⟨Nat.le_of_ble_eq_true rfl, Nat.le_of_ble_eq_true rfl⟩ ⟨Nat.le_of_ble_eq_true rfl, Nat.le_of_ble_eq_true rfl⟩ rfl (Nat.le_of_ble_eq_true rfl) ?_
    change KW x 1 6 Q σ_1 6 [some (kr 0), some (ki x1), some (ki x2)] []
    refine kw_aload_n C (kdec dc_P_later 4 rfl) rfl 7 rfl rfl ?_
    refine kw_iload_n C (kdec dc_P_later 5 rfl) rfl 8 rfl rfl ?_
    refine kw_iconst C (kdec dc_P_later 6 rfl) 9 rfl rfl ⟨by decide, by decide⟩ ?_
    refine kw_bipush (v := 60) C (kdec dc_P_later 7 rfl) 11 rfl (by decide) ⟨by decide, by decide⟩ ?_
    obtain ⟨⟨q_17, σ_4⟩, hg_5, h⟩ := kbind_h h
    rcases q_17 with E_6 | _
    · dsimp only at h
      obtain rfl := Option.some.inj h
      exact kw_Q (hE _ _ rfl) (kw_callVX_t (As := [ki x1, ki 0, ki 60]) C hT (kdec dc_P_later 8 rfl) cv_P_210 rfl rfl (me_pf_P_needWithin_0 l0 hfl hg_5) ⟨rfl, rfl⟩ ⟨Nat.le_of_ble_eq_true rfl, Nat.le_of_ble_eq_true rfl⟩ ⟨Nat.le_of_ble_eq_true rfl, Nat.le_of_ble_eq_true rfl⟩ rfl (Nat.le_of_ble_eq_true rfl) (Nat.le_of_ble_eq_true rfl) (Nat.le_of_ble_eq_true rfl))
    · dsimp only at h
      refine kw_callVX (As := [ki x1, ki 0, ki 60]) C (kdec dc_P_later 8 rfl) 14 rfl cv_P_210 rfl rfl (mx_pf_P_needWithin_0 l0 hfl hg_5) ⟨rfl, rfl⟩ ⟨Nat.le_of_ble_eq_true rfl, Nat.le_of_ble_eq_true rfl⟩ ⟨Nat.le_of_ble_eq_true rfl, Nat.le_of_ble_eq_true rfl⟩ rfl (Nat.le_of_ble_eq_true rfl) ?_
      change KW x 2 12 Q σ_4 14 [some (kr 0), some (ki x1), some (ki x2)] []
      refine kw_aload_n C (kdec dc_P_later 9 rfl) rfl 15 rfl rfl ?_
      refine kw_getR C (kdec dc_P_later 10 rfl) 18 rfl fd_C_P_81_0 ?_
      refine kw_iload_n C (kdec dc_P_later 11 rfl) rfl 19 rfl rfl ?_
      obtain ⟨σ_7, hg_16, h⟩ := kbind_h h
      refine kw_callV (As := [ki x1]) C (kdec dc_P_later 12 rfl) 22 rfl cv_P_213 rfl rfl (mt_pf_Oracle_foresee_57 l0 hg_16) ⟨rfl, rfl⟩ ⟨Nat.le_of_ble_eq_true rfl, Nat.le_of_ble_eq_true rfl⟩ ⟨Nat.le_of_ble_eq_true rfl, Nat.le_of_ble_eq_true rfl⟩ rfl (Nat.le_of_ble_eq_true rfl) ?_
      change KW x 2 12 Q σ_7 22 [some (kr 0), some (ki x1), some (ki x2)] []
      refine kw_iload_n C (kdec dc_P_later 13 rfl) rfl 23 rfl rfl ?_
      by_cases hc23_0 : x2 = 0
      · rw [if_pos hc23_0] at h
        refine kw_table C (kdec dc_P_later 14 rfl) 52 (Or.inr ⟨by omega, by omega, _, by rw [hc23_0]; rfl, by decide⟩) ?_
        refine kw_aload_n C (kdec dc_P_later 15 rfl) rfl 53 rfl rfl ?_
        refine kw_getR C (kdec dc_P_later 16 rfl) 56 rfl fd_C_P_81_0 ?_
        obtain ⟨r_8, hg_9, h⟩ := kbind_h h
        refine kw_callV (As := []) C (kdec dc_P_later 17 rfl) 59 rfl cv_P_237 rfl rfl (mt_pf_Oracle_richest_57 l0 hg_9) ⟨rfl, rfl⟩ ⟨Nat.le_of_ble_eq_true rfl, Nat.le_of_ble_eq_true rfl⟩ ⟨Nat.le_of_ble_eq_true rfl, Nat.le_of_ble_eq_true rfl⟩ rfl (Nat.le_of_ble_eq_true rfl) ?_
        change KW x 2 12 Q σ_7 59 [some (kr 0), some (ki x1), some (ki x2)] [ki r_8]
        obtain rfl := Option.some.inj h
        exact kw_Q (hR _ _ rfl) (kw_xret (by decide) (by decide) (kw_ireturn C (kdec dc_P_later 18 rfl)))
      · rw [if_neg hc23_0] at h
        by_cases hc23_1 : x2 = 1
        · rw [if_pos hc23_1] at h
          refine kw_table C (kdec dc_P_later 14 rfl) 60 (Or.inr ⟨by omega, by omega, _, by rw [hc23_1]; rfl, by decide⟩) ?_
          refine kw_aload_n C (kdec dc_P_later 19 rfl) rfl 61 rfl rfl ?_
          refine kw_getR C (kdec dc_P_later 20 rfl) 64 rfl fd_C_P_81_0 ?_
          obtain ⟨r_10, hg_11, h⟩ := kbind_h h
          refine kw_callV (As := []) C (kdec dc_P_later 21 rfl) 67 rfl cv_P_240 rfl rfl (mt_pf_Oracle_poorestPoet_57 l0 hg_11) ⟨rfl, rfl⟩ ⟨Nat.le_of_ble_eq_true rfl, Nat.le_of_ble_eq_true rfl⟩ ⟨Nat.le_of_ble_eq_true rfl, Nat.le_of_ble_eq_true rfl⟩ rfl (Nat.le_of_ble_eq_true rfl) ?_
          change KW x 2 12 Q σ_7 67 [some (kr 0), some (ki x1), some (ki x2)] [ki r_10]
          obtain rfl := Option.some.inj h
          exact kw_Q (hR _ _ rfl) (kw_xret (by decide) (by decide) (kw_ireturn C (kdec dc_P_later 22 rfl)))
        · rw [if_neg hc23_1] at h
          by_cases hc23_2 : x2 = 2
          · rw [if_pos hc23_2] at h
            refine kw_table C (kdec dc_P_later 14 rfl) 68 (Or.inr ⟨by omega, by omega, _, by rw [hc23_2]; rfl, by decide⟩) ?_
            refine kw_aload_n C (kdec dc_P_later 23 rfl) rfl 69 rfl rfl ?_
            refine kw_getR C (kdec dc_P_later 24 rfl) 72 rfl fd_C_P_81_0 ?_
            refine kw_getR C (kdec dc_P_later 25 rfl) 75 rfl fd_C_P_216_57 ?_
            refine kw_aload_n C (kdec dc_P_later 26 rfl) rfl 76 rfl rfl ?_
            refine kw_getR C (kdec dc_P_later 27 rfl) 79 rfl fd_C_P_27_0 ?_
            refine kw_getI C (kdec dc_P_later 28 rfl) 82 rfl fd_C_P_119_3 ?_
            obtain ⟨r_12, hg_13, h⟩ := kbind_h h
            refine kw_callV (As := [ki (σ_7 3 2)]) C (kdec dc_P_later 29 rfl) 85 rfl cv_P_134 rfl rfl (mt_pf_World_sitting_58 l0 hg_13) ⟨rfl, rfl⟩ ⟨Nat.le_of_ble_eq_true rfl, Nat.le_of_ble_eq_true rfl⟩ ⟨Nat.le_of_ble_eq_true rfl, Nat.le_of_ble_eq_true rfl⟩ rfl (Nat.le_of_ble_eq_true rfl) ?_
            change KW x 2 12 Q σ_7 85 [some (kr 0), some (ki x1), some (ki x2)] [ki r_12]
            obtain rfl := Option.some.inj h
            exact kw_Q (hR _ _ rfl) (kw_xret (by decide) (by decide) (kw_ireturn C (kdec dc_P_later 30 rfl)))
          · rw [if_neg hc23_2] at h
            by_cases hc23_3 : x2 = 3
            · rw [if_pos hc23_3] at h
              refine kw_table C (kdec dc_P_later 14 rfl) 86 (Or.inr ⟨by omega, by omega, _, by rw [hc23_3]; rfl, by decide⟩) ?_
              refine kw_aload_n C (kdec dc_P_later 31 rfl) rfl 87 rfl rfl ?_
              refine kw_getR C (kdec dc_P_later 32 rfl) 90 rfl fd_C_P_81_0 ?_
              refine kw_getR C (kdec dc_P_later 33 rfl) 93 rfl fd_C_P_216_57 ?_
              refine kw_aload_n C (kdec dc_P_later 34 rfl) rfl 94 rfl rfl ?_
              refine kw_getR C (kdec dc_P_later 35 rfl) 97 rfl fd_C_P_27_0 ?_
              refine kw_getI C (kdec dc_P_later 36 rfl) 100 rfl fd_C_P_116_3 ?_
              obtain ⟨r_14, hg_15, h⟩ := kbind_h h
              refine kw_callV (As := [ki (σ_7 3 1)]) C (kdec dc_P_later 37 rfl) 103 rfl cv_P_131 rfl rfl (mt_pf_World_unscarred_58 l0 hg_15) ⟨rfl, rfl⟩ ⟨Nat.le_of_ble_eq_true rfl, Nat.le_of_ble_eq_true rfl⟩ ⟨Nat.le_of_ble_eq_true rfl, Nat.le_of_ble_eq_true rfl⟩ rfl (Nat.le_of_ble_eq_true rfl) ?_
              change KW x 2 12 Q σ_7 103 [some (kr 0), some (ki x1), some (ki x2)] [ki r_14]
              obtain rfl := Option.some.inj h
              exact kw_Q (hR _ _ rfl) (kw_xret (by decide) (by decide) (kw_ireturn C (kdec dc_P_later 38 rfl)))
            · rw [if_neg hc23_3] at h
              refine kw_table C (kdec dc_P_later 14 rfl) 104 (Or.inl ⟨by omega, by decide⟩) ?_
              refine kw_aload_n C (kdec dc_P_later 39 rfl) rfl 105 rfl rfl ?_
              refine kw_getR C (kdec dc_P_later 40 rfl) 108 rfl fd_C_P_81_0 ?_
              refine kw_getR C (kdec dc_P_later 41 rfl) 111 rfl fd_C_P_219_57 ?_
              refine kw_getI C (kdec dc_P_later 42 rfl) 114 rfl fd_C_P_243_65 ?_
              obtain rfl := Option.some.inj h
              exact kw_Q (hR _ _ rfl) (kw_xret (by decide) (by decide) (kw_ireturn C (kdec dc_P_later 43 rfl)))
theorem mx_pf_P_later_0 (l0 : Launch) (hfl : l0.stackTraces = false) {σ : kM} {x1 : Int} {x2 : Int} {r : Int} {τ : kM} (h : pf_P_later_0 σ x1 x2 = some (.inr r, τ)) : kXet l0 ky_P_later prog_1_method_19_code 3 (some .int) R0_pf_P_later_0 kcl yC σ [kr 0, ki x1, ki x2] (.inr (some (ki r))) τ 2 12 := kXet.of [some (kr 0), some (ki x1), some (ki x2)] (by decide) (Nat.le_of_ble_eq_true rfl) ⟨rfl, rfl, rfl, trivial⟩ (fun x C hT => bd_pf_P_later_0 C hT hfl σ x1 x2 h (fun r τ e => by cases e; rfl) (fun E τ e => by cases e))
theorem me_pf_P_later_0 (l0 : Launch) (hfl : l0.stackTraces = false) {σ : kM} {x1 : Int} {x2 : Int} {E : String} {τ : kM} (h : pf_P_later_0 σ x1 x2 = some (.inl E, τ)) : kXet l0 ky_P_later prog_1_method_19_code 3 (some .int) R0_pf_P_later_0 kcl yC σ [kr 0, ki x1, ki x2] (.inl E) τ 2 12 := kXet.of [some (kr 0), some (ki x1), some (ki x2)] (by decide) (Nat.le_of_ble_eq_true rfl) ⟨rfl, rfl, rfl, trivial⟩ (fun x C hT => bd_pf_P_later_0 C hT hfl σ x1 x2 h (fun r τ e => by cases e) (fun E τ e => by cases e; rfl))
def R0_pf_P_worst_0 : Room := ({ frames := 7, cells := 2, slots := 12, locals := 166 } : Room)
def pf_P_worst_0 (σ : kM) (x1 : Int) (x2 : Int) : Option ((String ⊕ Int) × kM) :=
  (pf_P_needWhat_0 σ x2 1).bind fun q_10 => match q_10 with
  | (.inl E_3, σ_1) => some (.inl E_3, σ_1)
  | (.inr _, σ_1) =>
    (pf_P_needWithin_0 σ_1 x1 1 60).bind fun q_9 => match q_9 with
    | (.inl E_6, σ_4) => some (.inl E_6, σ_4)
    | (.inr _, σ_4) =>
      (pf_Oracle_foresee_57 σ_4 x1).bind fun σ_7 =>
      if x2 = 0 then
        some ((.inr (σ_7 65 8), σ_7))
      else
        some ((.inr (σ_7 65 9), σ_7))
set_option maxHeartbeats 4000000 in
theorem bd_pf_P_worst_0 {x : kX} {l0 : Launch} {Q : State → Prop} (C : kCx x prog_1_method_20_code "PoetFines" (some .int) kcl yC 3 l0 R0_pf_P_worst_0) (hT : kTb x) (hfl : l0.stackTraces = false) (σ : kM) (x1 : Int) (x2 : Int) {out : (String ⊕ Int) × kM} (h : pf_P_worst_0 σ x1 x2 = some out) (hR : ∀ (r : Int) (τ : kM), out = (.inr r, τ) → Q = kQX x (.inr (some (ki r))) τ 2 12) (hE : ∀ (E : String) (τ : kM), out = (.inl E, τ) → Q = kQX x (.inl E) τ 2 12) : KW x 0 0 Q σ 0 [some (kr 0), some (ki x1), some (ki x2)] [] := by
  unfold pf_P_worst_0 at h
  refine kw_aload_n C (kdec dc_P_worst 0 rfl) rfl 1 rfl rfl ?_
  refine kw_iload_n C (kdec dc_P_worst 1 rfl) rfl 2 rfl rfl ?_
  refine kw_iconst C (kdec dc_P_worst 2 rfl) 3 rfl rfl ⟨by decide, by decide⟩ ?_
  obtain ⟨⟨q_10, σ_1⟩, hg_2, h⟩ := kbind_h h
  rcases q_10 with E_3 | _
  · dsimp only at h
    obtain rfl := Option.some.inj h
    exact kw_Q (hE _ _ rfl) (kw_callVX_t (As := [ki x2, ki 1]) C hT (kdec dc_P_worst 3 rfl) cv_P_154 rfl rfl (me_pf_P_needWhat_0 l0 hfl hg_2) ⟨rfl, rfl⟩ ⟨Nat.le_of_ble_eq_true rfl, Nat.le_of_ble_eq_true rfl⟩ ⟨Nat.le_of_ble_eq_true rfl, Nat.le_of_ble_eq_true rfl⟩ rfl (Nat.le_of_ble_eq_true rfl) (Nat.le_of_ble_eq_true rfl) (Nat.le_of_ble_eq_true rfl))
  · dsimp only at h
    refine kw_callVX (As := [ki x2, ki 1]) C (kdec dc_P_worst 3 rfl) 6 rfl cv_P_154 rfl rfl (mx_pf_P_needWhat_0 l0 hfl hg_2) ⟨rfl, rfl⟩ ⟨Nat.le_of_ble_eq_true rfl, Nat.le_of_ble_eq_true rfl⟩ ⟨Nat.le_of_ble_eq_true rfl, Nat.le_of_ble_eq_true rfl⟩ rfl (Nat.le_of_ble_eq_true rfl) ?_
    change KW x 1 6 Q σ_1 6 [some (kr 0), some (ki x1), some (ki x2)] []
    refine kw_aload_n C (kdec dc_P_worst 4 rfl) rfl 7 rfl rfl ?_
    refine kw_iload_n C (kdec dc_P_worst 5 rfl) rfl 8 rfl rfl ?_
    refine kw_iconst C (kdec dc_P_worst 6 rfl) 9 rfl rfl ⟨by decide, by decide⟩ ?_
    refine kw_bipush (v := 60) C (kdec dc_P_worst 7 rfl) 11 rfl (by decide) ⟨by decide, by decide⟩ ?_
    obtain ⟨⟨q_9, σ_4⟩, hg_5, h⟩ := kbind_h h
    rcases q_9 with E_6 | _
    · dsimp only at h
      obtain rfl := Option.some.inj h
      exact kw_Q (hE _ _ rfl) (kw_callVX_t (As := [ki x1, ki 1, ki 60]) C hT (kdec dc_P_worst 8 rfl) cv_P_210 rfl rfl (me_pf_P_needWithin_0 l0 hfl hg_5) ⟨rfl, rfl⟩ ⟨Nat.le_of_ble_eq_true rfl, Nat.le_of_ble_eq_true rfl⟩ ⟨Nat.le_of_ble_eq_true rfl, Nat.le_of_ble_eq_true rfl⟩ rfl (Nat.le_of_ble_eq_true rfl) (Nat.le_of_ble_eq_true rfl) (Nat.le_of_ble_eq_true rfl))
    · dsimp only at h
      refine kw_callVX (As := [ki x1, ki 1, ki 60]) C (kdec dc_P_worst 8 rfl) 14 rfl cv_P_210 rfl rfl (mx_pf_P_needWithin_0 l0 hfl hg_5) ⟨rfl, rfl⟩ ⟨Nat.le_of_ble_eq_true rfl, Nat.le_of_ble_eq_true rfl⟩ ⟨Nat.le_of_ble_eq_true rfl, Nat.le_of_ble_eq_true rfl⟩ rfl (Nat.le_of_ble_eq_true rfl) ?_
      change KW x 2 12 Q σ_4 14 [some (kr 0), some (ki x1), some (ki x2)] []
      refine kw_aload_n C (kdec dc_P_worst 9 rfl) rfl 15 rfl rfl ?_
      refine kw_getR C (kdec dc_P_worst 10 rfl) 18 rfl fd_C_P_81_0 ?_
      refine kw_iload_n C (kdec dc_P_worst 11 rfl) rfl 19 rfl rfl ?_
      obtain ⟨σ_7, hg_8, h⟩ := kbind_h h
      refine kw_callV (As := [ki x1]) C (kdec dc_P_worst 12 rfl) 22 rfl cv_P_213 rfl rfl (mt_pf_Oracle_foresee_57 l0 hg_8) ⟨rfl, rfl⟩ ⟨Nat.le_of_ble_eq_true rfl, Nat.le_of_ble_eq_true rfl⟩ ⟨Nat.le_of_ble_eq_true rfl, Nat.le_of_ble_eq_true rfl⟩ rfl (Nat.le_of_ble_eq_true rfl) ?_
      change KW x 2 12 Q σ_7 22 [some (kr 0), some (ki x1), some (ki x2)] []
      refine kw_iload_n C (kdec dc_P_worst 13 rfl) rfl 23 rfl rfl ?_
      refine kw_if_ne C (kdec dc_P_worst 14 rfl) 39 26 (by decide) rfl (fun hc23 => ?_) (fun hc23 => ?_)
      · rw [if_neg hc23] at h
        refine kw_aload_n C (kdec dc_P_worst 20 rfl) rfl 40 rfl rfl ?_
        refine kw_getR C (kdec dc_P_worst 21 rfl) 43 rfl fd_C_P_81_0 ?_
        refine kw_getR C (kdec dc_P_worst 22 rfl) 46 rfl fd_C_P_219_57 ?_
        refine kw_getI C (kdec dc_P_worst 23 rfl) 49 rfl fd_C_P_249_65 ?_
        obtain rfl := Option.some.inj h
        exact kw_Q (hR _ _ rfl) (kw_xret (by decide) (by decide) (kw_ireturn C (kdec dc_P_worst 24 rfl)))
      · rw [if_pos hc23] at h
        refine kw_aload_n C (kdec dc_P_worst 15 rfl) rfl 27 rfl rfl ?_
        refine kw_getR C (kdec dc_P_worst 16 rfl) 30 rfl fd_C_P_81_0 ?_
        refine kw_getR C (kdec dc_P_worst 17 rfl) 33 rfl fd_C_P_219_57 ?_
        refine kw_getI C (kdec dc_P_worst 18 rfl) 36 rfl fd_C_P_246_65 ?_
        refine kw_goto C (kdec dc_P_worst 19 rfl) 49 (by decide) ?_
        obtain rfl := Option.some.inj h
        exact kw_Q (hR _ _ rfl) (kw_xret (by decide) (by decide) (kw_ireturn C (kdec dc_P_worst 24 rfl)))
theorem mx_pf_P_worst_0 (l0 : Launch) (hfl : l0.stackTraces = false) {σ : kM} {x1 : Int} {x2 : Int} {r : Int} {τ : kM} (h : pf_P_worst_0 σ x1 x2 = some (.inr r, τ)) : kXet l0 ky_P_worst prog_1_method_20_code 3 (some .int) R0_pf_P_worst_0 kcl yC σ [kr 0, ki x1, ki x2] (.inr (some (ki r))) τ 2 12 := kXet.of [some (kr 0), some (ki x1), some (ki x2)] (by decide) (Nat.le_of_ble_eq_true rfl) ⟨rfl, rfl, rfl, trivial⟩ (fun x C hT => bd_pf_P_worst_0 C hT hfl σ x1 x2 h (fun r τ e => by cases e; rfl) (fun E τ e => by cases e))
theorem me_pf_P_worst_0 (l0 : Launch) (hfl : l0.stackTraces = false) {σ : kM} {x1 : Int} {x2 : Int} {E : String} {τ : kM} (h : pf_P_worst_0 σ x1 x2 = some (.inl E, τ)) : kXet l0 ky_P_worst prog_1_method_20_code 3 (some .int) R0_pf_P_worst_0 kcl yC σ [kr 0, ki x1, ki x2] (.inl E) τ 2 12 := kXet.of [some (kr 0), some (ki x1), some (ki x2)] (by decide) (Nat.le_of_ble_eq_true rfl) ⟨rfl, rfl, rfl, trivial⟩ (fun x C hT => bd_pf_P_worst_0 C hT hfl σ x1 x2 h (fun r τ e => by cases e) (fun E τ e => by cases e; rfl))
def R0_pf_P_probe_0 : Room := ({ frames := 7, cells := 4, slots := 24, locals := 123 } : Room)
def pf_P_probe_0 (σ : kM) (x1 : Int) (x2 : Int) (x3 : Int) (x4 : Int) : Option ((String ⊕ Int) × kM) :=
  (pf_P_needPoet_0 σ x1).bind fun q_19 => match q_19 with
  | (.inl E_3, σ_1) => some (.inl E_3, σ_1)
  | (.inr _, σ_1) =>
    (pf_P_needPerson_0 σ_1 x2).bind fun q_18 => match q_18 with
    | (.inl E_6, σ_4) => some (.inl E_6, σ_4)
    | (.inr _, σ_4) =>
      (pf_P_needWithin_0 σ_4 x3 0 (w32 ((σ_4 3 0) - 1))).bind fun q_17 => match q_17 with
      | (.inl E_9, σ_7) => some (.inl E_9, σ_7)
      | (.inr _, σ_7) =>
        (pf_P_needWithin_0 σ_7 x4 0 9).bind fun q_16 => match q_16 with
        | (.inl E_12, σ_10) => some (.inl E_12, σ_10)
        | (.inr _, σ_10) =>
          (pf_Stage_inchesInto_43 σ_10 x1 x2 x3 x4).bind fun (r_13, σ_14) =>
          some ((.inr r_13, σ_14))
set_option maxHeartbeats 4000000 in
theorem bd_pf_P_probe_0 {x : kX} {l0 : Launch} {Q : State → Prop} (C : kCx x prog_1_method_21_code "PoetFines" (some .int) kcl yC 5 l0 R0_pf_P_probe_0) (hT : kTb x) (hfl : l0.stackTraces = false) (σ : kM) (x1 : Int) (x2 : Int) (x3 : Int) (x4 : Int) {out : (String ⊕ Int) × kM} (h : pf_P_probe_0 σ x1 x2 x3 x4 = some out) (hR : ∀ (r : Int) (τ : kM), out = (.inr r, τ) → Q = kQX x (.inr (some (ki r))) τ 4 24) (hE : ∀ (E : String) (τ : kM), out = (.inl E, τ) → Q = kQX x (.inl E) τ 4 24) : KW x 0 0 Q σ 0 [some (kr 0), some (ki x1), some (ki x2), some (ki x3), some (ki x4)] [] := by
  unfold pf_P_probe_0 at h
  refine kw_aload_n C (kdec dc_P_probe 0 rfl) rfl 1 rfl rfl ?_
  refine kw_iload_n C (kdec dc_P_probe 1 rfl) rfl 2 rfl rfl ?_
  obtain ⟨⟨q_19, σ_1⟩, hg_2, h⟩ := kbind_h h
  rcases q_19 with E_3 | _
  · dsimp only at h
    obtain rfl := Option.some.inj h
    exact kw_Q (hE _ _ rfl) (kw_callVX_t (As := [ki x1]) C hT (kdec dc_P_probe 2 rfl) cv_P_162 rfl rfl (me_pf_P_needPoet_0 l0 hfl hg_2) ⟨rfl, rfl⟩ ⟨Nat.le_of_ble_eq_true rfl, Nat.le_of_ble_eq_true rfl⟩ ⟨Nat.le_of_ble_eq_true rfl, Nat.le_of_ble_eq_true rfl⟩ rfl (Nat.le_of_ble_eq_true rfl) (Nat.le_of_ble_eq_true rfl) (Nat.le_of_ble_eq_true rfl))
  · dsimp only at h
    refine kw_callVX (As := [ki x1]) C (kdec dc_P_probe 2 rfl) 5 rfl cv_P_162 rfl rfl (mx_pf_P_needPoet_0 l0 hfl hg_2) ⟨rfl, rfl⟩ ⟨Nat.le_of_ble_eq_true rfl, Nat.le_of_ble_eq_true rfl⟩ ⟨Nat.le_of_ble_eq_true rfl, Nat.le_of_ble_eq_true rfl⟩ rfl (Nat.le_of_ble_eq_true rfl) ?_
    change KW x 1 6 Q σ_1 5 [some (kr 0), some (ki x1), some (ki x2), some (ki x3), some (ki x4)] []
    refine kw_aload_n C (kdec dc_P_probe 3 rfl) rfl 6 rfl rfl ?_
    refine kw_iload_n C (kdec dc_P_probe 4 rfl) rfl 7 rfl rfl ?_
    obtain ⟨⟨q_18, σ_4⟩, hg_5, h⟩ := kbind_h h
    rcases q_18 with E_6 | _
    · dsimp only at h
      obtain rfl := Option.some.inj h
      exact kw_Q (hE _ _ rfl) (kw_callVX_t (As := [ki x2]) C hT (kdec dc_P_probe 5 rfl) cv_P_148 rfl rfl (me_pf_P_needPerson_0 l0 hfl hg_5) ⟨rfl, rfl⟩ ⟨Nat.le_of_ble_eq_true rfl, Nat.le_of_ble_eq_true rfl⟩ ⟨Nat.le_of_ble_eq_true rfl, Nat.le_of_ble_eq_true rfl⟩ rfl (Nat.le_of_ble_eq_true rfl) (Nat.le_of_ble_eq_true rfl) (Nat.le_of_ble_eq_true rfl))
    · dsimp only at h
      refine kw_callVX (As := [ki x2]) C (kdec dc_P_probe 5 rfl) 10 rfl cv_P_148 rfl rfl (mx_pf_P_needPerson_0 l0 hfl hg_5) ⟨rfl, rfl⟩ ⟨Nat.le_of_ble_eq_true rfl, Nat.le_of_ble_eq_true rfl⟩ ⟨Nat.le_of_ble_eq_true rfl, Nat.le_of_ble_eq_true rfl⟩ rfl (Nat.le_of_ble_eq_true rfl) ?_
      change KW x 2 12 Q σ_4 10 [some (kr 0), some (ki x1), some (ki x2), some (ki x3), some (ki x4)] []
      refine kw_aload_n C (kdec dc_P_probe 6 rfl) rfl 11 rfl rfl ?_
      refine kw_iload_n C (kdec dc_P_probe 7 rfl) rfl 12 rfl rfl ?_
      refine kw_iconst C (kdec dc_P_probe 8 rfl) 13 rfl rfl ⟨by decide, by decide⟩ ?_
      refine kw_aload_n C (kdec dc_P_probe 9 rfl) rfl 14 rfl rfl ?_
      refine kw_getR C (kdec dc_P_probe 10 rfl) 17 rfl fd_C_P_27_0 ?_
      refine kw_getI C (kdec dc_P_probe 11 rfl) 20 rfl fd_C_P_113_3 ?_
      refine kw_iconst C (kdec dc_P_probe 12 rfl) 21 rfl rfl ⟨by decide, by decide⟩ ?_
      refine kw_isub C (kdec dc_P_probe 13 rfl) 22 rfl ?_
      obtain ⟨⟨q_17, σ_7⟩, hg_8, h⟩ := kbind_h h
      rcases q_17 with E_9 | _
      · dsimp only at h
        obtain rfl := Option.some.inj h
        exact kw_Q (hE _ _ rfl) (kw_callVX_t (As := [ki x3, ki 0, ki (w32 ((σ_4 3 0) - 1))]) C hT (kdec dc_P_probe 14 rfl) cv_P_210 rfl rfl (me_pf_P_needWithin_0 l0 hfl hg_8) ⟨rfl, rfl⟩ ⟨Nat.le_of_ble_eq_true rfl, Nat.le_of_ble_eq_true rfl⟩ ⟨Nat.le_of_ble_eq_true rfl, Nat.le_of_ble_eq_true rfl⟩ rfl (Nat.le_of_ble_eq_true rfl) (Nat.le_of_ble_eq_true rfl) (Nat.le_of_ble_eq_true rfl))
      · dsimp only at h
        refine kw_callVX (As := [ki x3, ki 0, ki (w32 ((σ_4 3 0) - 1))]) C (kdec dc_P_probe 14 rfl) 25 rfl cv_P_210 rfl rfl (mx_pf_P_needWithin_0 l0 hfl hg_8) ⟨rfl, rfl⟩ ⟨Nat.le_of_ble_eq_true rfl, Nat.le_of_ble_eq_true rfl⟩ ⟨Nat.le_of_ble_eq_true rfl, Nat.le_of_ble_eq_true rfl⟩ rfl (Nat.le_of_ble_eq_true rfl) ?_
        change KW x 3 18 Q σ_7 25 [some (kr 0), some (ki x1), some (ki x2), some (ki x3), some (ki x4)] []
        refine kw_aload_n C (kdec dc_P_probe 15 rfl) rfl 26 rfl rfl ?_
        refine kw_iload C (kdec dc_P_probe 16 rfl) 28 rfl rfl ?_
        refine kw_iconst C (kdec dc_P_probe 17 rfl) 29 rfl rfl ⟨by decide, by decide⟩ ?_
        refine kw_bipush (v := 9) C (kdec dc_P_probe 18 rfl) 31 rfl (by decide) ⟨by decide, by decide⟩ ?_
        obtain ⟨⟨q_16, σ_10⟩, hg_11, h⟩ := kbind_h h
        rcases q_16 with E_12 | _
        · dsimp only at h
          obtain rfl := Option.some.inj h
          exact kw_Q (hE _ _ rfl) (kw_callVX_t (As := [ki x4, ki 0, ki 9]) C hT (kdec dc_P_probe 19 rfl) cv_P_210 rfl rfl (me_pf_P_needWithin_0 l0 hfl hg_11) ⟨rfl, rfl⟩ ⟨Nat.le_of_ble_eq_true rfl, Nat.le_of_ble_eq_true rfl⟩ ⟨Nat.le_of_ble_eq_true rfl, Nat.le_of_ble_eq_true rfl⟩ rfl (Nat.le_of_ble_eq_true rfl) (Nat.le_of_ble_eq_true rfl) (Nat.le_of_ble_eq_true rfl))
        · dsimp only at h
          refine kw_callVX (As := [ki x4, ki 0, ki 9]) C (kdec dc_P_probe 19 rfl) 34 rfl cv_P_210 rfl rfl (mx_pf_P_needWithin_0 l0 hfl hg_11) ⟨rfl, rfl⟩ ⟨Nat.le_of_ble_eq_true rfl, Nat.le_of_ble_eq_true rfl⟩ ⟨Nat.le_of_ble_eq_true rfl, Nat.le_of_ble_eq_true rfl⟩ rfl (Nat.le_of_ble_eq_true rfl) ?_
          change KW x 4 24 Q σ_10 34 [some (kr 0), some (ki x1), some (ki x2), some (ki x3), some (ki x4)] []
          refine kw_aload_n C (kdec dc_P_probe 20 rfl) rfl 35 rfl rfl ?_
          refine kw_getR C (kdec dc_P_probe 21 rfl) 38 rfl fd_C_P_63_0 ?_
          refine kw_iload_n C (kdec dc_P_probe 22 rfl) rfl 39 rfl rfl ?_
          refine kw_iload_n C (kdec dc_P_probe 23 rfl) rfl 40 rfl rfl ?_
          refine kw_iload_n C (kdec dc_P_probe 24 rfl) rfl 41 rfl rfl ?_
          refine kw_iload C (kdec dc_P_probe 25 rfl) 43 rfl rfl ?_
          obtain ⟨⟨r_13, σ_14⟩, hg_15, h⟩ := kbind_h h
          dsimp only at h
          refine kw_callV (As := [ki x1, ki x2, ki x3, ki x4]) C (kdec dc_P_probe 26 rfl) 46 rfl cv_P_252 rfl rfl (mt_pf_Stage_inchesInto_43 l0 hg_15) ⟨rfl, rfl⟩ ⟨Nat.le_of_ble_eq_true rfl, Nat.le_of_ble_eq_true rfl⟩ ⟨Nat.le_of_ble_eq_true rfl, Nat.le_of_ble_eq_true rfl⟩ rfl (Nat.le_of_ble_eq_true rfl) ?_
          change KW x 4 24 Q σ_14 46 [some (kr 0), some (ki x1), some (ki x2), some (ki x3), some (ki x4)] [ki r_13]
          obtain rfl := Option.some.inj h
          exact kw_Q (hR _ _ rfl) (kw_xret (by decide) (by decide) (kw_ireturn C (kdec dc_P_probe 27 rfl)))
theorem mx_pf_P_probe_0 (l0 : Launch) (hfl : l0.stackTraces = false) {σ : kM} {x1 : Int} {x2 : Int} {x3 : Int} {x4 : Int} {r : Int} {τ : kM} (h : pf_P_probe_0 σ x1 x2 x3 x4 = some (.inr r, τ)) : kXet l0 ky_P_probe prog_1_method_21_code 5 (some .int) R0_pf_P_probe_0 kcl yC σ [kr 0, ki x1, ki x2, ki x3, ki x4] (.inr (some (ki r))) τ 4 24 := kXet.of [some (kr 0), some (ki x1), some (ki x2), some (ki x3), some (ki x4)] (by decide) (Nat.le_of_ble_eq_true rfl) ⟨rfl, rfl, rfl, rfl, rfl, trivial⟩ (fun x C hT => bd_pf_P_probe_0 C hT hfl σ x1 x2 x3 x4 h (fun r τ e => by cases e; rfl) (fun E τ e => by cases e))
theorem me_pf_P_probe_0 (l0 : Launch) (hfl : l0.stackTraces = false) {σ : kM} {x1 : Int} {x2 : Int} {x3 : Int} {x4 : Int} {E : String} {τ : kM} (h : pf_P_probe_0 σ x1 x2 x3 x4 = some (.inl E, τ)) : kXet l0 ky_P_probe prog_1_method_21_code 5 (some .int) R0_pf_P_probe_0 kcl yC σ [kr 0, ki x1, ki x2, ki x3, ki x4] (.inl E) τ 4 24 := kXet.of [some (kr 0), some (ki x1), some (ki x2), some (ki x3), some (ki x4)] (by decide) (Nat.le_of_ble_eq_true rfl) ⟨rfl, rfl, rfl, rfl, rfl, trivial⟩ (fun x C hT => bd_pf_P_probe_0 C hT hfl σ x1 x2 x3 x4 h (fun r τ e => by cases e) (fun E τ e => by cases e; rfl))
def R0_pf_Court_safeDepth_50 : Room := ({ frames := 3, cells := 0, slots := 0, locals := 72 } : Room)
def pf_Court_safeDepth_50_l11 (σ : kM) (x1 : Int) (x2 : Int) (x3 : Int) (x4 : Int) : Option ((kM × Int) ⊕ ((kM) ⊕ (kM))) :=
  if (σ 3 1) ≤ x4 then
    some (Sum.inr (Sum.inr σ))
  else
    (pf_Stage_inchesInto_43 σ x1 x4 x2 x3).bind fun (r_1, σ_2) =>
    if r_1 ≤ 0 then
      klet (w32 (x4 + 1)) fun x4_3 =>
      some (Sum.inl (σ_2, x4_3))
    else
      some (Sum.inr (Sum.inl σ_2))
set_option maxHeartbeats 4000000 in
theorem bd_pf_Court_safeDepth_50_l11 {x : kX} {l0 : Launch} {Q : State → Prop} (C : kCx x prog_3_method_5_code "PoetFines$Court" (some .int) kcl yC 5 l0 R0_pf_Court_safeDepth_50) (σ : kM) (x1 : Int) (x2 : Int) (x3 : Int) (x4 : Int) {out : (kM × Int) ⊕ ((kM) ⊕ (kM))} (h : pf_Court_safeDepth_50_l11 σ x1 x2 x3 x4 = some out) (hC : ∀ (σ' : kM) (x4' : Int), out = Sum.inl (σ', x4') → KW x 0 0 Q σ' 11 [some (kr 50), some (ki x1), some (ki x2), some (ki x3), some (ki x4')] []) (hX38 : ∀ (σ' : kM), out = Sum.inr (Sum.inl σ') → KW x 0 0 Q σ' 38 [none, none, none, some (ki x3), none] []) (hX56 : ∀ (σ' : kM), out = Sum.inr (Sum.inr σ') → KW x 0 0 Q σ' 56 [some (kr 50), some (ki x1), some (ki x2), some (ki x3), none] []) : KW x 0 0 Q σ 11 [some (kr 50), some (ki x1), some (ki x2), some (ki x3), some (ki x4)] [] := by
  unfold pf_Court_safeDepth_50_l11 at h
  refine kw_iload C (kdec dc_Court_safeDepth 7 rfl) 13 rfl rfl ?_
  refine kw_aload_n C (kdec dc_Court_safeDepth 8 rfl) rfl 14 rfl rfl ?_
  refine kw_getR C (kdec dc_Court_safeDepth 9 rfl) 17 rfl fd_C_Court_34_50 ?_
  refine kw_getI C (kdec dc_Court_safeDepth 10 rfl) 20 rfl fd_C_Court_53_3 ?_
  refine kw_icmp_ge C (kdec dc_Court_safeDepth 11 rfl) 56 23 (by decide) rfl (fun hc20 => ?_) (fun hc20 => ?_)
  · rw [if_pos hc20] at h
    obtain rfl := Option.some.inj h
    exact kw_sub (L' := [some (kr 50), some (ki x1), some (ki x2), some (ki x3), none]) ⟨rfl, rfl, rfl, rfl, trivial⟩ (hX56 _ rfl)
  · rw [if_neg hc20] at h
    refine kw_aload_n C (kdec dc_Court_safeDepth 12 rfl) rfl 24 rfl rfl ?_
    refine kw_getR C (kdec dc_Court_safeDepth 13 rfl) 27 rfl fd_C_Court_38_50 ?_
    refine kw_iload_n C (kdec dc_Court_safeDepth 14 rfl) rfl 28 rfl rfl ?_
    refine kw_iload C (kdec dc_Court_safeDepth 15 rfl) 30 rfl rfl ?_
    refine kw_iload_n C (kdec dc_Court_safeDepth 16 rfl) rfl 31 rfl rfl ?_
    refine kw_iload_n C (kdec dc_Court_safeDepth 17 rfl) rfl 32 rfl rfl ?_
    obtain ⟨⟨r_1, σ_2⟩, hg_4, h⟩ := kbind_h h
    dsimp only at h
    refine kw_callV (As := [ki x1, ki x4, ki x2, ki x3]) C (kdec dc_Court_safeDepth 18 rfl) 35 rfl cv_Court_65 rfl rfl (mt_pf_Stage_inchesInto_43 l0 hg_4) ⟨rfl, rfl⟩ ⟨Nat.le_of_ble_eq_true rfl, Nat.le_of_ble_eq_true rfl⟩ ⟨Nat.zero_le _, Nat.zero_le _⟩ rfl (Nat.le_of_ble_eq_true rfl) ?_
    change KW x 0 0 Q σ_2 35 [some (kr 50), some (ki x1), some (ki x2), some (ki x3), some (ki x4)] [ki r_1]
    refine kw_if_le C (kdec dc_Court_safeDepth 19 rfl) 50 38 (by decide) rfl (fun hc35 => ?_) (fun hc35 => ?_)
    · rw [if_pos hc35] at h
      obtain ⟨x4_3, ex4_3, h⟩ := klet_h h
      refine kw_iinc (L' := [some (kr 50), some (ki x1), some (ki x2), some (ki x3), some (ki x4_3)]) C (kdec dc_Court_safeDepth 28 rfl) 53 rfl rfl (by decide) rfl (by rw [ex4_3]; rfl) ?_
      refine kw_goto C (kdec dc_Court_safeDepth 29 rfl) 11 (by decide) ?_
      obtain rfl := Option.some.inj h
      exact (hC _ _ rfl)
    · rw [if_neg hc35] at h
      obtain rfl := Option.some.inj h
      exact kw_sub (L' := [none, none, none, some (ki x3), none]) ⟨rfl, trivial⟩ (hX38 _ rfl)
theorem lp_pf_Court_safeDepth_50_l11 {x : kX} {l0 : Launch} {Q : State → Prop} (C : kCx x prog_3_method_5_code "PoetFines$Court" (some .int) kcl yC 5 l0 R0_pf_Court_safeDepth_50) (x1 : Int) (x2 : Int) (x3 : Int) {ex : (kM) ⊕ (kM)} (hX38 : ∀ (σ' : kM), ex = (Sum.inl σ') → KW x 0 0 Q σ' 38 [none, none, none, some (ki x3), none] []) (hX56 : ∀ (σ' : kM), ex = (Sum.inr σ') → KW x 0 0 Q σ' 56 [some (kr 50), some (ki x1), some (ki x2), some (ki x3), none] []) (n : Nat) (σ : kM) (x4 : Int) (h : kloop (fun st => pf_Court_safeDepth_50_l11 st.1 x1 x2 x3 st.2) n (σ, x4) = some ex) : KW x 0 0 Q σ 11 [some (kr 50), some (ki x1), some (ki x2), some (ki x3), some (ki x4)] [] :=
  kloop_ind (P := (fun st : kM × Int => KW x 0 0 Q st.1 11 [some (kr 50), some (ki x1), some (ki x2), some (ki x3), some (ki (st.2))] [])) (fun st out hb hc hx => bd_pf_Court_safeDepth_50_l11 C st.1 x1 x2 x3 st.2 hb (fun a0 a1 e => hc _ e) (fun a0 e => hX38 _ ((hx _ e).symm)) (fun a0 e => hX56 _ ((hx _ e).symm))) n (σ, x4) h
def pf_Court_safeDepth_50_l2 (σ : kM) (x1 : Int) (x2 : Int) (x3 : Int) : Option ((kM × Int) ⊕ ((kM × Int) ⊕ (kM))) :=
  if 9 < x3 then
    some (Sum.inr (Sum.inr σ))
  else
    (kloop (fun st => pf_Court_safeDepth_50_l11 st.1 x1 x2 x3 st.2) kFuel (σ, 0)).bind fun ex_5 => match ex_5 with
      | (Sum.inl σ_7) =>
        some (Sum.inr (Sum.inl (σ_7, x3)))
      | (Sum.inr σ_8) =>
        klet (w32 (x3 + 1)) fun x3_9 =>
        some (Sum.inl (σ_8, x3_9))
set_option maxHeartbeats 4000000 in
theorem bd_pf_Court_safeDepth_50_l2 {x : kX} {l0 : Launch} {Q : State → Prop} (C : kCx x prog_3_method_5_code "PoetFines$Court" (some .int) kcl yC 5 l0 R0_pf_Court_safeDepth_50) (σ : kM) (x1 : Int) (x2 : Int) (x3 : Int) {out : (kM × Int) ⊕ ((kM × Int) ⊕ (kM))} (h : pf_Court_safeDepth_50_l2 σ x1 x2 x3 = some out) (hC : ∀ (σ' : kM) (x3' : Int), out = Sum.inl (σ', x3') → KW x 0 0 Q σ' 2 [some (kr 50), some (ki x1), some (ki x2), some (ki x3'), none] []) (hX38 : ∀ (σ' : kM) (x3' : Int), out = Sum.inr (Sum.inl (σ', x3')) → KW x 0 0 Q σ' 38 [none, none, none, some (ki x3'), none] []) (hX62 : ∀ (σ' : kM), out = Sum.inr (Sum.inr σ') → KW x 0 0 Q σ' 62 [none, none, none, none, none] []) : KW x 0 0 Q σ 2 [some (kr 50), some (ki x1), some (ki x2), some (ki x3), none] [] := by
  unfold pf_Court_safeDepth_50_l2 at h
  refine kw_iload_n C (kdec dc_Court_safeDepth 2 rfl) rfl 3 rfl rfl ?_
  refine kw_bipush (v := 9) C (kdec dc_Court_safeDepth 3 rfl) 5 rfl (by decide) ⟨by decide, by decide⟩ ?_
  refine kw_icmp_gt C (kdec dc_Court_safeDepth 4 rfl) 62 8 (by decide) rfl (fun hc5 => ?_) (fun hc5 => ?_)
  · rw [if_pos hc5] at h
    obtain rfl := Option.some.inj h
    exact kw_sub (L' := [none, none, none, none, none]) trivial (hX62 _ rfl)
  · rw [if_neg hc5] at h
    refine kw_iconst C (kdec dc_Court_safeDepth 5 rfl) 9 rfl rfl ⟨by decide, by decide⟩ ?_
    refine kw_istore (L' := [some (kr 50), some (ki x1), some (ki x2), some (ki x3), some (ki 0)]) C (kdec dc_Court_safeDepth 6 rfl) 11 rfl (by decide) rfl rfl ?_
    obtain ⟨ex_5, hl_6, h⟩ := kbind_h h
    refine lp_pf_Court_safeDepth_50_l11 C x1 x2 x3 ?_ ?_ kFuel σ 0 hl_6
    · intro σ_7 e
      subst ex_5
      try dsimp only at h
      obtain rfl := Option.some.inj h
      exact (hX38 _ _ rfl)
    · intro σ_8 e
      subst ex_5
      try dsimp only at h
      obtain ⟨x3_9, ex3_9, h⟩ := klet_h h
      refine kw_iinc (L' := [some (kr 50), some (ki x1), some (ki x2), some (ki x3_9), none]) C (kdec dc_Court_safeDepth 30 rfl) 59 rfl rfl (by decide) rfl (by rw [ex3_9]; rfl) ?_
      refine kw_goto C (kdec dc_Court_safeDepth 31 rfl) 2 (by decide) ?_
      obtain rfl := Option.some.inj h
      exact (hC _ _ rfl)
theorem lp_pf_Court_safeDepth_50_l2 {x : kX} {l0 : Launch} {Q : State → Prop} (C : kCx x prog_3_method_5_code "PoetFines$Court" (some .int) kcl yC 5 l0 R0_pf_Court_safeDepth_50) (x1 : Int) (x2 : Int) {ex : (kM × Int) ⊕ (kM)} (hX38 : ∀ (σ' : kM) (x3' : Int), ex = (Sum.inl (σ', x3')) → KW x 0 0 Q σ' 38 [none, none, none, some (ki x3'), none] []) (hX62 : ∀ (σ' : kM), ex = (Sum.inr σ') → KW x 0 0 Q σ' 62 [none, none, none, none, none] []) (n : Nat) (σ : kM) (x3 : Int) (h : kloop (fun st => pf_Court_safeDepth_50_l2 st.1 x1 x2 st.2) n (σ, x3) = some ex) : KW x 0 0 Q σ 2 [some (kr 50), some (ki x1), some (ki x2), some (ki x3), none] [] :=
  kloop_ind (P := (fun st : kM × Int => KW x 0 0 Q st.1 2 [some (kr 50), some (ki x1), some (ki x2), some (ki (st.2)), none] [])) (fun st out hb hc hx => bd_pf_Court_safeDepth_50_l2 C st.1 x1 x2 st.2 hb (fun a0 a1 e => hc _ e) (fun a0 a1 e => hX38 _ _ ((hx _ e).symm)) (fun a0 e => hX62 _ ((hx _ e).symm))) n (σ, x3) h
def pf_Court_safeDepth_50 (σ : kM) (x1 : Int) (x2 : Int) : Option (Int × kM) :=
  (kloop (fun st => pf_Court_safeDepth_50_l2 st.1 x1 x2 st.2) kFuel (σ, 0)).bind fun ex_10 => match ex_10 with
    | (Sum.inl (σ_12, x3_13)) =>
      if x3_13 ≤ 0 then
        some (((-1), σ_12))
      else
        some ((w32 (x3_13 - 1), σ_12))
    | (Sum.inr σ_14) =>
      some ((9, σ_14))
set_option maxHeartbeats 4000000 in
theorem bd_pf_Court_safeDepth_50 {x : kX} {l0 : Launch} {Q : State → Prop} (C : kCx x prog_3_method_5_code "PoetFines$Court" (some .int) kcl yC 5 l0 R0_pf_Court_safeDepth_50) (σ : kM) (x1 : Int) (x2 : Int) {out : Int × kM} (h : pf_Court_safeDepth_50 σ x1 x2 = some out) (hR : ∀ (r : Int) (τ : kM), out = (r, τ) → Q = kQ x (some (ki r)) τ 0 0) : KW x 0 0 Q σ 0 [some (kr 50), some (ki x1), some (ki x2), none, none] [] := by
  unfold pf_Court_safeDepth_50 at h
  refine kw_iconst C (kdec dc_Court_safeDepth 0 rfl) 1 rfl rfl ⟨by decide, by decide⟩ ?_
  refine kw_istore_n (L' := [some (kr 50), some (ki x1), some (ki x2), some (ki 0), none]) C (kdec dc_Court_safeDepth 1 rfl) rfl 2 rfl (by decide) rfl rfl ?_
  obtain ⟨ex_10, hl_11, h⟩ := kbind_h h
  refine lp_pf_Court_safeDepth_50_l2 C x1 x2 ?_ ?_ kFuel σ 0 hl_11
  · intro σ_12 x3_13 e
    subst ex_10
    try dsimp only at h
    refine kw_iload_n C (kdec dc_Court_safeDepth 20 rfl) rfl 39 rfl rfl ?_
    refine kw_if_le C (kdec dc_Court_safeDepth 21 rfl) 48 42 (by decide) rfl (fun hc39 => ?_) (fun hc39 => ?_)
    · rw [if_pos hc39] at h
      refine kw_iconst C (kdec dc_Court_safeDepth 26 rfl) 49 rfl rfl ⟨by decide, by decide⟩ ?_
      obtain rfl := Option.some.inj h
      exact kw_Q (hR _ _ rfl) (kw_ireturn C (kdec dc_Court_safeDepth 27 rfl))
    · rw [if_neg hc39] at h
      refine kw_iload_n C (kdec dc_Court_safeDepth 22 rfl) rfl 43 rfl rfl ?_
      refine kw_iconst C (kdec dc_Court_safeDepth 23 rfl) 44 rfl rfl ⟨by decide, by decide⟩ ?_
      refine kw_isub C (kdec dc_Court_safeDepth 24 rfl) 45 rfl ?_
      refine kw_goto C (kdec dc_Court_safeDepth 25 rfl) 49 (by decide) ?_
      obtain rfl := Option.some.inj h
      exact kw_Q (hR _ _ rfl) (kw_ireturn C (kdec dc_Court_safeDepth 27 rfl))
  · intro σ_14 e
    subst ex_10
    try dsimp only at h
    refine kw_bipush (v := 9) C (kdec dc_Court_safeDepth 32 rfl) 64 rfl (by decide) ⟨by decide, by decide⟩ ?_
    obtain rfl := Option.some.inj h
    exact kw_Q (hR _ _ rfl) (kw_ireturn C (kdec dc_Court_safeDepth 33 rfl))
theorem mt_pf_Court_safeDepth_50 (l0 : Launch) {σ : kM} {x1 : Int} {x2 : Int} {r : Int} {τ : kM} (h : pf_Court_safeDepth_50 σ x1 x2 = some (r, τ)) : kMet l0 ky_Court_safeDepth prog_3_method_5_code 5 (some .int) R0_pf_Court_safeDepth_50 kcl yC σ [kr 50, ki x1, ki x2] (some (ki r)) τ := kMet.of' [some (kr 50), some (ki x1), some (ki x2), none, none] (by decide) (Nat.le_of_ble_eq_true rfl) ⟨rfl, rfl, rfl, trivial⟩ (fun x C => bd_pf_Court_safeDepth_50 C σ x1 x2 h (fun r τ e => by cases e; rfl))
def R0_pf_P_safe_0 : Room := ({ frames := 7, cells := 2, slots := 12, locals := 123 } : Room)
def pf_P_safe_0 (σ : kM) (x1 : Int) (x2 : Int) : Option ((String ⊕ Int) × kM) :=
  (pf_P_needPoet_0 σ x1).bind fun q_11 => match q_11 with
  | (.inl E_3, σ_1) => some (.inl E_3, σ_1)
  | (.inr _, σ_1) =>
    (pf_P_needWithin_0 σ_1 x2 0 (w32 ((σ_1 3 0) - 1))).bind fun q_10 => match q_10 with
    | (.inl E_6, σ_4) => some (.inl E_6, σ_4)
    | (.inr _, σ_4) =>
      (pf_Court_safeDepth_50 σ_4 x1 x2).bind fun (r_7, σ_8) =>
      some ((.inr r_7, σ_8))
set_option maxHeartbeats 4000000 in
theorem bd_pf_P_safe_0 {x : kX} {l0 : Launch} {Q : State → Prop} (C : kCx x prog_1_method_22_code "PoetFines" (some .int) kcl yC 3 l0 R0_pf_P_safe_0) (hT : kTb x) (hfl : l0.stackTraces = false) (σ : kM) (x1 : Int) (x2 : Int) {out : (String ⊕ Int) × kM} (h : pf_P_safe_0 σ x1 x2 = some out) (hR : ∀ (r : Int) (τ : kM), out = (.inr r, τ) → Q = kQX x (.inr (some (ki r))) τ 2 12) (hE : ∀ (E : String) (τ : kM), out = (.inl E, τ) → Q = kQX x (.inl E) τ 2 12) : KW x 0 0 Q σ 0 [some (kr 0), some (ki x1), some (ki x2)] [] := by
  unfold pf_P_safe_0 at h
  refine kw_aload_n C (kdec dc_P_safe 0 rfl) rfl 1 rfl rfl ?_
  refine kw_iload_n C (kdec dc_P_safe 1 rfl) rfl 2 rfl rfl ?_
  obtain ⟨⟨q_11, σ_1⟩, hg_2, h⟩ := kbind_h h
  rcases q_11 with E_3 | _
  · dsimp only at h
    obtain rfl := Option.some.inj h
    exact kw_Q (hE _ _ rfl) (kw_callVX_t (As := [ki x1]) C hT (kdec dc_P_safe 2 rfl) cv_P_162 rfl rfl (me_pf_P_needPoet_0 l0 hfl hg_2) ⟨rfl, rfl⟩ ⟨Nat.le_of_ble_eq_true rfl, Nat.le_of_ble_eq_true rfl⟩ ⟨Nat.le_of_ble_eq_true rfl, Nat.le_of_ble_eq_true rfl⟩ rfl (Nat.le_of_ble_eq_true rfl) (Nat.le_of_ble_eq_true rfl) (Nat.le_of_ble_eq_true rfl))
  · dsimp only at h
    refine kw_callVX (As := [ki x1]) C (kdec dc_P_safe 2 rfl) 5 rfl cv_P_162 rfl rfl (mx_pf_P_needPoet_0 l0 hfl hg_2) ⟨rfl, rfl⟩ ⟨Nat.le_of_ble_eq_true rfl, Nat.le_of_ble_eq_true rfl⟩ ⟨Nat.le_of_ble_eq_true rfl, Nat.le_of_ble_eq_true rfl⟩ rfl (Nat.le_of_ble_eq_true rfl) ?_
    change KW x 1 6 Q σ_1 5 [some (kr 0), some (ki x1), some (ki x2)] []
    refine kw_aload_n C (kdec dc_P_safe 3 rfl) rfl 6 rfl rfl ?_
    refine kw_iload_n C (kdec dc_P_safe 4 rfl) rfl 7 rfl rfl ?_
    refine kw_iconst C (kdec dc_P_safe 5 rfl) 8 rfl rfl ⟨by decide, by decide⟩ ?_
    refine kw_aload_n C (kdec dc_P_safe 6 rfl) rfl 9 rfl rfl ?_
    refine kw_getR C (kdec dc_P_safe 7 rfl) 12 rfl fd_C_P_27_0 ?_
    refine kw_getI C (kdec dc_P_safe 8 rfl) 15 rfl fd_C_P_113_3 ?_
    refine kw_iconst C (kdec dc_P_safe 9 rfl) 16 rfl rfl ⟨by decide, by decide⟩ ?_
    refine kw_isub C (kdec dc_P_safe 10 rfl) 17 rfl ?_
    obtain ⟨⟨q_10, σ_4⟩, hg_5, h⟩ := kbind_h h
    rcases q_10 with E_6 | _
    · dsimp only at h
      obtain rfl := Option.some.inj h
      exact kw_Q (hE _ _ rfl) (kw_callVX_t (As := [ki x2, ki 0, ki (w32 ((σ_1 3 0) - 1))]) C hT (kdec dc_P_safe 11 rfl) cv_P_210 rfl rfl (me_pf_P_needWithin_0 l0 hfl hg_5) ⟨rfl, rfl⟩ ⟨Nat.le_of_ble_eq_true rfl, Nat.le_of_ble_eq_true rfl⟩ ⟨Nat.le_of_ble_eq_true rfl, Nat.le_of_ble_eq_true rfl⟩ rfl (Nat.le_of_ble_eq_true rfl) (Nat.le_of_ble_eq_true rfl) (Nat.le_of_ble_eq_true rfl))
    · dsimp only at h
      refine kw_callVX (As := [ki x2, ki 0, ki (w32 ((σ_1 3 0) - 1))]) C (kdec dc_P_safe 11 rfl) 20 rfl cv_P_210 rfl rfl (mx_pf_P_needWithin_0 l0 hfl hg_5) ⟨rfl, rfl⟩ ⟨Nat.le_of_ble_eq_true rfl, Nat.le_of_ble_eq_true rfl⟩ ⟨Nat.le_of_ble_eq_true rfl, Nat.le_of_ble_eq_true rfl⟩ rfl (Nat.le_of_ble_eq_true rfl) ?_
      change KW x 2 12 Q σ_4 20 [some (kr 0), some (ki x1), some (ki x2)] []
      refine kw_aload_n C (kdec dc_P_safe 12 rfl) rfl 21 rfl rfl ?_
      refine kw_getR C (kdec dc_P_safe 13 rfl) 24 rfl fd_C_P_72_0 ?_
      refine kw_iload_n C (kdec dc_P_safe 14 rfl) rfl 25 rfl rfl ?_
      refine kw_iload_n C (kdec dc_P_safe 15 rfl) rfl 26 rfl rfl ?_
      obtain ⟨⟨r_7, σ_8⟩, hg_9, h⟩ := kbind_h h
      dsimp only at h
      refine kw_callV (As := [ki x1, ki x2]) C (kdec dc_P_safe 16 rfl) 29 rfl cv_P_256 rfl rfl (mt_pf_Court_safeDepth_50 l0 hg_9) ⟨rfl, rfl⟩ ⟨Nat.le_of_ble_eq_true rfl, Nat.le_of_ble_eq_true rfl⟩ ⟨Nat.le_of_ble_eq_true rfl, Nat.le_of_ble_eq_true rfl⟩ rfl (Nat.le_of_ble_eq_true rfl) ?_
      change KW x 2 12 Q σ_8 29 [some (kr 0), some (ki x1), some (ki x2)] [ki r_7]
      obtain rfl := Option.some.inj h
      exact kw_Q (hR _ _ rfl) (kw_xret (by decide) (by decide) (kw_ireturn C (kdec dc_P_safe 17 rfl)))
theorem mx_pf_P_safe_0 (l0 : Launch) (hfl : l0.stackTraces = false) {σ : kM} {x1 : Int} {x2 : Int} {r : Int} {τ : kM} (h : pf_P_safe_0 σ x1 x2 = some (.inr r, τ)) : kXet l0 ky_P_safe prog_1_method_22_code 3 (some .int) R0_pf_P_safe_0 kcl yC σ [kr 0, ki x1, ki x2] (.inr (some (ki r))) τ 2 12 := kXet.of [some (kr 0), some (ki x1), some (ki x2)] (by decide) (Nat.le_of_ble_eq_true rfl) ⟨rfl, rfl, rfl, trivial⟩ (fun x C hT => bd_pf_P_safe_0 C hT hfl σ x1 x2 h (fun r τ e => by cases e; rfl) (fun E τ e => by cases e))
theorem me_pf_P_safe_0 (l0 : Launch) (hfl : l0.stackTraces = false) {σ : kM} {x1 : Int} {x2 : Int} {E : String} {τ : kM} (h : pf_P_safe_0 σ x1 x2 = some (.inl E, τ)) : kXet l0 ky_P_safe prog_1_method_22_code 3 (some .int) R0_pf_P_safe_0 kcl yC σ [kr 0, ki x1, ki x2] (.inl E) τ 2 12 := kXet.of [some (kr 0), some (ki x1), some (ki x2)] (by decide) (Nat.le_of_ble_eq_true rfl) ⟨rfl, rfl, rfl, trivial⟩ (fun x C hT => bd_pf_P_safe_0 C hT hfl σ x1 x2 h (fun r τ e => by cases e) (fun E τ e => by cases e; rfl))
def R0_pf_Court_sumOf_51 : Room := ({ frames := 0, cells := 0, slots := 0, locals := 0 } : Room)
def pf_Court_sumOf_51_l4_j27 (σ : kM) (x1 : Int) (x3 : Int) (s0 : Int) (s1 : Int) : Option ((Int × Int) ⊕ ((Int))) :=
  klet (w32 (s1 + s0)) fun x2_1 =>
  klet (w32 (x3 + 1)) fun x3_2 =>
  some (Sum.inl (x2_1, x3_2))
set_option maxHeartbeats 4000000 in
theorem bd_pf_Court_sumOf_51_l4_j27 {x : kX} {l0 : Launch} {Q : State → Prop} (C : kCx x prog_3_method_17_code "PoetFines$Court" (some .int) kcl yC 4 l0 R0_pf_Court_sumOf_51) (σ : kM) (x1 : Int) (x3 : Int) (s0 : Int) (s1 : Int) {out : (Int × Int) ⊕ ((Int))} (h : pf_Court_sumOf_51_l4_j27 σ x1 x3 s0 s1 = some out) (hC : ∀ (x2' : Int) (x3' : Int), out = Sum.inl (x2', x3') → KW x 0 0 Q σ 4 [some (kr 51), some (ki x1), some (ki x2'), some (ki x3')] []) (hX35 : ∀ (x2' : Int), out = Sum.inr x2' → KW x 0 0 Q σ 35 [none, none, some (ki x2'), none] []) : KW x 0 0 Q σ 27 [some (kr 51), some (ki x1), none, some (ki x3)] [ki s0, ki s1] := by
  unfold pf_Court_sumOf_51_l4_j27 at h
  refine kw_iadd C (kdec dc_Court_sumOf 21 rfl) 28 rfl ?_
  obtain ⟨x2_1, ex2_1, h⟩ := klet_h h
  refine kw_top ex2_1 ?_
  refine kw_istore_n (L' := [some (kr 51), some (ki x1), some (ki x2_1), some (ki x3)]) C (kdec dc_Court_sumOf 22 rfl) rfl 29 rfl (by decide) rfl rfl ?_
  obtain ⟨x3_2, ex3_2, h⟩ := klet_h h
  refine kw_iinc (L' := [some (kr 51), some (ki x1), some (ki x2_1), some (ki x3_2)]) C (kdec dc_Court_sumOf 23 rfl) 32 rfl rfl (by decide) rfl (by rw [ex3_2]; rfl) ?_
  refine kw_goto C (kdec dc_Court_sumOf 24 rfl) 4 (by decide) ?_
  obtain rfl := Option.some.inj h
  exact (hC _ _ rfl)
def pf_Court_sumOf_51_l4 (σ : kM) (x1 : Int) (x2 : Int) (x3 : Int) : Option ((Int × Int) ⊕ ((Int))) :=
  if 6 ≤ x3 then
    some (Sum.inr x2)
  else
    if (kand (kshr x1 x3) 1) = 1 then
      kchk (0 ≤ x3 ∧ x3 < 6) <|
      pf_Court_sumOf_51_l4_j27 σ x1 x3 (σ 51 x3.toNat) x2
    else
      pf_Court_sumOf_51_l4_j27 σ x1 x3 0 x2
set_option maxHeartbeats 4000000 in
theorem bd_pf_Court_sumOf_51_l4 {x : kX} {l0 : Launch} {Q : State → Prop} (C : kCx x prog_3_method_17_code "PoetFines$Court" (some .int) kcl yC 4 l0 R0_pf_Court_sumOf_51) (σ : kM) (x1 : Int) (x2 : Int) (x3 : Int) {out : (Int × Int) ⊕ ((Int))} (h : pf_Court_sumOf_51_l4 σ x1 x2 x3 = some out) (hC : ∀ (x2' : Int) (x3' : Int), out = Sum.inl (x2', x3') → KW x 0 0 Q σ 4 [some (kr 51), some (ki x1), some (ki x2'), some (ki x3')] []) (hX35 : ∀ (x2' : Int), out = Sum.inr x2' → KW x 0 0 Q σ 35 [none, none, some (ki x2'), none] []) : KW x 0 0 Q σ 4 [some (kr 51), some (ki x1), some (ki x2), some (ki x3)] [] := by
  unfold pf_Court_sumOf_51_l4 at h
  refine kw_iload_n C (kdec dc_Court_sumOf 4 rfl) rfl 5 rfl rfl ?_
  refine kw_aload_n C (kdec dc_Court_sumOf 5 rfl) rfl 6 rfl rfl ?_
  refine kw_alen (v := 6) C (kdec dc_Court_sumOf 6 rfl) 7 rfl rfl (by decide) rfl ⟨by decide, by decide⟩ ?_
  refine kw_icmp_ge C (kdec dc_Court_sumOf 7 rfl) 35 10 (by decide) rfl (fun hc7 => ?_) (fun hc7 => ?_)
  · rw [if_pos hc7] at h
    obtain rfl := Option.some.inj h
    exact kw_sub (L' := [none, none, some (ki x2), none]) ⟨rfl, trivial⟩ (hX35 _ rfl)
  · rw [if_neg hc7] at h
    refine kw_iload_n C (kdec dc_Court_sumOf 8 rfl) rfl 11 rfl rfl ?_
    refine kw_iload_n C (kdec dc_Court_sumOf 9 rfl) rfl 12 rfl rfl ?_
    refine kw_iload_n C (kdec dc_Court_sumOf 10 rfl) rfl 13 rfl rfl ?_
    refine kw_ishr C (kdec dc_Court_sumOf 11 rfl) 14 rfl ?_
    refine kw_iconst C (kdec dc_Court_sumOf 12 rfl) 15 rfl rfl ⟨by decide, by decide⟩ ?_
    refine kw_iand C (kdec dc_Court_sumOf 13 rfl) 16 rfl ?_
    refine kw_iconst C (kdec dc_Court_sumOf 14 rfl) 17 rfl rfl ⟨by decide, by decide⟩ ?_
    refine kw_icmp_ne C (kdec dc_Court_sumOf 15 rfl) 26 20 (by decide) rfl (fun hc17 => ?_) (fun hc17 => ?_)
    · rw [if_neg hc17] at h
      refine kw_iconst C (kdec dc_Court_sumOf 20 rfl) 27 rfl rfl ⟨by decide, by decide⟩ ?_
      exact kw_sub (L' := [some (kr 51), some (ki x1), none, some (ki x3)]) ⟨rfl, rfl, rfl, trivial⟩ (bd_pf_Court_sumOf_51_l4_j27 C σ x1 x3 0 x2 h hC hX35)
    · rw [if_pos hc17] at h
      refine kw_aload_n C (kdec dc_Court_sumOf 16 rfl) rfl 21 rfl rfl ?_
      refine kw_iload_n C (kdec dc_Court_sumOf 17 rfl) rfl 22 rfl rfl ?_
      obtain ⟨hc_3, h⟩ := kchk_h h
      refine kw_iald C (kdec dc_Court_sumOf 18 rfl) 23 rfl rfl hc_3.1 hc_3.2 ?_
      refine kw_goto C (kdec dc_Court_sumOf 19 rfl) 27 (by decide) ?_
      exact kw_sub (L' := [some (kr 51), some (ki x1), none, some (ki x3)]) ⟨rfl, rfl, rfl, trivial⟩ (bd_pf_Court_sumOf_51_l4_j27 C σ x1 x3 (σ 51 x3.toNat) x2 h hC hX35)
theorem lp_pf_Court_sumOf_51_l4 {x : kX} {l0 : Launch} {Q : State → Prop} (C : kCx x prog_3_method_17_code "PoetFines$Court" (some .int) kcl yC 4 l0 R0_pf_Court_sumOf_51) (σ : kM) (x1 : Int) {ex : (Int)} (hX35 : ∀ (x2' : Int), ex = x2' → KW x 0 0 Q σ 35 [none, none, some (ki x2'), none] []) (n : Nat) (x2 : Int) (x3 : Int) (h : kloop (fun st => pf_Court_sumOf_51_l4 σ x1 st.1 st.2) n (x2, x3) = some ex) : KW x 0 0 Q σ 4 [some (kr 51), some (ki x1), some (ki x2), some (ki x3)] [] :=
  kloop_ind (P := (fun st : Int × Int => KW x 0 0 Q σ 4 [some (kr 51), some (ki x1), some (ki (st.1)), some (ki (st.2))] [])) (fun st out hb hc hx => bd_pf_Court_sumOf_51_l4 C σ x1 st.1 st.2 hb (fun a0 a1 e => hc _ e) (fun a0 e => hX35 _ ((hx _ e).symm))) n (x2, x3) h
def pf_Court_sumOf_51 (σ : kM) (x1 : Int) : Option (Int) :=
  (kloop (fun st => pf_Court_sumOf_51_l4 σ x1 st.1 st.2) kFuel (0, 0)).bind fun x2_6 =>
  some x2_6
set_option maxHeartbeats 4000000 in
theorem bd_pf_Court_sumOf_51 {x : kX} {l0 : Launch} {Q : State → Prop} (C : kCx x prog_3_method_17_code "PoetFines$Court" (some .int) kcl yC 4 l0 R0_pf_Court_sumOf_51) (σ : kM) (x1 : Int) {out : Int} (h : pf_Court_sumOf_51 σ x1 = some out) (hR : ∀ (r : Int), out = r → Q = kQ x (some (ki r)) σ 0 0) : KW x 0 0 Q σ 0 [some (kr 51), some (ki x1), none, none] [] := by
  unfold pf_Court_sumOf_51 at h
  refine kw_iconst C (kdec dc_Court_sumOf 0 rfl) 1 rfl rfl ⟨by decide, by decide⟩ ?_
  refine kw_istore_n (L' := [some (kr 51), some (ki x1), some (ki 0), none]) C (kdec dc_Court_sumOf 1 rfl) rfl 2 rfl (by decide) rfl rfl ?_
  refine kw_iconst C (kdec dc_Court_sumOf 2 rfl) 3 rfl rfl ⟨by decide, by decide⟩ ?_
  refine kw_istore_n (L' := [some (kr 51), some (ki x1), some (ki 0), some (ki 0)]) C (kdec dc_Court_sumOf 3 rfl) rfl 4 rfl (by decide) rfl rfl ?_
  obtain ⟨ex_4, hl_5, h⟩ := kbind_h h
  refine lp_pf_Court_sumOf_51_l4 C σ x1 ?_ kFuel 0 0 hl_5
  · intro x2_6 e
    subst ex_4
    try dsimp only at h
    refine kw_iload_n C (kdec dc_Court_sumOf 25 rfl) rfl 36 rfl rfl ?_
    obtain rfl := Option.some.inj h
    exact kw_Q (hR _ rfl) (kw_ireturn C (kdec dc_Court_sumOf 26 rfl))
theorem mt_pf_Court_sumOf_51 (l0 : Launch) {σ : kM} {x1 : Int} {r : Int} (h : pf_Court_sumOf_51 σ x1 = some r) : kMet l0 ky_Court_sumOf prog_3_method_17_code 4 (some .int) R0_pf_Court_sumOf_51 kcl yC σ [kr 51, ki x1] (some (ki r)) σ := kMet.of' [some (kr 51), some (ki x1), none, none] (by decide) (Nat.le_of_ble_eq_true rfl) ⟨rfl, rfl, trivial⟩ (fun x C => bd_pf_Court_sumOf_51 C σ x1 h (fun r e => by subst e; rfl))
def R0_pf_Court_sumOf_52 : Room := ({ frames := 0, cells := 0, slots := 0, locals := 0 } : Room)
def pf_Court_sumOf_52_l4_j27 (σ : kM) (x1 : Int) (x3 : Int) (s0 : Int) (s1 : Int) : Option ((Int × Int) ⊕ ((Int))) :=
  klet (w32 (s1 + s0)) fun x2_1 =>
  klet (w32 (x3 + 1)) fun x3_2 =>
  some (Sum.inl (x2_1, x3_2))
set_option maxHeartbeats 4000000 in
theorem bd_pf_Court_sumOf_52_l4_j27 {x : kX} {l0 : Launch} {Q : State → Prop} (C : kCx x prog_3_method_17_code "PoetFines$Court" (some .int) kcl yC 4 l0 R0_pf_Court_sumOf_52) (σ : kM) (x1 : Int) (x3 : Int) (s0 : Int) (s1 : Int) {out : (Int × Int) ⊕ ((Int))} (h : pf_Court_sumOf_52_l4_j27 σ x1 x3 s0 s1 = some out) (hC : ∀ (x2' : Int) (x3' : Int), out = Sum.inl (x2', x3') → KW x 0 0 Q σ 4 [some (kr 52), some (ki x1), some (ki x2'), some (ki x3')] []) (hX35 : ∀ (x2' : Int), out = Sum.inr x2' → KW x 0 0 Q σ 35 [none, none, some (ki x2'), none] []) : KW x 0 0 Q σ 27 [some (kr 52), some (ki x1), none, some (ki x3)] [ki s0, ki s1] := by
  unfold pf_Court_sumOf_52_l4_j27 at h
  refine kw_iadd C (kdec dc_Court_sumOf 21 rfl) 28 rfl ?_
  obtain ⟨x2_1, ex2_1, h⟩ := klet_h h
  refine kw_top ex2_1 ?_
  refine kw_istore_n (L' := [some (kr 52), some (ki x1), some (ki x2_1), some (ki x3)]) C (kdec dc_Court_sumOf 22 rfl) rfl 29 rfl (by decide) rfl rfl ?_
  obtain ⟨x3_2, ex3_2, h⟩ := klet_h h
  refine kw_iinc (L' := [some (kr 52), some (ki x1), some (ki x2_1), some (ki x3_2)]) C (kdec dc_Court_sumOf 23 rfl) 32 rfl rfl (by decide) rfl (by rw [ex3_2]; rfl) ?_
  refine kw_goto C (kdec dc_Court_sumOf 24 rfl) 4 (by decide) ?_
  obtain rfl := Option.some.inj h
  exact (hC _ _ rfl)
def pf_Court_sumOf_52_l4 (σ : kM) (x1 : Int) (x2 : Int) (x3 : Int) : Option ((Int × Int) ⊕ ((Int))) :=
  if 6 ≤ x3 then
    some (Sum.inr x2)
  else
    if (kand (kshr x1 x3) 1) = 1 then
      kchk (0 ≤ x3 ∧ x3 < 6) <|
      pf_Court_sumOf_52_l4_j27 σ x1 x3 (σ 52 x3.toNat) x2
    else
      pf_Court_sumOf_52_l4_j27 σ x1 x3 0 x2
set_option maxHeartbeats 4000000 in
theorem bd_pf_Court_sumOf_52_l4 {x : kX} {l0 : Launch} {Q : State → Prop} (C : kCx x prog_3_method_17_code "PoetFines$Court" (some .int) kcl yC 4 l0 R0_pf_Court_sumOf_52) (σ : kM) (x1 : Int) (x2 : Int) (x3 : Int) {out : (Int × Int) ⊕ ((Int))} (h : pf_Court_sumOf_52_l4 σ x1 x2 x3 = some out) (hC : ∀ (x2' : Int) (x3' : Int), out = Sum.inl (x2', x3') → KW x 0 0 Q σ 4 [some (kr 52), some (ki x1), some (ki x2'), some (ki x3')] []) (hX35 : ∀ (x2' : Int), out = Sum.inr x2' → KW x 0 0 Q σ 35 [none, none, some (ki x2'), none] []) : KW x 0 0 Q σ 4 [some (kr 52), some (ki x1), some (ki x2), some (ki x3)] [] := by
  unfold pf_Court_sumOf_52_l4 at h
  refine kw_iload_n C (kdec dc_Court_sumOf 4 rfl) rfl 5 rfl rfl ?_
  refine kw_aload_n C (kdec dc_Court_sumOf 5 rfl) rfl 6 rfl rfl ?_
  refine kw_alen (v := 6) C (kdec dc_Court_sumOf 6 rfl) 7 rfl rfl (by decide) rfl ⟨by decide, by decide⟩ ?_
  refine kw_icmp_ge C (kdec dc_Court_sumOf 7 rfl) 35 10 (by decide) rfl (fun hc7 => ?_) (fun hc7 => ?_)
  · rw [if_pos hc7] at h
    obtain rfl := Option.some.inj h
    exact kw_sub (L' := [none, none, some (ki x2), none]) ⟨rfl, trivial⟩ (hX35 _ rfl)
  · rw [if_neg hc7] at h
    refine kw_iload_n C (kdec dc_Court_sumOf 8 rfl) rfl 11 rfl rfl ?_
    refine kw_iload_n C (kdec dc_Court_sumOf 9 rfl) rfl 12 rfl rfl ?_
    refine kw_iload_n C (kdec dc_Court_sumOf 10 rfl) rfl 13 rfl rfl ?_
    refine kw_ishr C (kdec dc_Court_sumOf 11 rfl) 14 rfl ?_
    refine kw_iconst C (kdec dc_Court_sumOf 12 rfl) 15 rfl rfl ⟨by decide, by decide⟩ ?_
    refine kw_iand C (kdec dc_Court_sumOf 13 rfl) 16 rfl ?_
    refine kw_iconst C (kdec dc_Court_sumOf 14 rfl) 17 rfl rfl ⟨by decide, by decide⟩ ?_
    refine kw_icmp_ne C (kdec dc_Court_sumOf 15 rfl) 26 20 (by decide) rfl (fun hc17 => ?_) (fun hc17 => ?_)
    · rw [if_neg hc17] at h
      refine kw_iconst C (kdec dc_Court_sumOf 20 rfl) 27 rfl rfl ⟨by decide, by decide⟩ ?_
      exact kw_sub (L' := [some (kr 52), some (ki x1), none, some (ki x3)]) ⟨rfl, rfl, rfl, trivial⟩ (bd_pf_Court_sumOf_52_l4_j27 C σ x1 x3 0 x2 h hC hX35)
    · rw [if_pos hc17] at h
      refine kw_aload_n C (kdec dc_Court_sumOf 16 rfl) rfl 21 rfl rfl ?_
      refine kw_iload_n C (kdec dc_Court_sumOf 17 rfl) rfl 22 rfl rfl ?_
      obtain ⟨hc_3, h⟩ := kchk_h h
      refine kw_iald C (kdec dc_Court_sumOf 18 rfl) 23 rfl rfl hc_3.1 hc_3.2 ?_
      refine kw_goto C (kdec dc_Court_sumOf 19 rfl) 27 (by decide) ?_
      exact kw_sub (L' := [some (kr 52), some (ki x1), none, some (ki x3)]) ⟨rfl, rfl, rfl, trivial⟩ (bd_pf_Court_sumOf_52_l4_j27 C σ x1 x3 (σ 52 x3.toNat) x2 h hC hX35)
theorem lp_pf_Court_sumOf_52_l4 {x : kX} {l0 : Launch} {Q : State → Prop} (C : kCx x prog_3_method_17_code "PoetFines$Court" (some .int) kcl yC 4 l0 R0_pf_Court_sumOf_52) (σ : kM) (x1 : Int) {ex : (Int)} (hX35 : ∀ (x2' : Int), ex = x2' → KW x 0 0 Q σ 35 [none, none, some (ki x2'), none] []) (n : Nat) (x2 : Int) (x3 : Int) (h : kloop (fun st => pf_Court_sumOf_52_l4 σ x1 st.1 st.2) n (x2, x3) = some ex) : KW x 0 0 Q σ 4 [some (kr 52), some (ki x1), some (ki x2), some (ki x3)] [] :=
  kloop_ind (P := (fun st : Int × Int => KW x 0 0 Q σ 4 [some (kr 52), some (ki x1), some (ki (st.1)), some (ki (st.2))] [])) (fun st out hb hc hx => bd_pf_Court_sumOf_52_l4 C σ x1 st.1 st.2 hb (fun a0 a1 e => hc _ e) (fun a0 e => hX35 _ ((hx _ e).symm))) n (x2, x3) h
def pf_Court_sumOf_52 (σ : kM) (x1 : Int) : Option (Int) :=
  (kloop (fun st => pf_Court_sumOf_52_l4 σ x1 st.1 st.2) kFuel (0, 0)).bind fun x2_6 =>
  some x2_6
set_option maxHeartbeats 4000000 in
theorem bd_pf_Court_sumOf_52 {x : kX} {l0 : Launch} {Q : State → Prop} (C : kCx x prog_3_method_17_code "PoetFines$Court" (some .int) kcl yC 4 l0 R0_pf_Court_sumOf_52) (σ : kM) (x1 : Int) {out : Int} (h : pf_Court_sumOf_52 σ x1 = some out) (hR : ∀ (r : Int), out = r → Q = kQ x (some (ki r)) σ 0 0) : KW x 0 0 Q σ 0 [some (kr 52), some (ki x1), none, none] [] := by
  unfold pf_Court_sumOf_52 at h
  refine kw_iconst C (kdec dc_Court_sumOf 0 rfl) 1 rfl rfl ⟨by decide, by decide⟩ ?_
  refine kw_istore_n (L' := [some (kr 52), some (ki x1), some (ki 0), none]) C (kdec dc_Court_sumOf 1 rfl) rfl 2 rfl (by decide) rfl rfl ?_
  refine kw_iconst C (kdec dc_Court_sumOf 2 rfl) 3 rfl rfl ⟨by decide, by decide⟩ ?_
  refine kw_istore_n (L' := [some (kr 52), some (ki x1), some (ki 0), some (ki 0)]) C (kdec dc_Court_sumOf 3 rfl) rfl 4 rfl (by decide) rfl rfl ?_
  obtain ⟨ex_4, hl_5, h⟩ := kbind_h h
  refine lp_pf_Court_sumOf_52_l4 C σ x1 ?_ kFuel 0 0 hl_5
  · intro x2_6 e
    subst ex_4
    try dsimp only at h
    refine kw_iload_n C (kdec dc_Court_sumOf 25 rfl) rfl 36 rfl rfl ?_
    obtain rfl := Option.some.inj h
    exact kw_Q (hR _ rfl) (kw_ireturn C (kdec dc_Court_sumOf 26 rfl))
theorem mt_pf_Court_sumOf_52 (l0 : Launch) {σ : kM} {x1 : Int} {r : Int} (h : pf_Court_sumOf_52 σ x1 = some r) : kMet l0 ky_Court_sumOf prog_3_method_17_code 4 (some .int) R0_pf_Court_sumOf_52 kcl yC σ [kr 52, ki x1] (some (ki r)) σ := kMet.of' [some (kr 52), some (ki x1), none, none] (by decide) (Nat.le_of_ble_eq_true rfl) ⟨rfl, rfl, trivial⟩ (fun x C => bd_pf_Court_sumOf_52 C σ x1 h (fun r e => by subst e; rfl))

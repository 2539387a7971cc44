def R0_pf_P_laureate_0 : Room := ({ frames := 7, cells := 1, slots := 6, locals := 166 } : Room)
def pf_P_laureate_0 (σ : kM) (x1 : Int) : Option ((String ⊕ Int) × kM) :=
  (pf_P_needWithin_0 σ x1 0 60).bind fun q_8 => match q_8 with
  | (.inl E_3, σ_1) => some (.inl E_3, σ_1)
  | (.inr _, σ_1) =>
    (pf_Oracle_foresee_57 σ_1 x1).bind fun σ_4 =>
    (pf_Oracle_leastPaying_57 σ_4).bind fun r_5 =>
    some ((.inr r_5, σ_4))
set_option maxHeartbeats 4000000 in
theorem bd_pf_P_laureate_0 {x : kX} {l0 : Launch} {Q : State → Prop} (C : kCx x prog_1_method_36_code "PoetFines" (some .int) kcl yC 2 l0 R0_pf_P_laureate_0) (hT : kTb x) (hfl : l0.stackTraces = false) (σ : kM) (x1 : Int) {out : (String ⊕ Int) × kM} (h : pf_P_laureate_0 σ x1 = some out) (hR : ∀ (r : Int) (τ : kM), out = (.inr r, τ) → Q = kQX x (.inr (some (ki r))) τ 1 6) (hE : ∀ (E : String) (τ : kM), out = (.inl E, τ) → Q = kQX x (.inl E) τ 1 6) : KW x 0 0 Q σ 0 [some (kr 0), some (ki x1)] [] := by
  unfold pf_P_laureate_0 at h
  refine kw_aload_n C (kdec dc_P_laureate 0 rfl) rfl 1 rfl rfl ?_
  refine kw_iload_n C (kdec dc_P_laureate 1 rfl) rfl 2 rfl rfl ?_
  refine kw_iconst C (kdec dc_P_laureate 2 rfl) 3 rfl rfl ⟨by decide, by decide⟩ ?_
  refine kw_bipush (v := 60) C (kdec dc_P_laureate 3 rfl) 5 rfl (by decide) ⟨by decide, by decide⟩ ?_
  obtain ⟨⟨q_8, σ_1⟩, hg_2, h⟩ := kbind_h h
  rcases q_8 with E_3 | _
  · dsimp only at h
    obtain rfl := Option.some.inj h
    exact kw_Q (hE _ _ rfl) (kw_callVX_t (As := [ki x1, ki 0, ki 60]) C hT (kdec dc_P_laureate 4 rfl) cv_P_210 rfl rfl (me_pf_P_needWithin_0 l0 hfl hg_2) ⟨rfl, rfl⟩ ⟨Nat.le_of_ble_eq_true rfl, Nat.le_of_ble_eq_true rfl⟩ ⟨Nat.le_of_ble_eq_true rfl, Nat.le_of_ble_eq_true rfl⟩ rfl (Nat.le_of_ble_eq_true rfl) (Nat.le_of_ble_eq_true rfl) (Nat.le_of_ble_eq_true rfl))
  · dsimp only at h
    refine kw_callVX (As := [ki x1, ki 0, ki 60]) C (kdec dc_P_laureate 4 rfl) 8 rfl cv_P_210 rfl rfl (mx_pf_P_needWithin_0 l0 hfl hg_2) ⟨rfl, rfl⟩ ⟨Nat.le_of_ble_eq_true rfl, Nat.le_of_ble_eq_true rfl⟩ ⟨Nat.le_of_ble_eq_true rfl, Nat.le_of_ble_eq_true rfl⟩ rfl (Nat.le_of_ble_eq_true rfl) ?_
    change KW x 1 6 Q σ_1 8 [some (kr 0), some (ki x1)] []
    refine kw_aload_n C (kdec dc_P_laureate 5 rfl) rfl 9 rfl rfl ?_
    refine kw_getR C (kdec dc_P_laureate 6 rfl) 12 rfl fd_C_P_81_0 ?_
    refine kw_iload_n C (kdec dc_P_laureate 7 rfl) rfl 13 rfl rfl ?_
    obtain ⟨σ_4, hg_7, h⟩ := kbind_h h
    refine kw_callV (As := [ki x1]) C (kdec dc_P_laureate 8 rfl) 16 rfl cv_P_213 rfl rfl (mt_pf_Oracle_foresee_57 l0 hg_7) ⟨rfl, rfl⟩ ⟨Nat.le_of_ble_eq_true rfl, Nat.le_of_ble_eq_true rfl⟩ ⟨Nat.le_of_ble_eq_true rfl, Nat.le_of_ble_eq_true rfl⟩ rfl (Nat.le_of_ble_eq_true rfl) ?_
    change KW x 1 6 Q σ_4 16 [some (kr 0), some (ki x1)] []
    refine kw_aload_n C (kdec dc_P_laureate 9 rfl) rfl 17 rfl rfl ?_
    refine kw_getR C (kdec dc_P_laureate 10 rfl) 20 rfl fd_C_P_81_0 ?_
    obtain ⟨r_5, hg_6, h⟩ := kbind_h h
    refine kw_callV (As := []) C (kdec dc_P_laureate 11 rfl) 23 rfl cv_P_331 rfl rfl (mt_pf_Oracle_leastPaying_57 l0 hg_6) ⟨rfl, rfl⟩ ⟨Nat.le_of_ble_eq_true rfl, Nat.le_of_ble_eq_true rfl⟩ ⟨Nat.le_of_ble_eq_true rfl, Nat.le_of_ble_eq_true rfl⟩ rfl (Nat.le_of_ble_eq_true rfl) ?_
    change KW x 1 6 Q σ_4 23 [some (kr 0), some (ki x1)] [ki r_5]
    obtain rfl := Option.some.inj h
    exact kw_Q (hR _ _ rfl) (kw_xret (by decide) (by decide) (kw_ireturn C (kdec dc_P_laureate 12 rfl)))
theorem mx_pf_P_laureate_0 (l0 : Launch) (hfl : l0.stackTraces = false) {σ : kM} {x1 : Int} {r : Int} {τ : kM} (h : pf_P_laureate_0 σ x1 = some (.inr r, τ)) : kXet l0 ky_P_laureate prog_1_method_36_code 2 (some .int) R0_pf_P_laureate_0 kcl yC σ [kr 0, ki x1] (.inr (some (ki r))) τ 1 6 := kXet.of [some (kr 0), some (ki x1)] (by decide) (Nat.le_of_ble_eq_true rfl) ⟨rfl, rfl, trivial⟩ (fun x C hT => bd_pf_P_laureate_0 C hT hfl σ x1 h (fun r τ e => by cases e; rfl) (fun E τ e => by cases e))
theorem me_pf_P_laureate_0 (l0 : Launch) (hfl : l0.stackTraces = false) {σ : kM} {x1 : Int} {E : String} {τ : kM} (h : pf_P_laureate_0 σ x1 = some (.inl E, τ)) : kXet l0 ky_P_laureate prog_1_method_36_code 2 (some .int) R0_pf_P_laureate_0 kcl yC σ [kr 0, ki x1] (.inl E) τ 1 6 := kXet.of [some (kr 0), some (ki x1)] (by decide) (Nat.le_of_ble_eq_true rfl) ⟨rfl, rfl, trivial⟩ (fun x C hT => bd_pf_P_laureate_0 C hT hfl σ x1 h (fun r τ e => by cases e) (fun E τ e => by cases e; rfl))
def R0_pf_Court_bestDebtor_50 : Room := ({ frames := 6, cells := 0, slots := 0, locals := 143 } : Room)
def pf_Court_bestDebtor_50_l7_j40 (σ : kM) (x1 : Int) (x2 : Int) (x3 : Int) (x4 : Int) : Option ((kM × Int × Int × Int) ⊕ ((kM × Int))) :=
  klet (w32 (x4 + 1)) fun x4_4 =>
  some (Sum.inl (σ, x2, x3, x4_4))
set_option maxHeartbeats 4000000 in
theorem bd_pf_Court_bestDebtor_50_l7_j40 {x : kX} {l0 : Launch} {Q : State → Prop} (C : kCx x prog_3_method_9_code "PoetFines$Court" (some .int) kcl yC 6 l0 R0_pf_Court_bestDebtor_50) (σ : kM) (x1 : Int) (x2 : Int) (x3 : Int) (x4 : Int) {out : (kM × Int × Int × Int) ⊕ ((kM × Int))} (h : pf_Court_bestDebtor_50_l7_j40 σ x1 x2 x3 x4 = some out) (hC : ∀ (σ' : kM) (x2' : Int) (x3' : Int) (x4' : Int), out = Sum.inl (σ', x2', x3', x4') → KW x 0 0 Q σ' 7 [some (kr 50), some (ki x1), some (ki x2'), some (ki x3'), some (ki x4'), none] []) (hX46 : ∀ (σ' : kM) (x2' : Int), out = Sum.inr (σ', x2') → KW x 0 0 Q σ' 46 [none, none, some (ki x2'), none, none, none] []) : KW x 0 0 Q σ 40 [some (kr 50), some (ki x1), some (ki x2), some (ki x3), some (ki x4), none] [] := by
  unfold pf_Court_bestDebtor_50_l7_j40 at h
  obtain ⟨x4_4, ex4_4, h⟩ := klet_h h
  refine kw_iinc (L' := [some (kr 50), some (ki x1), some (ki x2), some (ki x3), some (ki x4_4), none]) C (kdec dc_Court_bestDebtor 23 rfl) 43 rfl rfl (by decide) rfl (by rw [ex4_4]; rfl) ?_
  refine kw_goto C (kdec dc_Court_bestDebtor 24 rfl) 7 (by decide) ?_
  obtain rfl := Option.some.inj h
  exact (hC _ _ _ _ rfl)
def pf_Court_bestDebtor_50_l7 (σ : kM) (x1 : Int) (x2 : Int) (x3 : Int) (x4 : Int) : Option ((kM × Int × Int × Int) ⊕ ((kM × Int))) :=
  if (σ 3 2) ≤ x4 then
    some (Sum.inr (σ, x2))
  else
    (pf_Court_dueFrom_50 σ x4 x1).bind fun (r_2, σ_3) =>
    if r_2 ≤ x3 then
      pf_Court_bestDebtor_50_l7_j40 σ_3 x1 x2 x3 x4
    else
      pf_Court_bestDebtor_50_l7_j40 σ_3 x1 x4 r_2 x4
set_option maxHeartbeats 4000000 in
theorem bd_pf_Court_bestDebtor_50_l7 {x : kX} {l0 : Launch} {Q : State → Prop} (C : kCx x prog_3_method_9_code "PoetFines$Court" (some .int) kcl yC 6 l0 R0_pf_Court_bestDebtor_50) (σ : kM) (x1 : Int) (x2 : Int) (x3 : Int) (x4 : Int) {out : (kM × Int × Int × Int) ⊕ ((kM × Int))} (h : pf_Court_bestDebtor_50_l7 σ x1 x2 x3 x4 = some out) (hC : ∀ (σ' : kM) (x2' : Int) (x3' : Int) (x4' : Int), out = Sum.inl (σ', x2', x3', x4') → KW x 0 0 Q σ' 7 [some (kr 50), some (ki x1), some (ki x2'), some (ki x3'), some (ki x4'), none] []) (hX46 : ∀ (σ' : kM) (x2' : Int), out = Sum.inr (σ', x2') → KW x 0 0 Q σ' 46 [none, none, some (ki x2'), none, none, none] []) : KW x 0 0 Q σ 7 [some (kr 50), some (ki x1), some (ki x2), some (ki x3), some (ki x4), none] [] := by
  unfold pf_Court_bestDebtor_50_l7 at h
  refine kw_iload C (kdec dc_Court_bestDebtor 6 rfl) 9 rfl rfl ?_
  refine kw_aload_n C (kdec dc_Court_bestDebtor 7 rfl) rfl 10 rfl rfl ?_
  refine kw_getR C (kdec dc_Court_bestDebtor 8 rfl) 13 rfl fd_C_Court_34_50 ?_
  refine kw_getI C (kdec dc_Court_bestDebtor 9 rfl) 16 rfl fd_C_Court_95_3 ?_
  refine kw_icmp_ge C (kdec dc_Court_bestDebtor 10 rfl) 46 19 (by decide) rfl (fun hc16 => ?_) (fun hc16 => ?_)
  · rw [if_pos hc16] at h
    obtain rfl := Option.some.inj h
    exact kw_sub (L' := [none, none, some (ki x2), none, none, none]) ⟨rfl, trivial⟩ (hX46 _ _ rfl)
  · rw [if_neg hc16] at h
    refine kw_aload_n C (kdec dc_Court_bestDebtor 11 rfl) rfl 20 rfl rfl ?_
    refine kw_iload C (kdec dc_Court_bestDebtor 12 rfl) 22 rfl rfl ?_
    refine kw_iload_n C (kdec dc_Court_bestDebtor 13 rfl) rfl 23 rfl rfl ?_
    obtain ⟨⟨r_2, σ_3⟩, hg_5, h⟩ := kbind_h h
    dsimp only at h
    refine kw_callV (As := [ki x4, ki x1]) C (kdec dc_Court_bestDebtor 14 rfl) 26 rfl cv_Court_87 rfl rfl (mt_pf_Court_dueFrom_50 l0 hg_5) ⟨rfl, rfl⟩ ⟨Nat.le_of_ble_eq_true rfl, Nat.le_of_ble_eq_true rfl⟩ ⟨Nat.zero_le _, Nat.zero_le _⟩ rfl (Nat.le_of_ble_eq_true rfl) ?_
    change KW x 0 0 Q σ_3 26 [some (kr 50), some (ki x1), some (ki x2), some (ki x3), some (ki x4), none] [ki r_2]
    refine kw_istore (L' := [some (kr 50), some (ki x1), some (ki x2), some (ki x3), some (ki x4), some (ki r_2)]) C (kdec dc_Court_bestDebtor 15 rfl) 28 rfl (by decide) rfl rfl ?_
    refine kw_iload C (kdec dc_Court_bestDebtor 16 rfl) 30 rfl rfl ?_
    refine kw_iload_n C (kdec dc_Court_bestDebtor 17 rfl) rfl 31 rfl rfl ?_
    refine kw_icmp_le C (kdec dc_Court_bestDebtor 18 rfl) 40 34 (by decide) rfl (fun hc31 => ?_) (fun hc31 => ?_)
    · rw [if_pos hc31] at h
      exact kw_sub (L' := [some (kr 50), some (ki x1), some (ki x2), some (ki x3), some (ki x4), none]) ⟨rfl, rfl, rfl, rfl, rfl, trivial⟩ (bd_pf_Court_bestDebtor_50_l7_j40 C σ_3 x1 x2 x3 x4 h hC hX46)
    · rw [if_neg hc31] at h
      refine kw_iload C (kdec dc_Court_bestDebtor 19 rfl) 36 rfl rfl ?_
      refine kw_istore_n (L' := [some (kr 50), some (ki x1), some (ki x4), some (ki x3), some (ki x4), some (ki r_2)]) C (kdec dc_Court_bestDebtor 20 rfl) rfl 37 rfl (by decide) rfl rfl ?_
      refine kw_iload C (kdec dc_Court_bestDebtor 21 rfl) 39 rfl rfl ?_
      refine kw_istore_n (L' := [some (kr 50), some (ki x1), some (ki x4), some (ki r_2), some (ki x4), some (ki r_2)]) C (kdec dc_Court_bestDebtor 22 rfl) rfl 40 rfl (by decide) rfl rfl ?_
      exact kw_sub (L' := [some (kr 50), some (ki x1), some (ki x4), some (ki r_2), some (ki x4), none]) ⟨rfl, rfl, rfl, rfl, rfl, trivial⟩ (bd_pf_Court_bestDebtor_50_l7_j40 C σ_3 x1 x4 r_2 x4 h hC hX46)
theorem lp_pf_Court_bestDebtor_50_l7 {x : kX} {l0 : Launch} {Q : State → Prop} (C : kCx x prog_3_method_9_code "PoetFines$Court" (some .int) kcl yC 6 l0 R0_pf_Court_bestDebtor_50) (x1 : Int) {ex : (kM × Int)} (hX46 : ∀ (σ' : kM) (x2' : Int), ex = (σ', x2') → KW x 0 0 Q σ' 46 [none, none, some (ki x2'), none, none, none] []) (n : Nat) (σ : kM) (x2 : Int) (x3 : Int) (x4 : Int) (h : kloop (fun st => pf_Court_bestDebtor_50_l7 st.1 x1 st.2.1 st.2.2.1 st.2.2.2) n (σ, x2, x3, x4) = some ex) : KW x 0 0 Q σ 7 [some (kr 50), some (ki x1), some (ki x2), some (ki x3), some (ki x4), none] [] :=
  kloop_ind (P := (fun st : kM × Int × Int × Int => KW x 0 0 Q st.1 7 [some (kr 50), some (ki x1), some (ki (st.2.1)), some (ki (st.2.2.1)), some (ki (st.2.2.2)), none] [])) (fun st out hb hc hx => bd_pf_Court_bestDebtor_50_l7 C st.1 x1 st.2.1 st.2.2.1 st.2.2.2 hb (fun a0 a1 a2 a3 e => hc _ e) (fun a0 a1 e => hX46 _ _ ((hx _ e).symm))) n (σ, x2, x3, x4) h
def pf_Court_bestDebtor_50 (σ : kM) (x1 : Int) : Option (Int × kM) :=
  klet ((-1)) fun x2_1 =>
  (kloop (fun st => pf_Court_bestDebtor_50_l7 st.1 x1 st.2.1 st.2.2.1 st.2.2.2) kFuel (σ, x2_1, 0, 0)).bind fun (σ_8, x2_9) =>
  some ((x2_9, σ_8))
set_option maxHeartbeats 4000000 in
theorem bd_pf_Court_bestDebtor_50 {x : kX} {l0 : Launch} {Q : State → Prop} (C : kCx x prog_3_method_9_code "PoetFines$Court" (some .int) kcl yC 6 l0 R0_pf_Court_bestDebtor_50) (σ : kM) (x1 : Int) {out : Int × kM} (h : pf_Court_bestDebtor_50 σ x1 = some out) (hR : ∀ (r : Int) (τ : kM), out = (r, τ) → Q = kQ x (some (ki r)) τ 0 0) : KW x 0 0 Q σ 0 [some (kr 50), some (ki x1), none, none, none, none] [] := by
  unfold pf_Court_bestDebtor_50 at h
  refine kw_iconst C (kdec dc_Court_bestDebtor 0 rfl) 1 rfl rfl ⟨by decide, by decide⟩ ?_
  obtain ⟨x2_1, ex2_1, h⟩ := klet_h h
  refine kw_top ex2_1 ?_
  refine kw_istore_n (L' := [some (kr 50), some (ki x1), some (ki x2_1), none, none, none]) C (kdec dc_Court_bestDebtor 1 rfl) rfl 2 rfl (by decide) rfl rfl ?_
  refine kw_iconst C (kdec dc_Court_bestDebtor 2 rfl) 3 rfl rfl ⟨by decide, by decide⟩ ?_
  refine kw_istore_n (L' := [some (kr 50), some (ki x1), some (ki x2_1), some (ki 0), none, none]) C (kdec dc_Court_bestDebtor 3 rfl) rfl 4 rfl (by decide) rfl rfl ?_
  refine kw_iconst C (kdec dc_Court_bestDebtor 4 rfl) 5 rfl rfl ⟨by decide, by decide⟩ ?_
  refine kw_istore (L' := [some (kr 50), some (ki x1), some (ki x2_1), some (ki 0), some (ki 0), none]) C (kdec dc_Court_bestDebtor 5 rfl) 7 rfl (by decide) rfl rfl ?_
  obtain ⟨ex_6, hl_7, h⟩ := kbind_h h
  refine lp_pf_Court_bestDebtor_50_l7 C x1 ?_ kFuel σ x2_1 0 0 hl_7
  · intro σ_8 x2_9 e
    subst ex_6
    try dsimp only at h
    refine kw_iload_n C (kdec dc_Court_bestDebtor 25 rfl) rfl 47 rfl rfl ?_
    obtain rfl := Option.some.inj h
    exact kw_Q (hR _ _ rfl) (kw_ireturn C (kdec dc_Court_bestDebtor 26 rfl))
theorem mt_pf_Court_bestDebtor_50 (l0 : Launch) {σ : kM} {x1 : Int} {r : Int} {τ : kM} (h : pf_Court_bestDebtor_50 σ x1 = some (r, τ)) : kMet l0 ky_Court_bestDebtor prog_3_method_9_code 6 (some .int) R0_pf_Court_bestDebtor_50 kcl yC σ [kr 50, ki x1] (some (ki r)) τ := kMet.of' [some (kr 50), some (ki x1), none, none, none, none] (by decide) (Nat.le_of_ble_eq_true rfl) ⟨rfl, rfl, trivial⟩ (fun x C => bd_pf_Court_bestDebtor_50 C σ x1 h (fun r τ e => by cases e; rfl))
def R0_pf_P_plaintiff_0 : Room := ({ frames := 7, cells := 1, slots := 6, locals := 168 } : Room)
def pf_P_plaintiff_0 (σ : kM) (x1 : Int) : Option ((String ⊕ Int) × kM) :=
  (pf_P_needPerson_0 σ x1).bind fun q_7 => match q_7 with
  | (.inl E_3, σ_1) => some (.inl E_3, σ_1)
  | (.inr _, σ_1) =>
    (pf_Court_bestDebtor_50 σ_1 x1).bind fun (r_4, σ_5) =>
    some ((.inr r_4, σ_5))
set_option maxHeartbeats 4000000 in
theorem bd_pf_P_plaintiff_0 {x : kX} {l0 : Launch} {Q : State → Prop} (C : kCx x prog_1_method_37_code "PoetFines" (some .int) kcl yC 2 l0 R0_pf_P_plaintiff_0) (hT : kTb x) (hfl : l0.stackTraces = false) (σ : kM) (x1 : Int) {out : (String ⊕ Int) × kM} (h : pf_P_plaintiff_0 σ x1 = some out) (hR : ∀ (r : Int) (τ : kM), out = (.inr r, τ) → Q = kQX x (.inr (some (ki r))) τ 1 6) (hE : ∀ (E : String) (τ : kM), out = (.inl E, τ) → Q = kQX x (.inl E) τ 1 6) : KW x 0 0 Q σ 0 [some (kr 0), some (ki x1)] [] := by
  unfold pf_P_plaintiff_0 at h
  refine kw_aload_n C (kdec dc_P_plaintiff 0 rfl) rfl 1 rfl rfl ?_
  refine kw_iload_n C (kdec dc_P_plaintiff 1 rfl) rfl 2 rfl rfl ?_
  obtain ⟨⟨q_7, σ_1⟩, hg_2, h⟩ := kbind_h h
  rcases q_7 with E_3 | _
  · dsimp only at h
    obtain rfl := Option.some.inj h
    exact kw_Q (hE _ _ rfl) (kw_callVX_t (As := [ki x1]) C hT (kdec dc_P_plaintiff 2 rfl) cv_P_148 rfl rfl (me_pf_P_needPerson_0 l0 hfl hg_2) ⟨rfl, rfl⟩ ⟨Nat.le_of_ble_eq_true rfl, Nat.le_of_ble_eq_true rfl⟩ ⟨Nat.le_of_ble_eq_true rfl, Nat.le_of_ble_eq_true rfl⟩ rfl (Nat.le_of_ble_eq_true rfl) (Nat.le_of_ble_eq_true rfl) (Nat.le_of_ble_eq_true rfl))
  · dsimp only at h
    refine kw_callVX (As := [ki x1]) C (kdec dc_P_plaintiff 2 rfl) 5 rfl cv_P_148 rfl rfl (mx_pf_P_needPerson_0 l0 hfl hg_2) ⟨rfl, rfl⟩ ⟨Nat.le_of_ble_eq_true rfl, Nat.le_of_ble_eq_true rfl⟩ ⟨Nat.le_of_ble_eq_true rfl, Nat.le_of_ble_eq_true rfl⟩ rfl (Nat.le_of_ble_eq_true rfl) ?_
    change KW x 1 6 Q σ_1 5 [some (kr 0), some (ki x1)] []
    refine kw_aload_n C (kdec dc_P_plaintiff 3 rfl) rfl 6 rfl rfl ?_
    refine kw_getR C (kdec dc_P_plaintiff 4 rfl) 9 rfl fd_C_P_72_0 ?_
    refine kw_iload_n C (kdec dc_P_plaintiff 5 rfl) rfl 10 rfl rfl ?_
    obtain ⟨⟨r_4, σ_5⟩, hg_6, h⟩ := kbind_h h
    dsimp only at h
    refine kw_callV (As := [ki x1]) C (kdec dc_P_plaintiff 6 rfl) 13 rfl cv_P_334 rfl rfl (mt_pf_Court_bestDebtor_50 l0 hg_6) ⟨rfl, rfl⟩ ⟨Nat.le_of_ble_eq_true rfl, Nat.le_of_ble_eq_true rfl⟩ ⟨Nat.le_of_ble_eq_true rfl, Nat.le_of_ble_eq_true rfl⟩ rfl (Nat.le_of_ble_eq_true rfl) ?_
    change KW x 1 6 Q σ_5 13 [some (kr 0), some (ki x1)] [ki r_4]
    obtain rfl := Option.some.inj h
    exact kw_Q (hR _ _ rfl) (kw_xret (by decide) (by decide) (kw_ireturn C (kdec dc_P_plaintiff 7 rfl)))
theorem mx_pf_P_plaintiff_0 (l0 : Launch) (hfl : l0.stackTraces = false) {σ : kM} {x1 : Int} {r : Int} {τ : kM} (h : pf_P_plaintiff_0 σ x1 = some (.inr r, τ)) : kXet l0 ky_P_plaintiff prog_1_method_37_code 2 (some .int) R0_pf_P_plaintiff_0 kcl yC σ [kr 0, ki x1] (.inr (some (ki r))) τ 1 6 := kXet.of [some (kr 0), some (ki x1)] (by decide) (Nat.le_of_ble_eq_true rfl) ⟨rfl, rfl, trivial⟩ (fun x C hT => bd_pf_P_plaintiff_0 C hT hfl σ x1 h (fun r τ e => by cases e; rfl) (fun E τ e => by cases e))
theorem me_pf_P_plaintiff_0 (l0 : Launch) (hfl : l0.stackTraces = false) {σ : kM} {x1 : Int} {E : String} {τ : kM} (h : pf_P_plaintiff_0 σ x1 = some (.inl E, τ)) : kXet l0 ky_P_plaintiff prog_1_method_37_code 2 (some .int) R0_pf_P_plaintiff_0 kcl yC σ [kr 0, ki x1] (.inl E) τ 1 6 := kXet.of [some (kr 0), some (ki x1)] (by decide) (Nat.le_of_ble_eq_true rfl) ⟨rfl, rfl, trivial⟩ (fun x C hT => bd_pf_P_plaintiff_0 C hT hfl σ x1 h (fun r τ e => by cases e) (fun E τ e => by cases e; rfl))
def R0_pf_World_copyFrom_37_30 : Room := ({ frames := 1, cells := 0, slots := 0, locals := 60 } : Room)
def pf_World_copyFrom_37_30 (σ : kM) : Option (kM) :=
  klet (kst σ 38 (va_cpy (σ 31) (σ 38) (0 : Int).toNat (0 : Int).toNat (85 : Int).toNat)) fun σ_2 =>
  some σ_2
set_option maxHeartbeats 4000000 in
theorem bd_pf_World_copyFrom_37_30 {x : kX} {l0 : Launch} {Q : State → Prop} (C : kCx x prog_12_method_3_code "PoetFines$World" none kcl yC 2 l0 R0_pf_World_copyFrom_37_30) (σ : kM) {out : kM} (h : pf_World_copyFrom_37_30 σ = some out) (hR : ∀ (τ : kM), out = τ → Q = kQ x none τ 0 0) : KW x 0 0 Q σ 0 [some (kr 37), some (kr 30)] [] := by
  unfold pf_World_copyFrom_37_30 at h
  refine kw_aload_n C (kdec dc_World_copyFrom 0 rfl) rfl 1 rfl rfl ?_
  refine kw_getR C (kdec dc_World_copyFrom 1 rfl) 4 rfl fd_C_World_11_30 ?_
  refine kw_iconst C (kdec dc_World_copyFrom 2 rfl) 5 rfl rfl ⟨by decide, by decide⟩ ?_
  refine kw_aload_n C (kdec dc_World_copyFrom 3 rfl) rfl 6 rfl rfl ?_
  refine kw_getR C (kdec dc_World_copyFrom 4 rfl) 9 rfl fd_C_World_11_37 ?_
  refine kw_iconst C (kdec dc_World_copyFrom 5 rfl) 10 rfl rfl ⟨by decide, by decide⟩ ?_
  refine kw_bipush (v := 85) C (kdec dc_World_copyFrom 6 rfl) 12 rfl (by decide) ⟨by decide, by decide⟩ ?_
  obtain ⟨σ_2, eσ_2, h⟩ := klet_h h
  refine kw_copy C (kdec dc_World_copyFrom 7 rfl) 15 rfl ca_World_15 rfl rfl (by decide) (by decide) (by decide) (by decide) (by decide) ⟨Nat.le_of_ble_eq_true rfl, by decide⟩ (Nat.le_of_ble_eq_true rfl) ?_
  refine kw_sig eσ_2 ?_
  obtain rfl := Option.some.inj h
  exact kw_Q (hR _ rfl) (kw_return C (kdec dc_World_copyFrom 8 rfl))
theorem mt_pf_World_copyFrom_37_30 (l0 : Launch) {σ : kM} {τ : kM} (h : pf_World_copyFrom_37_30 σ = some τ) : kMet l0 ky_World_copyFrom prog_12_method_3_code 2 none R0_pf_World_copyFrom_37_30 kcl yC σ [kr 37, kr 30] none τ := kMet.of' [some (kr 37), some (kr 30)] (by decide) (Nat.le_of_ble_eq_true rfl) ⟨rfl, rfl, trivial⟩ (fun x C => bd_pf_World_copyFrom_37_30 C σ h (fun τ e => by subst e; rfl))
def R0_pf_Chronicle_copyFrom_36_29 : Room := ({ frames := 2, cells := 0, slots := 0, locals := 81 } : Room)
def pf_Chronicle_copyFrom_36_29 (σ : kM) : Option (kM) :=
  (pf_World_copyFrom_37_30 σ).bind fun σ_1 =>
  klet (kst σ_1 36 (kup (σ_1 36) 1 (σ_1 29 1))) fun σ_2 =>
  klet (kst σ_2 36 (kup (σ_2 36) 3 (σ_2 29 3))) fun σ_3 =>
  klet (kst σ_3 39 (va_cpy (σ_3 32) (σ_3 39) (0 : Int).toNat (0 : Int).toNat (3400 : Int).toNat)) fun σ_5 =>
  klet (kst σ_5 36 (kup (σ_5 36) 4 (σ_5 29 4))) fun σ_6 =>
  klet (kst σ_6 40 (va_cpy (σ_6 33) (σ_6 40) (0 : Int).toNat (0 : Int).toNat (8 : Int).toNat)) fun σ_8 =>
  klet (kst σ_8 41 (va_cpy (σ_8 34) (σ_8 41) (0 : Int).toNat (0 : Int).toNat (8 : Int).toNat)) fun σ_10 =>
  klet (kst σ_10 42 (va_cpy (σ_10 35) (σ_10 42) (0 : Int).toNat (0 : Int).toNat (8 : Int).toNat)) fun σ_12 =>
  some σ_12
set_option maxHeartbeats 4000000 in
theorem bd_pf_Chronicle_copyFrom_36_29 {x : kX} {l0 : Launch} {Q : State → Prop} (C : kCx x prog_2_method_3_code "PoetFines$Chronicle" none kcl yC 2 l0 R0_pf_Chronicle_copyFrom_36_29) (σ : kM) {out : kM} (h : pf_Chronicle_copyFrom_36_29 σ = some out) (hR : ∀ (τ : kM), out = τ → Q = kQ x none τ 0 0) : KW x 0 0 Q σ 0 [some (kr 36), some (kr 29)] [] := by
  unfold pf_Chronicle_copyFrom_36_29 at h
  refine kw_aload_n C (kdec dc_Chronicle_copyFrom 0 rfl) rfl 1 rfl rfl ?_
  refine kw_getR C (kdec dc_Chronicle_copyFrom 1 rfl) 4 rfl fd_C_Chronicle_12_36 ?_
  refine kw_aload_n C (kdec dc_Chronicle_copyFrom 2 rfl) rfl 5 rfl rfl ?_
  refine kw_getR C (kdec dc_Chronicle_copyFrom 3 rfl) 8 rfl fd_C_Chronicle_12_29 ?_
  obtain ⟨σ_1, hg_13, h⟩ := kbind_h h
  refine kw_callV (As := [kr 30]) C (kdec dc_Chronicle_copyFrom 4 rfl) 11 rfl cv_Chronicle_41 rfl rfl (mt_pf_World_copyFrom_37_30 l0 hg_13) ⟨rfl, rfl⟩ ⟨Nat.le_of_ble_eq_true rfl, Nat.le_of_ble_eq_true rfl⟩ ⟨Nat.zero_le _, Nat.zero_le _⟩ rfl (Nat.le_of_ble_eq_true rfl) ?_
  change KW x 0 0 Q σ_1 11 [some (kr 36), some (kr 29)] []
  refine kw_aload_n C (kdec dc_Chronicle_copyFrom 5 rfl) rfl 12 rfl rfl ?_
  refine kw_aload_n C (kdec dc_Chronicle_copyFrom 6 rfl) rfl 13 rfl rfl ?_
  refine kw_getI C (kdec dc_Chronicle_copyFrom 7 rfl) 16 rfl fd_C_Chronicle_18_29 ?_
  obtain ⟨σ_2, eσ_2, h⟩ := klet_h h
  refine kw_putI C (kdec dc_Chronicle_copyFrom 8 rfl) 19 rfl fp_C_Chronicle_18_36 ?_
  refine kw_sig eσ_2 ?_
  refine kw_aload_n C (kdec dc_Chronicle_copyFrom 9 rfl) rfl 20 rfl rfl ?_
  refine kw_aload_n C (kdec dc_Chronicle_copyFrom 10 rfl) rfl 21 rfl rfl ?_
  refine kw_getI C (kdec dc_Chronicle_copyFrom 11 rfl) 24 rfl fd_C_Chronicle_26_29 ?_
  obtain ⟨σ_3, eσ_3, h⟩ := klet_h h
  refine kw_putI C (kdec dc_Chronicle_copyFrom 12 rfl) 27 rfl fp_C_Chronicle_26_36 ?_
  refine kw_sig eσ_3 ?_
  refine kw_aload_n C (kdec dc_Chronicle_copyFrom 13 rfl) rfl 28 rfl rfl ?_
  refine kw_getR C (kdec dc_Chronicle_copyFrom 14 rfl) 31 rfl fd_C_Chronicle_22_29 ?_
  refine kw_iconst C (kdec dc_Chronicle_copyFrom 15 rfl) 32 rfl rfl ⟨by decide, by decide⟩ ?_
  refine kw_aload_n C (kdec dc_Chronicle_copyFrom 16 rfl) rfl 33 rfl rfl ?_
  refine kw_getR C (kdec dc_Chronicle_copyFrom 17 rfl) 36 rfl fd_C_Chronicle_22_36 ?_
  refine kw_iconst C (kdec dc_Chronicle_copyFrom 18 rfl) 37 rfl rfl ⟨by decide, by decide⟩ ?_
  refine kw_aload_n C (kdec dc_Chronicle_copyFrom 19 rfl) rfl 38 rfl rfl ?_
  refine kw_getR C (kdec dc_Chronicle_copyFrom 20 rfl) 41 rfl fd_C_Chronicle_22_36 ?_
  refine kw_alen (v := 3400) C (kdec dc_Chronicle_copyFrom 21 rfl) 42 rfl rfl (by decide) rfl ⟨by decide, by decide⟩ ?_
  obtain ⟨σ_5, eσ_5, h⟩ := klet_h h
  refine kw_copy C (kdec dc_Chronicle_copyFrom 22 rfl) 45 rfl ca_Chronicle_45 rfl rfl (by decide) (by decide) (by decide) (by decide) (by decide) ⟨Nat.le_of_ble_eq_true rfl, by decide⟩ (Nat.le_of_ble_eq_true rfl) ?_
  refine kw_sig eσ_5 ?_
  refine kw_aload_n C (kdec dc_Chronicle_copyFrom 23 rfl) rfl 46 rfl rfl ?_
  refine kw_aload_n C (kdec dc_Chronicle_copyFrom 24 rfl) rfl 47 rfl rfl ?_
  refine kw_getI C (kdec dc_Chronicle_copyFrom 25 rfl) 50 rfl fd_C_Chronicle_29_29 ?_
  obtain ⟨σ_6, eσ_6, h⟩ := klet_h h
  refine kw_putI C (kdec dc_Chronicle_copyFrom 26 rfl) 53 rfl fp_C_Chronicle_29_36 ?_
  refine kw_sig eσ_6 ?_
  refine kw_aload_n C (kdec dc_Chronicle_copyFrom 27 rfl) rfl 54 rfl rfl ?_
  refine kw_getR C (kdec dc_Chronicle_copyFrom 28 rfl) 57 rfl fd_C_Chronicle_32_29 ?_
  refine kw_iconst C (kdec dc_Chronicle_copyFrom 29 rfl) 58 rfl rfl ⟨by decide, by decide⟩ ?_
  refine kw_aload_n C (kdec dc_Chronicle_copyFrom 30 rfl) rfl 59 rfl rfl ?_
  refine kw_getR C (kdec dc_Chronicle_copyFrom 31 rfl) 62 rfl fd_C_Chronicle_32_36 ?_
  refine kw_iconst C (kdec dc_Chronicle_copyFrom 32 rfl) 63 rfl rfl ⟨by decide, by decide⟩ ?_
  refine kw_bipush (v := 8) C (kdec dc_Chronicle_copyFrom 33 rfl) 65 rfl (by decide) ⟨by decide, by decide⟩ ?_
  obtain ⟨σ_8, eσ_8, h⟩ := klet_h h
  refine kw_copy C (kdec dc_Chronicle_copyFrom 34 rfl) 68 rfl ca_Chronicle_45 rfl rfl (by decide) (by decide) (by decide) (by decide) (by decide) ⟨Nat.le_of_ble_eq_true rfl, by decide⟩ (Nat.le_of_ble_eq_true rfl) ?_
  refine kw_sig eσ_8 ?_
  refine kw_aload_n C (kdec dc_Chronicle_copyFrom 35 rfl) rfl 69 rfl rfl ?_
  refine kw_getR C (kdec dc_Chronicle_copyFrom 36 rfl) 72 rfl fd_C_Chronicle_35_29 ?_
  refine kw_iconst C (kdec dc_Chronicle_copyFrom 37 rfl) 73 rfl rfl ⟨by decide, by decide⟩ ?_
  refine kw_aload_n C (kdec dc_Chronicle_copyFrom 38 rfl) rfl 74 rfl rfl ?_
  refine kw_getR C (kdec dc_Chronicle_copyFrom 39 rfl) 77 rfl fd_C_Chronicle_35_36 ?_
  refine kw_iconst C (kdec dc_Chronicle_copyFrom 40 rfl) 78 rfl rfl ⟨by decide, by decide⟩ ?_
  refine kw_bipush (v := 8) C (kdec dc_Chronicle_copyFrom 41 rfl) 80 rfl (by decide) ⟨by decide, by decide⟩ ?_
  obtain ⟨σ_10, eσ_10, h⟩ := klet_h h
  refine kw_copy C (kdec dc_Chronicle_copyFrom 42 rfl) 83 rfl ca_Chronicle_45 rfl rfl (by decide) (by decide) (by decide) (by decide) (by decide) ⟨Nat.le_of_ble_eq_true rfl, by decide⟩ (Nat.le_of_ble_eq_true rfl) ?_
  refine kw_sig eσ_10 ?_
  refine kw_aload_n C (kdec dc_Chronicle_copyFrom 43 rfl) rfl 84 rfl rfl ?_
  refine kw_getR C (kdec dc_Chronicle_copyFrom 44 rfl) 87 rfl fd_C_Chronicle_38_29 ?_
  refine kw_iconst C (kdec dc_Chronicle_copyFrom 45 rfl) 88 rfl rfl ⟨by decide, by decide⟩ ?_
  refine kw_aload_n C (kdec dc_Chronicle_copyFrom 46 rfl) rfl 89 rfl rfl ?_
  refine kw_getR C (kdec dc_Chronicle_copyFrom 47 rfl) 92 rfl fd_C_Chronicle_38_36 ?_
  refine kw_iconst C (kdec dc_Chronicle_copyFrom 48 rfl) 93 rfl rfl ⟨by decide, by decide⟩ ?_
  refine kw_bipush (v := 8) C (kdec dc_Chronicle_copyFrom 49 rfl) 95 rfl (by decide) ⟨by decide, by decide⟩ ?_
  obtain ⟨σ_12, eσ_12, h⟩ := klet_h h
  refine kw_copy C (kdec dc_Chronicle_copyFrom 50 rfl) 98 rfl ca_Chronicle_45 rfl rfl (by decide) (by decide) (by decide) (by decide) (by decide) ⟨Nat.le_of_ble_eq_true rfl, by decide⟩ (Nat.le_of_ble_eq_true rfl) ?_
  refine kw_sig eσ_12 ?_
  obtain rfl := Option.some.inj h
  exact kw_Q (hR _ rfl) (kw_return C (kdec dc_Chronicle_copyFrom 51 rfl))
theorem mt_pf_Chronicle_copyFrom_36_29 (l0 : Launch) {σ : kM} {τ : kM} (h : pf_Chronicle_copyFrom_36_29 σ = some τ) : kMet l0 ky_Chronicle_copyFrom prog_2_method_3_code 2 none R0_pf_Chronicle_copyFrom_36_29 kcl yC σ [kr 36, kr 29] none τ := kMet.of' [some (kr 36), some (kr 29)] (by decide) (Nat.le_of_ble_eq_true rfl) ⟨rfl, rfl, trivial⟩ (fun x C => bd_pf_Chronicle_copyFrom_36_29 C σ h (fun τ e => by subst e; rfl))
def R0_pf_P_image_0 : Room := ({ frames := 3, cells := 0, slots := 0, locals := 102 } : Room)
def pf_P_image_0 (σ : kM) : Option (kM) :=
  (pf_Chronicle_copyFrom_36_29 σ).bind fun σ_1 =>
  klet (kst σ_1 0 (kup (σ_1 0) 8 1)) fun σ_2 =>
  some σ_2
set_option maxHeartbeats 4000000 in
theorem bd_pf_P_image_0 {x : kX} {l0 : Launch} {Q : State → Prop} (C : kCx x prog_1_method_38_code "PoetFines" none kcl yC 1 l0 R0_pf_P_image_0) (σ : kM) {out : kM} (h : pf_P_image_0 σ = some out) (hR : ∀ (τ : kM), out = τ → Q = kQ x none τ 0 0) : KW x 0 0 Q σ 0 [some (kr 0)] [] := by
  unfold pf_P_image_0 at h
  refine kw_aload_n C (kdec dc_P_image 0 rfl) rfl 1 rfl rfl ?_
  refine kw_getR C (kdec dc_P_image 1 rfl) 4 rfl fd_C_P_47_0 ?_
  refine kw_aload_n C (kdec dc_P_image 2 rfl) rfl 5 rfl rfl ?_
  refine kw_getR C (kdec dc_P_image 3 rfl) 8 rfl fd_C_P_43_0 ?_
  obtain ⟨σ_1, hg_3, h⟩ := kbind_h h
  refine kw_callV (As := [kr 29]) C (kdec dc_P_image 4 rfl) 11 rfl cv_P_337 rfl rfl (mt_pf_Chronicle_copyFrom_36_29 l0 hg_3) ⟨rfl, rfl⟩ ⟨Nat.le_of_ble_eq_true rfl, Nat.le_of_ble_eq_true rfl⟩ ⟨Nat.zero_le _, Nat.zero_le _⟩ rfl (Nat.le_of_ble_eq_true rfl) ?_
  change KW x 0 0 Q σ_1 11 [some (kr 0)] []
  refine kw_aload_n C (kdec dc_P_image 5 rfl) rfl 12 rfl rfl ?_
  refine kw_iconst C (kdec dc_P_image 6 rfl) 13 rfl rfl ⟨by decide, by decide⟩ ?_
  obtain ⟨σ_2, eσ_2, h⟩ := klet_h h
  refine kw_putZ C (kdec dc_P_image 7 rfl) 16 rfl fp_C_P_50_0 (by decide) ?_
  refine kw_sig eσ_2 ?_
  obtain rfl := Option.some.inj h
  exact kw_Q (hR _ rfl) (kw_return C (kdec dc_P_image 8 rfl))
theorem mt_pf_P_image_0 (l0 : Launch) {σ : kM} {τ : kM} (h : pf_P_image_0 σ = some τ) : kMet l0 ky_P_image prog_1_method_38_code 1 none R0_pf_P_image_0 kcl yC σ [kr 0] none τ := kMet.of' [some (kr 0)] (by decide) (Nat.le_of_ble_eq_true rfl) ⟨rfl, trivial⟩ (fun x C => bd_pf_P_image_0 C σ h (fun τ e => by subst e; rfl))
def R0_pf_World_copyFrom_30_37 : Room := ({ frames := 1, cells := 0, slots := 0, locals := 60 } : Room)
def pf_World_copyFrom_30_37 (σ : kM) : Option (kM) :=
  klet (kst σ 31 (va_cpy (σ 38) (σ 31) (0 : Int).toNat (0 : Int).toNat (85 : Int).toNat)) fun σ_2 =>
  some σ_2
set_option maxHeartbeats 4000000 in
theorem bd_pf_World_copyFrom_30_37 {x : kX} {l0 : Launch} {Q : State → Prop} (C : kCx x prog_12_method_3_code "PoetFines$World" none kcl yC 2 l0 R0_pf_World_copyFrom_30_37) (σ : kM) {out : kM} (h : pf_World_copyFrom_30_37 σ = some out) (hR : ∀ (τ : kM), out = τ → Q = kQ x none τ 0 0) : KW x 0 0 Q σ 0 [some (kr 30), some (kr 37)] [] := by
  unfold pf_World_copyFrom_30_37 at h
  refine kw_aload_n C (kdec dc_World_copyFrom 0 rfl) rfl 1 rfl rfl ?_
  refine kw_getR C (kdec dc_World_copyFrom 1 rfl) 4 rfl fd_C_World_11_37 ?_
  refine kw_iconst C (kdec dc_World_copyFrom 2 rfl) 5 rfl rfl ⟨by decide, by decide⟩ ?_
  refine kw_aload_n C (kdec dc_World_copyFrom 3 rfl) rfl 6 rfl rfl ?_
  refine kw_getR C (kdec dc_World_copyFrom 4 rfl) 9 rfl fd_C_World_11_30 ?_
  refine kw_iconst C (kdec dc_World_copyFrom 5 rfl) 10 rfl rfl ⟨by decide, by decide⟩ ?_
  refine kw_bipush (v := 85) C (kdec dc_World_copyFrom 6 rfl) 12 rfl (by decide) ⟨by decide, by decide⟩ ?_
  obtain ⟨σ_2, eσ_2, h⟩ := klet_h h
  refine kw_copy C (kdec dc_World_copyFrom 7 rfl) 15 rfl ca_World_15 rfl rfl (by decide) (by decide) (by decide) (by decide) (by decide) ⟨Nat.le_of_ble_eq_true rfl, by decide⟩ (Nat.le_of_ble_eq_true rfl) ?_
  refine kw_sig eσ_2 ?_
  obtain rfl := Option.some.inj h
  exact kw_Q (hR _ rfl) (kw_return C (kdec dc_World_copyFrom 8 rfl))
theorem mt_pf_World_copyFrom_30_37 (l0 : Launch) {σ : kM} {τ : kM} (h : pf_World_copyFrom_30_37 σ = some τ) : kMet l0 ky_World_copyFrom prog_12_method_3_code 2 none R0_pf_World_copyFrom_30_37 kcl yC σ [kr 30, kr 37] none τ := kMet.of' [some (kr 30), some (kr 37)] (by decide) (Nat.le_of_ble_eq_true rfl) ⟨rfl, rfl, trivial⟩ (fun x C => bd_pf_World_copyFrom_30_37 C σ h (fun τ e => by subst e; rfl))
def R0_pf_Chronicle_copyFrom_29_36 : Room := ({ frames := 2, cells := 0, slots := 0, locals := 81 } : Room)
def pf_Chronicle_copyFrom_29_36 (σ : kM) : Option (kM) :=
  (pf_World_copyFrom_30_37 σ).bind fun σ_1 =>
  klet (kst σ_1 29 (kup (σ_1 29) 1 (σ_1 36 1))) fun σ_2 =>
  klet (kst σ_2 29 (kup (σ_2 29) 3 (σ_2 36 3))) fun σ_3 =>
  klet (kst σ_3 32 (va_cpy (σ_3 39) (σ_3 32) (0 : Int).toNat (0 : Int).toNat (3400 : Int).toNat)) fun σ_5 =>
  klet (kst σ_5 29 (kup (σ_5 29) 4 (σ_5 36 4))) fun σ_6 =>
  klet (kst σ_6 33 (va_cpy (σ_6 40) (σ_6 33) (0 : Int).toNat (0 : Int).toNat (8 : Int).toNat)) fun σ_8 =>
  klet (kst σ_8 34 (va_cpy (σ_8 41) (σ_8 34) (0 : Int).toNat (0 : Int).toNat (8 : Int).toNat)) fun σ_10 =>
  klet (kst σ_10 35 (va_cpy (σ_10 42) (σ_10 35) (0 : Int).toNat (0 : Int).toNat (8 : Int).toNat)) fun σ_12 =>
  some σ_12
set_option maxHeartbeats 4000000 in
theorem bd_pf_Chronicle_copyFrom_29_36 {x : kX} {l0 : Launch} {Q : State → Prop} (C : kCx x prog_2_method_3_code "PoetFines$Chronicle" none kcl yC 2 l0 R0_pf_Chronicle_copyFrom_29_36) (σ : kM) {out : kM} (h : pf_Chronicle_copyFrom_29_36 σ = some out) (hR : ∀ (τ : kM), out = τ → Q = kQ x none τ 0 0) : KW x 0 0 Q σ 0 [some (kr 29), some (kr 36)] [] := by
  unfold pf_Chronicle_copyFrom_29_36 at h
  refine kw_aload_n C (kdec dc_Chronicle_copyFrom 0 rfl) rfl 1 rfl rfl ?_
  refine kw_getR C (kdec dc_Chronicle_copyFrom 1 rfl) 4 rfl fd_C_Chronicle_12_29 ?_
  refine kw_aload_n C (kdec dc_Chronicle_copyFrom 2 rfl) rfl 5 rfl rfl ?_
  refine kw_getR C (kdec dc_Chronicle_copyFrom 3 rfl) 8 rfl fd_C_Chronicle_12_36 ?_
  obtain ⟨σ_1, hg_13, h⟩ := kbind_h h
  refine kw_callV (As := [kr 37]) C (kdec dc_Chronicle_copyFrom 4 rfl) 11 rfl cv_Chronicle_41 rfl rfl (mt_pf_World_copyFrom_30_37 l0 hg_13) ⟨rfl, rfl⟩ ⟨Nat.le_of_ble_eq_true rfl, Nat.le_of_ble_eq_true rfl⟩ ⟨Nat.zero_le _, Nat.zero_le _⟩ rfl (Nat.le_of_ble_eq_true rfl) ?_
  change KW x 0 0 Q σ_1 11 [some (kr 29), some (kr 36)] []
  refine kw_aload_n C (kdec dc_Chronicle_copyFrom 5 rfl) rfl 12 rfl rfl ?_
  refine kw_aload_n C (kdec dc_Chronicle_copyFrom 6 rfl) rfl 13 rfl rfl ?_
  refine kw_getI C (kdec dc_Chronicle_copyFrom 7 rfl) 16 rfl fd_C_Chronicle_18_36 ?_
  obtain ⟨σ_2, eσ_2, h⟩ := klet_h h
  refine kw_putI C (kdec dc_Chronicle_copyFrom 8 rfl) 19 rfl fp_C_Chronicle_18_29 ?_
  refine kw_sig eσ_2 ?_
  refine kw_aload_n C (kdec dc_Chronicle_copyFrom 9 rfl) rfl 20 rfl rfl ?_
  refine kw_aload_n C (kdec dc_Chronicle_copyFrom 10 rfl) rfl 21 rfl rfl ?_
  refine kw_getI C (kdec dc_Chronicle_copyFrom 11 rfl) 24 rfl fd_C_Chronicle_26_36 ?_
  obtain ⟨σ_3, eσ_3, h⟩ := klet_h h
  refine kw_putI C (kdec dc_Chronicle_copyFrom 12 rfl) 27 rfl fp_C_Chronicle_26_29 ?_
  refine kw_sig eσ_3 ?_
  refine kw_aload_n C (kdec dc_Chronicle_copyFrom 13 rfl) rfl 28 rfl rfl ?_
  refine kw_getR C (kdec dc_Chronicle_copyFrom 14 rfl) 31 rfl fd_C_Chronicle_22_36 ?_
  refine kw_iconst C (kdec dc_Chronicle_copyFrom 15 rfl) 32 rfl rfl ⟨by decide, by decide⟩ ?_
  refine kw_aload_n C (kdec dc_Chronicle_copyFrom 16 rfl) rfl 33 rfl rfl ?_
  refine kw_getR C (kdec dc_Chronicle_copyFrom 17 rfl) 36 rfl fd_C_Chronicle_22_29 ?_
  refine kw_iconst C (kdec dc_Chronicle_copyFrom 18 rfl) 37 rfl rfl ⟨by decide, by decide⟩ ?_
  refine kw_aload_n C (kdec dc_Chronicle_copyFrom 19 rfl) rfl 38 rfl rfl ?_
  refine kw_getR C (kdec dc_Chronicle_copyFrom 20 rfl) 41 rfl fd_C_Chronicle_22_29 ?_
  refine kw_alen (v := 3400) C (kdec dc_Chronicle_copyFrom 21 rfl) 42 rfl rfl (by decide) rfl ⟨by decide, by decide⟩ ?_
  obtain ⟨σ_5, eσ_5, h⟩ := klet_h h
  refine kw_copy C (kdec dc_Chronicle_copyFrom 22 rfl) 45 rfl ca_Chronicle_45 rfl rfl (by decide) (by decide) (by decide) (by decide) (by decide) ⟨Nat.le_of_ble_eq_true rfl, by decide⟩ (Nat.le_of_ble_eq_true rfl) ?_
  refine kw_sig eσ_5 ?_
  refine kw_aload_n C (kdec dc_Chronicle_copyFrom 23 rfl) rfl 46 rfl rfl ?_
  refine kw_aload_n C (kdec dc_Chronicle_copyFrom 24 rfl) rfl 47 rfl rfl ?_
  refine kw_getI C (kdec dc_Chronicle_copyFrom 25 rfl) 50 rfl fd_C_Chronicle_29_36 ?_
  obtain ⟨σ_6, eσ_6, h⟩ := klet_h h
  refine kw_putI C (kdec dc_Chronicle_copyFrom 26 rfl) 53 rfl fp_C_Chronicle_29_29 ?_
  refine kw_sig eσ_6 ?_
  refine kw_aload_n C (kdec dc_Chronicle_copyFrom 27 rfl) rfl 54 rfl rfl ?_
  refine kw_getR C (kdec dc_Chronicle_copyFrom 28 rfl) 57 rfl fd_C_Chronicle_32_36 ?_
  refine kw_iconst C (kdec dc_Chronicle_copyFrom 29 rfl) 58 rfl rfl ⟨by decide, by decide⟩ ?_
  refine kw_aload_n C (kdec dc_Chronicle_copyFrom 30 rfl) rfl 59 rfl rfl ?_
  refine kw_getR C (kdec dc_Chronicle_copyFrom 31 rfl) 62 rfl fd_C_Chronicle_32_29 ?_
  refine kw_iconst C (kdec dc_Chronicle_copyFrom 32 rfl) 63 rfl rfl ⟨by decide, by decide⟩ ?_
  refine kw_bipush (v := 8) C (kdec dc_Chronicle_copyFrom 33 rfl) 65 rfl (by decide) ⟨by decide, by decide⟩ ?_
  obtain ⟨σ_8, eσ_8, h⟩ := klet_h h
  refine kw_copy C (kdec dc_Chronicle_copyFrom 34 rfl) 68 rfl ca_Chronicle_45 rfl rfl (by decide) (by decide) (by decide) (by decide) (by decide) ⟨Nat.le_of_ble_eq_true rfl, by decide⟩ (Nat.le_of_ble_eq_true rfl) ?_
  refine kw_sig eσ_8 ?_
  refine kw_aload_n C (kdec dc_Chronicle_copyFrom 35 rfl) rfl 69 rfl rfl ?_
  refine kw_getR C (kdec dc_Chronicle_copyFrom 36 rfl) 72 rfl fd_C_Chronicle_35_36 ?_
  refine kw_iconst C (kdec dc_Chronicle_copyFrom 37 rfl) 73 rfl rfl ⟨by decide, by decide⟩ ?_
  refine kw_aload_n C (kdec dc_Chronicle_copyFrom 38 rfl) rfl 74 rfl rfl ?_
  refine kw_getR C (kdec dc_Chronicle_copyFrom 39 rfl) 77 rfl fd_C_Chronicle_35_29 ?_
  refine kw_iconst C (kdec dc_Chronicle_copyFrom 40 rfl) 78 rfl rfl ⟨by decide, by decide⟩ ?_
  refine kw_bipush (v := 8) C (kdec dc_Chronicle_copyFrom 41 rfl) 80 rfl (by decide) ⟨by decide, by decide⟩ ?_
  obtain ⟨σ_10, eσ_10, h⟩ := klet_h h
  refine kw_copy C (kdec dc_Chronicle_copyFrom 42 rfl) 83 rfl ca_Chronicle_45 rfl rfl (by decide) (by decide) (by decide) (by decide) (by decide) ⟨Nat.le_of_ble_eq_true rfl, by decide⟩ (Nat.le_of_ble_eq_true rfl) ?_
  refine kw_sig eσ_10 ?_
  refine kw_aload_n C (kdec dc_Chronicle_copyFrom 43 rfl) rfl 84 rfl rfl ?_
  refine kw_getR C (kdec dc_Chronicle_copyFrom 44 rfl) 87 rfl fd_C_Chronicle_38_36 ?_
  refine kw_iconst C (kdec dc_Chronicle_copyFrom 45 rfl) 88 rfl rfl ⟨by decide, by decide⟩ ?_
  refine kw_aload_n C (kdec dc_Chronicle_copyFrom 46 rfl) rfl 89 rfl rfl ?_
  refine kw_getR C (kdec dc_Chronicle_copyFrom 47 rfl) 92 rfl fd_C_Chronicle_38_29 ?_
  refine kw_iconst C (kdec dc_Chronicle_copyFrom 48 rfl) 93 rfl rfl ⟨by decide, by decide⟩ ?_
  refine kw_bipush (v := 8) C (kdec dc_Chronicle_copyFrom 49 rfl) 95 rfl (by decide) ⟨by decide, by decide⟩ ?_
  obtain ⟨σ_12, eσ_12, h⟩ := klet_h h
  refine kw_copy C (kdec dc_Chronicle_copyFrom 50 rfl) 98 rfl ca_Chronicle_45 rfl rfl (by decide) (by decide) (by decide) (by decide) (by decide) ⟨Nat.le_of_ble_eq_true rfl, by decide⟩ (Nat.le_of_ble_eq_true rfl) ?_
  refine kw_sig eσ_12 ?_
  obtain rfl := Option.some.inj h
  exact kw_Q (hR _ rfl) (kw_return C (kdec dc_Chronicle_copyFrom 51 rfl))
theorem mt_pf_Chronicle_copyFrom_29_36 (l0 : Launch) {σ : kM} {τ : kM} (h : pf_Chronicle_copyFrom_29_36 σ = some τ) : kMet l0 ky_Chronicle_copyFrom prog_2_method_3_code 2 none R0_pf_Chronicle_copyFrom_29_36 kcl yC σ [kr 29, kr 36] none τ := kMet.of' [some (kr 29), some (kr 36)] (by decide) (Nat.le_of_ble_eq_true rfl) ⟨rfl, rfl, trivial⟩ (fun x C => bd_pf_Chronicle_copyFrom_29_36 C σ h (fun τ e => by subst e; rfl))
def R0_pf_P_restore_0 : Room := ({ frames := 3, cells := 0, slots := 0, locals := 102 } : Room)
def pf_P_restore_0_j18 (σ : kM) : Option (Int × kM) :=
  kchk ((σ 0 8) = 0 ∨ (σ 0 8) = 1) <|
  some ((σ 0 8, σ))
set_option maxHeartbeats 4000000 in
theorem bd_pf_P_restore_0_j18 {x : kX} {l0 : Launch} {Q : State → Prop} (C : kCx x prog_1_method_39_code "PoetFines" (some .boolean) kcl yC 1 l0 R0_pf_P_restore_0) (σ : kM) {out : Int × kM} (h : pf_P_restore_0_j18 σ = some out) (hR : ∀ (r : Int) (τ : kM), out = (r, τ) → Q = kQ x (some (ki r)) τ 0 0) : KW x 0 0 Q σ 18 [some (kr 0)] [] := by
  unfold pf_P_restore_0_j18 at h
  refine kw_aload_n C (kdec dc_P_restore 8 rfl) rfl 19 rfl rfl ?_
  refine kw_getI C (kdec dc_P_restore 9 rfl) 22 rfl fd_C_P_50_0 ?_
  obtain ⟨hc_1, h⟩ := kchk_h h
  obtain rfl := Option.some.inj h
  exact kw_Q (hR _ _ rfl) (kw_zreturn C (kdec dc_P_restore 10 rfl) hc_1)
def pf_P_restore_0 (σ : kM) : Option (Int × kM) :=
  if (σ 0 8) = 0 then
    pf_P_restore_0_j18 σ
  else
    (pf_Chronicle_copyFrom_29_36 σ).bind fun σ_2 =>
    pf_P_restore_0_j18 σ_2
set_option maxHeartbeats 4000000 in
theorem bd_pf_P_restore_0 {x : kX} {l0 : Launch} {Q : State → Prop} (C : kCx x prog_1_method_39_code "PoetFines" (some .boolean) kcl yC 1 l0 R0_pf_P_restore_0) (σ : kM) {out : Int × kM} (h : pf_P_restore_0 σ = some out) (hR : ∀ (r : Int) (τ : kM), out = (r, τ) → Q = kQ x (some (ki r)) τ 0 0) : KW x 0 0 Q σ 0 [some (kr 0)] [] := by
  unfold pf_P_restore_0 at h
  refine kw_aload_n C (kdec dc_P_restore 0 rfl) rfl 1 rfl rfl ?_
  refine kw_getI C (kdec dc_P_restore 1 rfl) 4 rfl fd_C_P_50_0 ?_
  refine kw_if_eq C (kdec dc_P_restore 2 rfl) 18 7 (by decide) rfl (fun hc4 => ?_) (fun hc4 => ?_)
  · rw [if_pos hc4] at h
    exact bd_pf_P_restore_0_j18 C σ h hR
  · rw [if_neg hc4] at h
    refine kw_aload_n C (kdec dc_P_restore 3 rfl) rfl 8 rfl rfl ?_
    refine kw_getR C (kdec dc_P_restore 4 rfl) 11 rfl fd_C_P_43_0 ?_
    refine kw_aload_n C (kdec dc_P_restore 5 rfl) rfl 12 rfl rfl ?_
    refine kw_getR C (kdec dc_P_restore 6 rfl) 15 rfl fd_C_P_47_0 ?_
    obtain ⟨σ_2, hg_3, h⟩ := kbind_h h
    refine kw_callV (As := [kr 36]) C (kdec dc_P_restore 7 rfl) 18 rfl cv_P_337 rfl rfl (mt_pf_Chronicle_copyFrom_29_36 l0 hg_3) ⟨rfl, rfl⟩ ⟨Nat.le_of_ble_eq_true rfl, Nat.le_of_ble_eq_true rfl⟩ ⟨Nat.zero_le _, Nat.zero_le _⟩ rfl (Nat.le_of_ble_eq_true rfl) ?_
    change KW x 0 0 Q σ_2 18 [some (kr 0)] []
    exact bd_pf_P_restore_0_j18 C σ_2 h hR
theorem mt_pf_P_restore_0 (l0 : Launch) {σ : kM} {r : Int} {τ : kM} (h : pf_P_restore_0 σ = some (r, τ)) : kMet l0 ky_P_restore prog_1_method_39_code 1 (some .boolean) R0_pf_P_restore_0 kcl yC σ [kr 0] (some (ki r)) τ := kMet.of' [some (kr 0)] (by decide) (Nat.le_of_ble_eq_true rfl) ⟨rfl, trivial⟩ (fun x C => bd_pf_P_restore_0 C σ h (fun r τ e => by cases e; rfl))

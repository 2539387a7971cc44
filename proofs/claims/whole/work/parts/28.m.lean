def R0_mm_getsAll : Room := ({ frames := 5, cells := 0, slots := 0, locals := 120 } : Room)
def mm_getsAll_l5 (σ : kM) (x1 : Int) (x2 : Int) (x3 : Int) (x4 : Int) : Option ((kM × Int × Int) ⊕ ((kM × Int))) :=
  kchk (0 ≤ (w32 (61 + x1)) ∧ (w32 (61 + x1)) < 290) <|
  if (σ 8 (w32 (61 + x1)).toNat) ≤ x4 then
    some (Sum.inr (σ, x3))
  else
    (mm_getsBy σ x1 x2 x4).bind fun (r_2, σ_3) =>
    klet (w32 (x3 + r_2)) fun x3_4 =>
    klet (w32 (x4 + 1)) fun x4_5 =>
    some (Sum.inl (σ_3, x3_4, x4_5))
set_option maxHeartbeats 4000000 in
theorem bd_mm_getsAll_l5 {x : kX} {l0 : Launch} {Q : State → Prop} (C : kCx x prog_14_method_94_code "PoetFinesModel" (some .int) kcl yM 5 l0 R0_mm_getsAll) (σ : kM) (x1 : Int) (x2 : Int) (x3 : Int) (x4 : Int) {out : (kM × Int × Int) ⊕ ((kM × Int))} (h : mm_getsAll_l5 σ x1 x2 x3 x4 = some out) (hC : ∀ (σ' : kM) (x3' : Int) (x4' : Int), out = Sum.inl (σ', x3', x4') → KW x 0 0 Q σ' 5 [some (kr 0), some (ki x1), some (ki x2), some (ki x3'), some (ki x4')] []) (hX36 : ∀ (σ' : kM) (x3' : Int), out = Sum.inr (σ', x3') → KW x 0 0 Q σ' 36 [none, none, none, some (ki x3'), none] []) : KW x 0 0 Q σ 5 [some (kr 0), some (ki x1), some (ki x2), some (ki x3), some (ki x4)] [] := by
  unfold mm_getsAll_l5 at h
  refine kw_iload C (kdec dc_M_getsAll 4 rfl) 7 rfl rfl ?_
  refine kw_aload_n C (kdec dc_M_getsAll 5 rfl) rfl 8 rfl rfl ?_
  refine kw_getR C (kdec dc_M_getsAll 6 rfl) 11 rfl fd_M_M_48_0 ?_
  refine kw_bipush (v := 61) C (kdec dc_M_getsAll 7 rfl) 13 rfl (by decide) ⟨by decide, by decide⟩ ?_
  refine kw_iload_n C (kdec dc_M_getsAll 8 rfl) rfl 14 rfl rfl ?_
  refine kw_iadd C (kdec dc_M_getsAll 9 rfl) 15 rfl ?_
  obtain ⟨hc_1, h⟩ := kchk_h h
  refine kw_iald C (kdec dc_M_getsAll 10 rfl) 16 rfl rfl hc_1.1 hc_1.2 ?_
  refine kw_icmp_ge C (kdec dc_M_getsAll 11 rfl) 36 19 (by decide) rfl (fun hc16 => ?_) (fun hc16 => ?_)
  · rw [if_pos hc16] at h
    obtain rfl := Option.some.inj h
    exact kw_sub (L' := [none, none, none, some (ki x3), none]) ⟨rfl, trivial⟩ (hX36 _ _ rfl)
  · rw [if_neg hc16] at h
    refine kw_iload_n C (kdec dc_M_getsAll 12 rfl) rfl 20 rfl rfl ?_
    refine kw_aload_n C (kdec dc_M_getsAll 13 rfl) rfl 21 rfl rfl ?_
    refine kw_iload_n C (kdec dc_M_getsAll 14 rfl) rfl 22 rfl rfl ?_
    refine kw_iload_n C (kdec dc_M_getsAll 15 rfl) rfl 23 rfl rfl ?_
    refine kw_iload C (kdec dc_M_getsAll 16 rfl) 25 rfl rfl ?_
    obtain ⟨⟨r_2, σ_3⟩, hg_6, h⟩ := kbind_h h
    dsimp only at h
    refine kw_callV (As := [ki x1, ki x2, ki x4]) C (kdec dc_M_getsAll 17 rfl) 28 rfl cv_M_383 rfl rfl (mt_mm_getsBy l0 hg_6) ⟨rfl, rfl⟩ ⟨Nat.le_of_ble_eq_true rfl, Nat.le_of_ble_eq_true rfl⟩ ⟨Nat.zero_le _, Nat.zero_le _⟩ rfl (Nat.le_of_ble_eq_true rfl) ?_
    change KW x 0 0 Q σ_3 28 [some (kr 0), some (ki x1), some (ki x2), some (ki x3), some (ki x4)] [ki r_2, ki x3]
    refine kw_iadd C (kdec dc_M_getsAll 18 rfl) 29 rfl ?_
    obtain ⟨x3_4, ex3_4, h⟩ := klet_h h
    refine kw_top ex3_4 ?_
    refine kw_istore_n (L' := [some (kr 0), some (ki x1), some (ki x2), some (ki x3_4), some (ki x4)]) C (kdec dc_M_getsAll 19 rfl) rfl 30 rfl (by decide) rfl rfl ?_
    obtain ⟨x4_5, ex4_5, h⟩ := klet_h h
    refine kw_iinc (L' := [some (kr 0), some (ki x1), some (ki x2), some (ki x3_4), some (ki x4_5)]) C (kdec dc_M_getsAll 20 rfl) 33 rfl rfl (by decide) rfl (by rw [ex4_5]; rfl) ?_
    refine kw_goto C (kdec dc_M_getsAll 21 rfl) 5 (by decide) ?_
    obtain rfl := Option.some.inj h
    exact (hC _ _ _ rfl)
theorem lp_mm_getsAll_l5 {x : kX} {l0 : Launch} {Q : State → Prop} (C : kCx x prog_14_method_94_code "PoetFinesModel" (some .int) kcl yM 5 l0 R0_mm_getsAll) (x1 : Int) (x2 : Int) {ex : (kM × Int)} (hX36 : ∀ (σ' : kM) (x3' : Int), ex = (σ', x3') → KW x 0 0 Q σ' 36 [none, none, none, some (ki x3'), none] []) (n : Nat) (σ : kM) (x3 : Int) (x4 : Int) (h : kloop (fun st => mm_getsAll_l5 st.1 x1 x2 st.2.1 st.2.2) n (σ, x3, x4) = some ex) : KW x 0 0 Q σ 5 [some (kr 0), some (ki x1), some (ki x2), some (ki x3), some (ki x4)] [] :=
  kloop_ind (P := (fun st : kM × Int × Int => KW x 0 0 Q st.1 5 [some (kr 0), some (ki x1), some (ki x2), some (ki (st.2.1)), some (ki (st.2.2))] [])) (fun st out hb hc hx => bd_mm_getsAll_l5 C st.1 x1 x2 st.2.1 st.2.2 hb (fun a0 a1 a2 e => hc _ e) (fun a0 a1 e => hX36 _ _ ((hx _ e).symm))) n (σ, x3, x4) h
def mm_getsAll (σ : kM) (x1 : Int) (x2 : Int) : Option (Int × kM) :=
  (kloop (fun st => mm_getsAll_l5 st.1 x1 x2 st.2.1 st.2.2) kFuel (σ, 0, 0)).bind fun (σ_9, x3_10) =>
  some ((x3_10, σ_9))
set_option maxHeartbeats 4000000 in
theorem bd_mm_getsAll {x : kX} {l0 : Launch} {Q : State → Prop} (C : kCx x prog_14_method_94_code "PoetFinesModel" (some .int) kcl yM 5 l0 R0_mm_getsAll) (σ : kM) (x1 : Int) (x2 : Int) {out : Int × kM} (h : mm_getsAll σ x1 x2 = some out) (hR : ∀ (r : Int) (τ : kM), out = (r, τ) → Q = kQ x (some (ki r)) τ 0 0) : KW x 0 0 Q σ 0 [some (kr 0), some (ki x1), some (ki x2), none, none] [] := by
  unfold mm_getsAll at h
  refine kw_iconst C (kdec dc_M_getsAll 0 rfl) 1 rfl rfl ⟨by decide, by decide⟩ ?_
  refine kw_istore_n (L' := [some (kr 0), some (ki x1), some (ki x2), some (ki 0), none]) C (kdec dc_M_getsAll 1 rfl) rfl 2 rfl (by decide) rfl rfl ?_
  refine kw_iconst C (kdec dc_M_getsAll 2 rfl) 3 rfl rfl ⟨by decide, by decide⟩ ?_
  refine kw_istore (L' := [some (kr 0), some (ki x1), some (ki x2), some (ki 0), some (ki 0)]) C (kdec dc_M_getsAll 3 rfl) 5 rfl (by decide) rfl rfl ?_
  obtain ⟨ex_7, hl_8, h⟩ := kbind_h h
  refine lp_mm_getsAll_l5 C x1 x2 ?_ kFuel σ 0 0 hl_8
  · intro σ_9 x3_10 e
    subst ex_7
    try dsimp only at h
    refine kw_iload_n C (kdec dc_M_getsAll 22 rfl) rfl 37 rfl rfl ?_
    obtain rfl := Option.some.inj h
    exact kw_Q (hR _ _ rfl) (kw_ireturn C (kdec dc_M_getsAll 23 rfl))
theorem mt_mm_getsAll (l0 : Launch) {σ : kM} {x1 : Int} {x2 : Int} {r : Int} {τ : kM} (h : mm_getsAll σ x1 x2 = some (r, τ)) : kMet l0 ky_M_getsAll prog_14_method_94_code 5 (some .int) R0_mm_getsAll kcl yM σ [kr 0, ki x1, ki x2] (some (ki r)) τ := kMet.of' [some (kr 0), some (ki x1), some (ki x2), none, none] (by decide) (Nat.le_of_ble_eq_true rfl) ⟨rfl, rfl, rfl, trivial⟩ (fun x C => bd_mm_getsAll C σ x1 x2 h (fun r τ e => by cases e; rfl))
def R0_mm_action : Room := ({ frames := 6, cells := 0, slots := 0, locals := 144 } : Room)
def mm_action_l54 (σ : kM) (x1 : Int) (x2 : Int) (x3 : Int) (x4 : Int) (x5 : Int) : Option ((kM × Int × Int) ⊕ ((kM × Int))) :=
  if (σ 0 2) ≤ x5 then
    some (Sum.inr (σ, x4))
  else
    (mm_getsAll σ x1 x5).bind fun (r_5, σ_6) =>
    klet (w32 (x4 + (w32 ((kand (kshr x3 x5) 1) * r_5)))) fun x4_7 =>
    klet (w32 (x5 + 1)) fun x5_8 =>
    some (Sum.inl (σ_6, x4_7, x5_8))
set_option maxHeartbeats 4000000 in
theorem bd_mm_action_l54 {x : kX} {l0 : Launch} {Q : State → Prop} (C : kCx x prog_14_method_95_code "PoetFinesModel" (some .int) kcl yM 6 l0 R0_mm_action) (σ : kM) (x1 : Int) (x2 : Int) (x3 : Int) (x4 : Int) (x5 : Int) {out : (kM × Int × Int) ⊕ ((kM × Int))} (h : mm_action_l54 σ x1 x2 x3 x4 x5 = some out) (hC : ∀ (σ' : kM) (x4' : Int) (x5' : Int), out = Sum.inl (σ', x4', x5') → KW x 0 0 Q σ' 54 [some (kr 0), some (ki x1), some (ki x2), some (ki x3), some (ki x4'), some (ki x5')] []) (hX88 : ∀ (σ' : kM) (x4' : Int), out = Sum.inr (σ', x4') → KW x 0 0 Q σ' 88 [some (kr 0), some (ki x1), some (ki x2), some (ki x3), some (ki x4'), none] []) : KW x 0 0 Q σ 54 [some (kr 0), some (ki x1), some (ki x2), some (ki x3), some (ki x4), some (ki x5)] [] := by
  unfold mm_action_l54 at h
  refine kw_iload C (kdec dc_M_action 32 rfl) 56 rfl rfl ?_
  refine kw_aload_n C (kdec dc_M_action 33 rfl) rfl 57 rfl rfl ?_
  refine kw_getI C (kdec dc_M_action 34 rfl) 60 rfl fd_M_M_270_0 ?_
  refine kw_icmp_ge C (kdec dc_M_action 35 rfl) 88 63 (by decide) rfl (fun hc60 => ?_) (fun hc60 => ?_)
  · rw [if_pos hc60] at h
    obtain rfl := Option.some.inj h
    exact kw_sub (L' := [some (kr 0), some (ki x1), some (ki x2), some (ki x3), some (ki x4), none]) ⟨rfl, rfl, rfl, rfl, rfl, trivial⟩ (hX88 _ _ rfl)
  · rw [if_neg hc60] at h
    refine kw_iload C (kdec dc_M_action 36 rfl) 65 rfl rfl ?_
    refine kw_iload_n C (kdec dc_M_action 37 rfl) rfl 66 rfl rfl ?_
    refine kw_iload C (kdec dc_M_action 38 rfl) 68 rfl rfl ?_
    refine kw_ishr C (kdec dc_M_action 39 rfl) 69 rfl ?_
    refine kw_iconst C (kdec dc_M_action 40 rfl) 70 rfl rfl ⟨by decide, by decide⟩ ?_
    refine kw_iand C (kdec dc_M_action 41 rfl) 71 rfl ?_
    refine kw_aload_n C (kdec dc_M_action 42 rfl) rfl 72 rfl rfl ?_
    refine kw_iload_n C (kdec dc_M_action 43 rfl) rfl 73 rfl rfl ?_
    refine kw_iload C (kdec dc_M_action 44 rfl) 75 rfl rfl ?_
    obtain ⟨⟨r_5, σ_6⟩, hg_9, h⟩ := kbind_h h
    dsimp only at h
    refine kw_callV (As := [ki x1, ki x5]) C (kdec dc_M_action 45 rfl) 78 rfl cv_M_416 rfl rfl (mt_mm_getsAll l0 hg_9) ⟨rfl, rfl⟩ ⟨Nat.le_of_ble_eq_true rfl, Nat.le_of_ble_eq_true rfl⟩ ⟨Nat.zero_le _, Nat.zero_le _⟩ rfl (Nat.le_of_ble_eq_true rfl) ?_
    change KW x 0 0 Q σ_6 78 [some (kr 0), some (ki x1), some (ki x2), some (ki x3), some (ki x4), some (ki x5)] [ki r_5, ki (kand (kshr x3 x5) 1), ki x4]
    refine kw_imul C (kdec dc_M_action 46 rfl) 79 rfl ?_
    refine kw_iadd C (kdec dc_M_action 47 rfl) 80 rfl ?_
    obtain ⟨x4_7, ex4_7, h⟩ := klet_h h
    refine kw_top ex4_7 ?_
    refine kw_istore (L' := [some (kr 0), some (ki x1), some (ki x2), some (ki x3), some (ki x4_7), some (ki x5)]) C (kdec dc_M_action 48 rfl) 82 rfl (by decide) rfl rfl ?_
    obtain ⟨x5_8, ex5_8, h⟩ := klet_h h
    refine kw_iinc (L' := [some (kr 0), some (ki x1), some (ki x2), some (ki x3), some (ki x4_7), some (ki x5_8)]) C (kdec dc_M_action 49 rfl) 85 rfl rfl (by decide) rfl (by rw [ex5_8]; rfl) ?_
    refine kw_goto C (kdec dc_M_action 50 rfl) 54 (by decide) ?_
    obtain rfl := Option.some.inj h
    exact (hC _ _ _ rfl)
theorem lp_mm_action_l54 {x : kX} {l0 : Launch} {Q : State → Prop} (C : kCx x prog_14_method_95_code "PoetFinesModel" (some .int) kcl yM 6 l0 R0_mm_action) (x1 : Int) (x2 : Int) (x3 : Int) {ex : (kM × Int)} (hX88 : ∀ (σ' : kM) (x4' : Int), ex = (σ', x4') → KW x 0 0 Q σ' 88 [some (kr 0), some (ki x1), some (ki x2), some (ki x3), some (ki x4'), none] []) (n : Nat) (σ : kM) (x4 : Int) (x5 : Int) (h : kloop (fun st => mm_action_l54 st.1 x1 x2 x3 st.2.1 st.2.2) n (σ, x4, x5) = some ex) : KW x 0 0 Q σ 54 [some (kr 0), some (ki x1), some (ki x2), some (ki x3), some (ki x4), some (ki x5)] [] :=
  kloop_ind (P := (fun st : kM × Int × Int => KW x 0 0 Q st.1 54 [some (kr 0), some (ki x1), some (ki x2), some (ki x3), some (ki (st.2.1)), some (ki (st.2.2))] [])) (fun st out hb hc hx => bd_mm_action_l54 C st.1 x1 x2 x3 st.2.1 st.2.2 hb (fun a0 a1 a2 e => hc _ e) (fun a0 a1 e => hX88 _ _ ((hx _ e).symm))) n (σ, x4, x5) h
def mm_action_l19_j104 (σ : kM) (x1 : Int) (x2 : Int) (x3 : Int) : Option ((kM × Int × Int) ⊕ ((kM × Int))) :=
  klet (w32 (x3 + 1)) fun x3_15 =>
  some (Sum.inl (σ, x2, x3_15))
set_option maxHeartbeats 4000000 in
theorem bd_mm_action_l19_j104 {x : kX} {l0 : Launch} {Q : State → Prop} (C : kCx x prog_14_method_95_code "PoetFinesModel" (some .int) kcl yM 6 l0 R0_mm_action) (σ : kM) (x1 : Int) (x2 : Int) (x3 : Int) {out : (kM × Int × Int) ⊕ ((kM × Int))} (h : mm_action_l19_j104 σ x1 x2 x3 = some out) (hC : ∀ (σ' : kM) (x2' : Int) (x3' : Int), out = Sum.inl (σ', x2', x3') → KW x 0 0 Q σ' 19 [some (kr 0), some (ki x1), some (ki x2'), some (ki x3'), none, none] []) (hX110 : ∀ (σ' : kM) (x2' : Int), out = Sum.inr (σ', x2') → KW x 0 0 Q σ' 110 [none, none, some (ki x2'), none, none, none] []) : KW x 0 0 Q σ 104 [some (kr 0), some (ki x1), some (ki x2), some (ki x3), none, none] [] := by
  unfold mm_action_l19_j104 at h
  obtain ⟨x3_15, ex3_15, h⟩ := klet_h h
  refine kw_iinc (L' := [some (kr 0), some (ki x1), some (ki x2), some (ki x3_15), none, none]) C (kdec dc_M_action 61 rfl) 107 rfl rfl (by decide) rfl (by rw [ex3_15]; rfl) ?_
  refine kw_goto C (kdec dc_M_action 62 rfl) 19 (by decide) ?_
  obtain rfl := Option.some.inj h
  exact (hC _ _ _ rfl)
def mm_action_l19_j48 (σ : kM) (x1 : Int) (x2 : Int) (x3 : Int) : Option ((kM × Int × Int) ⊕ ((kM × Int))) :=
  (kloop (fun st => mm_action_l54 st.1 x1 x2 x3 st.2.1 st.2.2) kFuel (σ, 0, 0)).bind fun (σ_12, x4_13) =>
  kchk (0 ≤ (w32 (17 + x1)) ∧ (w32 (17 + x1)) < 290) <|
  if x4_13 ≤ (σ_12 8 (w32 (17 + x1)).toNat) then
    mm_action_l19_j104 σ_12 x1 x2 x3
  else
    mm_action_l19_j104 σ_12 x1 x3 x3
set_option maxHeartbeats 4000000 in
theorem bd_mm_action_l19_j48 {x : kX} {l0 : Launch} {Q : State → Prop} (C : kCx x prog_14_method_95_code "PoetFinesModel" (some .int) kcl yM 6 l0 R0_mm_action) (σ : kM) (x1 : Int) (x2 : Int) (x3 : Int) {out : (kM × Int × Int) ⊕ ((kM × Int))} (h : mm_action_l19_j48 σ x1 x2 x3 = some out) (hC : ∀ (σ' : kM) (x2' : Int) (x3' : Int), out = Sum.inl (σ', x2', x3') → KW x 0 0 Q σ' 19 [some (kr 0), some (ki x1), some (ki x2'), some (ki x3'), none, none] []) (hX110 : ∀ (σ' : kM) (x2' : Int), out = Sum.inr (σ', x2') → KW x 0 0 Q σ' 110 [none, none, some (ki x2'), none, none, none] []) : KW x 0 0 Q σ 48 [some (kr 0), some (ki x1), some (ki x2), some (ki x3), none, none] [] := by
  unfold mm_action_l19_j48 at h
  refine kw_iconst C (kdec dc_M_action 28 rfl) 49 rfl rfl ⟨by decide, by decide⟩ ?_
  refine kw_istore (L' := [some (kr 0), some (ki x1), some (ki x2), some (ki x3), some (ki 0), none]) C (kdec dc_M_action 29 rfl) 51 rfl (by decide) rfl rfl ?_
  refine kw_iconst C (kdec dc_M_action 30 rfl) 52 rfl rfl ⟨by decide, by decide⟩ ?_
  refine kw_istore (L' := [some (kr 0), some (ki x1), some (ki x2), some (ki x3), some (ki 0), some (ki 0)]) C (kdec dc_M_action 31 rfl) 54 rfl (by decide) rfl rfl ?_
  obtain ⟨ex_10, hl_11, h⟩ := kbind_h h
  refine lp_mm_action_l54 C x1 x2 x3 ?_ kFuel σ 0 0 hl_11
  · intro σ_12 x4_13 e
    subst ex_10
    try dsimp only at h
    refine kw_iload C (kdec dc_M_action 51 rfl) 90 rfl rfl ?_
    refine kw_aload_n C (kdec dc_M_action 52 rfl) rfl 91 rfl rfl ?_
    refine kw_getR C (kdec dc_M_action 53 rfl) 94 rfl fd_M_M_48_0 ?_
    refine kw_bipush (v := 17) C (kdec dc_M_action 54 rfl) 96 rfl (by decide) ⟨by decide, by decide⟩ ?_
    refine kw_iload_n C (kdec dc_M_action 55 rfl) rfl 97 rfl rfl ?_
    refine kw_iadd C (kdec dc_M_action 56 rfl) 98 rfl ?_
    obtain ⟨hc_14, h⟩ := kchk_h h
    refine kw_iald C (kdec dc_M_action 57 rfl) 99 rfl rfl hc_14.1 hc_14.2 ?_
    refine kw_icmp_le C (kdec dc_M_action 58 rfl) 104 102 (by decide) rfl (fun hc99 => ?_) (fun hc99 => ?_)
    · rw [if_pos hc99] at h
      exact kw_sub (L' := [some (kr 0), some (ki x1), some (ki x2), some (ki x3), none, none]) ⟨rfl, rfl, rfl, rfl, trivial⟩ (bd_mm_action_l19_j104 C σ_12 x1 x2 x3 h hC hX110)
    · rw [if_neg hc99] at h
      refine kw_iload_n C (kdec dc_M_action 59 rfl) rfl 103 rfl rfl ?_
      refine kw_istore_n (L' := [some (kr 0), some (ki x1), some (ki x3), some (ki x3), some (ki x4_13), none]) C (kdec dc_M_action 60 rfl) rfl 104 rfl (by decide) rfl rfl ?_
      exact kw_sub (L' := [some (kr 0), some (ki x1), some (ki x3), some (ki x3), none, none]) ⟨rfl, rfl, rfl, rfl, trivial⟩ (bd_mm_action_l19_j104 C σ_12 x1 x3 x3 h hC hX110)
def mm_action_l19 (σ : kM) (x1 : Int) (x2 : Int) (x3 : Int) : Option ((kM × Int × Int) ⊕ ((kM × Int))) :=
  if (kshl 1 (σ 0 2)) ≤ x3 then
    some (Sum.inr (σ, x2))
  else
    if x2 = ((-1)) then
      mm_action_l19_j48 σ x1 x2 x3
    else
      (mm_bits σ x3).bind fun r_16 =>
      (mm_bits σ x2).bind fun r_17 =>
      if r_16 < r_17 then
        mm_action_l19_j48 σ x1 x2 x3
      else
        mm_action_l19_j104 σ x1 x2 x3
set_option maxHeartbeats 4000000 in
theorem bd_mm_action_l19 {x : kX} {l0 : Launch} {Q : State → Prop} (C : kCx x prog_14_method_95_code "PoetFinesModel" (some .int) kcl yM 6 l0 R0_mm_action) (σ : kM) (x1 : Int) (x2 : Int) (x3 : Int) {out : (kM × Int × Int) ⊕ ((kM × Int))} (h : mm_action_l19 σ x1 x2 x3 = some out) (hC : ∀ (σ' : kM) (x2' : Int) (x3' : Int), out = Sum.inl (σ', x2', x3') → KW x 0 0 Q σ' 19 [some (kr 0), some (ki x1), some (ki x2'), some (ki x3'), none, none] []) (hX110 : ∀ (σ' : kM) (x2' : Int), out = Sum.inr (σ', x2') → KW x 0 0 Q σ' 110 [none, none, some (ki x2'), none, none, none] []) : KW x 0 0 Q σ 19 [some (kr 0), some (ki x1), some (ki x2), some (ki x3), none, none] [] := by
  unfold mm_action_l19 at h
  refine kw_iload_n C (kdec dc_M_action 13 rfl) rfl 20 rfl rfl ?_
  refine kw_iconst C (kdec dc_M_action 14 rfl) 21 rfl rfl ⟨by decide, by decide⟩ ?_
  refine kw_aload_n C (kdec dc_M_action 15 rfl) rfl 22 rfl rfl ?_
  refine kw_getI C (kdec dc_M_action 16 rfl) 25 rfl fd_M_M_270_0 ?_
  refine kw_ishl C (kdec dc_M_action 17 rfl) 26 rfl ?_
  refine kw_icmp_ge C (kdec dc_M_action 18 rfl) 110 29 (by decide) rfl (fun hc26 => ?_) (fun hc26 => ?_)
  · rw [if_pos hc26] at h
    obtain rfl := Option.some.inj h
    exact kw_sub (L' := [none, none, some (ki x2), none, none, none]) ⟨rfl, trivial⟩ (hX110 _ _ rfl)
  · rw [if_neg hc26] at h
    refine kw_iload_n C (kdec dc_M_action 19 rfl) rfl 30 rfl rfl ?_
    refine kw_iconst C (kdec dc_M_action 20 rfl) 31 rfl rfl ⟨by decide, by decide⟩ ?_
    refine kw_icmp_eq C (kdec dc_M_action 21 rfl) 48 34 (by decide) rfl (fun hc31 => ?_) (fun hc31 => ?_)
    · rw [if_pos hc31] at h
      exact bd_mm_action_l19_j48 C σ x1 x2 x3 h hC hX110
    · rw [if_neg hc31] at h
      refine kw_iload_n C (kdec dc_M_action 22 rfl) rfl 35 rfl rfl ?_
      obtain ⟨r_16, hg_19, h⟩ := kbind_h h
      refine kw_callS (As := [ki x3]) C (kdec dc_M_action 23 rfl) 38 rfl cs_M_413 (mt_mm_bits l0 hg_19) ⟨rfl, rfl⟩ ⟨Nat.le_of_ble_eq_true rfl, Nat.le_of_ble_eq_true rfl⟩ ⟨Nat.zero_le _, Nat.zero_le _⟩ rfl (Nat.le_of_ble_eq_true rfl) ?_
      change KW x 0 0 Q σ 38 [some (kr 0), some (ki x1), some (ki x2), some (ki x3), none, none] [ki r_16]
      refine kw_iload_n C (kdec dc_M_action 24 rfl) rfl 39 rfl rfl ?_
      obtain ⟨r_17, hg_18, h⟩ := kbind_h h
      refine kw_callS (As := [ki x2]) C (kdec dc_M_action 25 rfl) 42 rfl cs_M_413 (mt_mm_bits l0 hg_18) ⟨rfl, rfl⟩ ⟨Nat.le_of_ble_eq_true rfl, Nat.le_of_ble_eq_true rfl⟩ ⟨Nat.zero_le _, Nat.zero_le _⟩ rfl (Nat.le_of_ble_eq_true rfl) ?_
      change KW x 0 0 Q σ 42 [some (kr 0), some (ki x1), some (ki x2), some (ki x3), none, none] [ki r_17, ki r_16]
      refine kw_icmp_lt C (kdec dc_M_action 26 rfl) 48 45 (by decide) rfl (fun hc42 => ?_) (fun hc42 => ?_)
      · rw [if_pos hc42] at h
        exact bd_mm_action_l19_j48 C σ x1 x2 x3 h hC hX110
      · rw [if_neg hc42] at h
        refine kw_goto C (kdec dc_M_action 27 rfl) 104 (by decide) ?_
        exact bd_mm_action_l19_j104 C σ x1 x2 x3 h hC hX110
theorem lp_mm_action_l19 {x : kX} {l0 : Launch} {Q : State → Prop} (C : kCx x prog_14_method_95_code "PoetFinesModel" (some .int) kcl yM 6 l0 R0_mm_action) (x1 : Int) {ex : (kM × Int)} (hX110 : ∀ (σ' : kM) (x2' : Int), ex = (σ', x2') → KW x 0 0 Q σ' 110 [none, none, some (ki x2'), none, none, none] []) (n : Nat) (σ : kM) (x2 : Int) (x3 : Int) (h : kloop (fun st => mm_action_l19 st.1 x1 st.2.1 st.2.2) n (σ, x2, x3) = some ex) : KW x 0 0 Q σ 19 [some (kr 0), some (ki x1), some (ki x2), some (ki x3), none, none] [] :=
  kloop_ind (P := (fun st : kM × Int × Int => KW x 0 0 Q st.1 19 [some (kr 0), some (ki x1), some (ki (st.2.1)), some (ki (st.2.2)), none, none] [])) (fun st out hb hc hx => bd_mm_action_l19 C st.1 x1 st.2.1 st.2.2 hb (fun a0 a1 a2 e => hc _ e) (fun a0 a1 e => hX110 _ _ ((hx _ e).symm))) n (σ, x2, x3) h
def mm_action (σ : kM) (x1 : Int) : Option (Int × kM) :=
  klet (kst σ 0 (kup (σ 0) 0 0)) fun σ_1 =>
  (mm_isPoet σ_1 x1).bind fun (r_2, σ_3) =>
  if r_2 = 0 then
    some ((0, σ_3))
  else
    klet ((-1)) fun x2_4 =>
    (kloop (fun st => mm_action_l19 st.1 x1 st.2.1 st.2.2) kFuel (σ_3, x2_4, 0)).bind fun (σ_22, x2_23) =>
    some ((x2_23, σ_22))
set_option maxHeartbeats 4000000 in
theorem bd_mm_action {x : kX} {l0 : Launch} {Q : State → Prop} (C : kCx x prog_14_method_95_code "PoetFinesModel" (some .int) kcl yM 6 l0 R0_mm_action) (σ : kM) (x1 : Int) {out : Int × kM} (h : mm_action σ x1 = some out) (hR : ∀ (r : Int) (τ : kM), out = (r, τ) → Q = kQ x (some (ki r)) τ 0 0) : KW x 0 0 Q σ 0 [some (kr 0), some (ki x1), none, none, none, none] [] := by
  unfold mm_action at h
  refine kw_aload_n C (kdec dc_M_action 0 rfl) rfl 1 rfl rfl ?_
  refine kw_iconst C (kdec dc_M_action 1 rfl) 2 rfl rfl ⟨by decide, by decide⟩ ?_
  obtain ⟨σ_1, eσ_1, h⟩ := klet_h h
  refine kw_putI C (kdec dc_M_action 2 rfl) 5 rfl fp_M_M_99_0 ?_
  refine kw_sig eσ_1 ?_
  refine kw_aload_n C (kdec dc_M_action 3 rfl) rfl 6 rfl rfl ?_
  refine kw_iload_n C (kdec dc_M_action 4 rfl) rfl 7 rfl rfl ?_
  obtain ⟨⟨r_2, σ_3⟩, hg_24, h⟩ := kbind_h h
  dsimp only at h
  refine kw_callV (As := [ki x1]) C (kdec dc_M_action 5 rfl) 10 rfl cv_M_367 rfl rfl (mt_mm_isPoet l0 hg_24) ⟨rfl, rfl⟩ ⟨Nat.le_of_ble_eq_true rfl, Nat.le_of_ble_eq_true rfl⟩ ⟨Nat.zero_le _, Nat.zero_le _⟩ rfl (Nat.le_of_ble_eq_true rfl) ?_
  change KW x 0 0 Q σ_3 10 [some (kr 0), some (ki x1), none, none, none, none] [ki r_2]
  refine kw_if_ne C (kdec dc_M_action 6 rfl) 15 13 (by decide) rfl (fun hc10 => ?_) (fun hc10 => ?_)
  · rw [if_neg hc10] at h
    refine kw_iconst C (kdec dc_M_action 9 rfl) 16 rfl rfl ⟨by decide, by decide⟩ ?_
    obtain ⟨x2_4, ex2_4, h⟩ := klet_h h
    refine kw_top ex2_4 ?_
    refine kw_istore_n (L' := [some (kr 0), some (ki x1), some (ki x2_4), none, none, none]) C (kdec dc_M_action 10 rfl) rfl 17 rfl (by decide) rfl rfl ?_
    refine kw_iconst C (kdec dc_M_action 11 rfl) 18 rfl rfl ⟨by decide, by decide⟩ ?_
    refine kw_istore_n (L' := [some (kr 0), some (ki x1), some (ki x2_4), some (ki 0), none, none]) C (kdec dc_M_action 12 rfl) rfl 19 rfl (by decide) rfl rfl ?_
    obtain ⟨ex_20, hl_21, h⟩ := kbind_h h
    refine lp_mm_action_l19 C x1 ?_ kFuel σ_3 x2_4 0 hl_21
    · intro σ_22 x2_23 e
      subst ex_20
      try dsimp only at h
      refine kw_iload_n C (kdec dc_M_action 63 rfl) rfl 111 rfl rfl ?_
      obtain rfl := Option.some.inj h
      exact kw_Q (hR _ _ rfl) (kw_ireturn C (kdec dc_M_action 64 rfl))
  · rw [if_pos hc10] at h
    refine kw_iconst C (kdec dc_M_action 7 rfl) 14 rfl rfl ⟨by decide, by decide⟩ ?_
    obtain rfl := Option.some.inj h
    exact kw_Q (hR _ _ rfl) (kw_ireturn C (kdec dc_M_action 8 rfl))
theorem mt_mm_action (l0 : Launch) {σ : kM} {x1 : Int} {r : Int} {τ : kM} (h : mm_action σ x1 = some (r, τ)) : kMet l0 ky_M_action prog_14_method_95_code 6 (some .int) R0_mm_action kcl yM σ [kr 0, ki x1] (some (ki r)) τ := kMet.of' [some (kr 0), some (ki x1), none, none, none, none] (by decide) (Nat.le_of_ble_eq_true rfl) ⟨rfl, rfl, trivial⟩ (fun x C => bd_mm_action C σ x1 h (fun r τ e => by cases e; rfl))
def R0_mm_plaintiff : Room := ({ frames := 6, cells := 0, slots := 0, locals := 144 } : Room)
def mm_plaintiff_l22_j55 (σ : kM) (x1 : Int) (x2 : Int) (x3 : Int) (x4 : Int) : Option ((kM × Int × Int × Int) ⊕ ((kM × Int))) :=
  klet (w32 (x4 + 1)) fun x4_7 =>
  some (Sum.inl (σ, x2, x3, x4_7))
set_option maxHeartbeats 4000000 in
theorem bd_mm_plaintiff_l22_j55 {x : kX} {l0 : Launch} {Q : State → Prop} (C : kCx x prog_14_method_96_code "PoetFinesModel" (some .int) kcl yM 6 l0 R0_mm_plaintiff) (σ : kM) (x1 : Int) (x2 : Int) (x3 : Int) (x4 : Int) {out : (kM × Int × Int × Int) ⊕ ((kM × Int))} (h : mm_plaintiff_l22_j55 σ x1 x2 x3 x4 = some out) (hC : ∀ (σ' : kM) (x2' : Int) (x3' : Int) (x4' : Int), out = Sum.inl (σ', x2', x3', x4') → KW x 0 0 Q σ' 22 [some (kr 0), some (ki x1), some (ki x2'), some (ki x3'), some (ki x4'), none] []) (hX61 : ∀ (σ' : kM) (x2' : Int), out = Sum.inr (σ', x2') → KW x 0 0 Q σ' 61 [none, none, some (ki x2'), none, none, none] []) : KW x 0 0 Q σ 55 [some (kr 0), some (ki x1), some (ki x2), some (ki x3), some (ki x4), none] [] := by
  unfold mm_plaintiff_l22_j55 at h
  obtain ⟨x4_7, ex4_7, h⟩ := klet_h h
  refine kw_iinc (L' := [some (kr 0), some (ki x1), some (ki x2), some (ki x3), some (ki x4_7), none]) C (kdec dc_M_plaintiff 32 rfl) 58 rfl rfl (by decide) rfl (by rw [ex4_7]; rfl) ?_
  refine kw_goto C (kdec dc_M_plaintiff 33 rfl) 22 (by decide) ?_
  obtain rfl := Option.some.inj h
  exact (hC _ _ _ _ rfl)
def mm_plaintiff_l22 (σ : kM) (x1 : Int) (x2 : Int) (x3 : Int) (x4 : Int) : Option ((kM × Int × Int × Int) ⊕ ((kM × Int))) :=
  if (σ 0 3) ≤ x4 then
    some (Sum.inr (σ, x2))
  else
    (mm_getsAll σ x4 x1).bind fun (r_5, σ_6) =>
    if x3 < r_5 then
      mm_plaintiff_l22_j55 σ_6 x1 x4 r_5 x4
    else
      mm_plaintiff_l22_j55 σ_6 x1 x2 x3 x4
set_option maxHeartbeats 4000000 in
theorem bd_mm_plaintiff_l22 {x : kX} {l0 : Launch} {Q : State → Prop} (C : kCx x prog_14_method_96_code "PoetFinesModel" (some .int) kcl yM 6 l0 R0_mm_plaintiff) (σ : kM) (x1 : Int) (x2 : Int) (x3 : Int) (x4 : Int) {out : (kM × Int × Int × Int) ⊕ ((kM × Int))} (h : mm_plaintiff_l22 σ x1 x2 x3 x4 = some out) (hC : ∀ (σ' : kM) (x2' : Int) (x3' : Int) (x4' : Int), out = Sum.inl (σ', x2', x3', x4') → KW x 0 0 Q σ' 22 [some (kr 0), some (ki x1), some (ki x2'), some (ki x3'), some (ki x4'), none] []) (hX61 : ∀ (σ' : kM) (x2' : Int), out = Sum.inr (σ', x2') → KW x 0 0 Q σ' 61 [none, none, some (ki x2'), none, none, none] []) : KW x 0 0 Q σ 22 [some (kr 0), some (ki x1), some (ki x2), some (ki x3), some (ki x4), none] [] := by
  unfold mm_plaintiff_l22 at h
  refine kw_iload C (kdec dc_M_plaintiff 15 rfl) 24 rfl rfl ?_
  refine kw_aload_n C (kdec dc_M_plaintiff 16 rfl) rfl 25 rfl rfl ?_
  refine kw_getI C (kdec dc_M_plaintiff 17 rfl) 28 rfl fd_M_M_273_0 ?_
  refine kw_icmp_ge C (kdec dc_M_plaintiff 18 rfl) 61 31 (by decide) rfl (fun hc28 => ?_) (fun hc28 => ?_)
  · rw [if_pos hc28] at h
    obtain rfl := Option.some.inj h
    exact kw_sub (L' := [none, none, some (ki x2), none, none, none]) ⟨rfl, trivial⟩ (hX61 _ _ rfl)
  · rw [if_neg hc28] at h
    refine kw_aload_n C (kdec dc_M_plaintiff 19 rfl) rfl 32 rfl rfl ?_
    refine kw_iload C (kdec dc_M_plaintiff 20 rfl) 34 rfl rfl ?_
    refine kw_iload_n C (kdec dc_M_plaintiff 21 rfl) rfl 35 rfl rfl ?_
    obtain ⟨⟨r_5, σ_6⟩, hg_8, h⟩ := kbind_h h
    dsimp only at h
    refine kw_callV (As := [ki x4, ki x1]) C (kdec dc_M_plaintiff 22 rfl) 38 rfl cv_M_416 rfl rfl (mt_mm_getsAll l0 hg_8) ⟨rfl, rfl⟩ ⟨Nat.le_of_ble_eq_true rfl, Nat.le_of_ble_eq_true rfl⟩ ⟨Nat.zero_le _, Nat.zero_le _⟩ rfl (Nat.le_of_ble_eq_true rfl) ?_
    change KW x 0 0 Q σ_6 38 [some (kr 0), some (ki x1), some (ki x2), some (ki x3), some (ki x4), none] [ki r_5]
    refine kw_istore (L' := [some (kr 0), some (ki x1), some (ki x2), some (ki x3), some (ki x4), some (ki r_5)]) C (kdec dc_M_plaintiff 23 rfl) 40 rfl (by decide) rfl rfl ?_
    refine kw_iload C (kdec dc_M_plaintiff 24 rfl) 42 rfl rfl ?_
    refine kw_iload_n C (kdec dc_M_plaintiff 25 rfl) rfl 43 rfl rfl ?_
    refine kw_icmp_gt C (kdec dc_M_plaintiff 26 rfl) 49 46 (by decide) rfl (fun hc43 => ?_) (fun hc43 => ?_)
    · rw [if_pos hc43] at h
      refine kw_iload C (kdec dc_M_plaintiff 28 rfl) 51 rfl rfl ?_
      refine kw_istore_n (L' := [some (kr 0), some (ki x1), some (ki x4), some (ki x3), some (ki x4), some (ki r_5)]) C (kdec dc_M_plaintiff 29 rfl) rfl 52 rfl (by decide) rfl rfl ?_
      refine kw_iload C (kdec dc_M_plaintiff 30 rfl) 54 rfl rfl ?_
      refine kw_istore_n (L' := [some (kr 0), some (ki x1), some (ki x4), some (ki r_5), some (ki x4), some (ki r_5)]) C (kdec dc_M_plaintiff 31 rfl) rfl 55 rfl (by decide) rfl rfl ?_
      exact kw_sub (L' := [some (kr 0), some (ki x1), some (ki x4), some (ki r_5), some (ki x4), none]) ⟨rfl, rfl, rfl, rfl, rfl, trivial⟩ (bd_mm_plaintiff_l22_j55 C σ_6 x1 x4 r_5 x4 h hC hX61)
    · rw [if_neg hc43] at h
      refine kw_goto C (kdec dc_M_plaintiff 27 rfl) 55 (by decide) ?_
      exact kw_sub (L' := [some (kr 0), some (ki x1), some (ki x2), some (ki x3), some (ki x4), none]) ⟨rfl, rfl, rfl, rfl, rfl, trivial⟩ (bd_mm_plaintiff_l22_j55 C σ_6 x1 x2 x3 x4 h hC hX61)
theorem lp_mm_plaintiff_l22 {x : kX} {l0 : Launch} {Q : State → Prop} (C : kCx x prog_14_method_96_code "PoetFinesModel" (some .int) kcl yM 6 l0 R0_mm_plaintiff) (x1 : Int) {ex : (kM × Int)} (hX61 : ∀ (σ' : kM) (x2' : Int), ex = (σ', x2') → KW x 0 0 Q σ' 61 [none, none, some (ki x2'), none, none, none] []) (n : Nat) (σ : kM) (x2 : Int) (x3 : Int) (x4 : Int) (h : kloop (fun st => mm_plaintiff_l22 st.1 x1 st.2.1 st.2.2.1 st.2.2.2) n (σ, x2, x3, x4) = some ex) : KW x 0 0 Q σ 22 [some (kr 0), some (ki x1), some (ki x2), some (ki x3), some (ki x4), none] [] :=
  kloop_ind (P := (fun st : kM × Int × Int × Int => KW x 0 0 Q st.1 22 [some (kr 0), some (ki x1), some (ki (st.2.1)), some (ki (st.2.2.1)), some (ki (st.2.2.2)), none] [])) (fun st out hb hc hx => bd_mm_plaintiff_l22 C st.1 x1 st.2.1 st.2.2.1 st.2.2.2 hb (fun a0 a1 a2 a3 e => hc _ e) (fun a0 a1 e => hX61 _ _ ((hx _ e).symm))) n (σ, x2, x3, x4) h
def mm_plaintiff (σ : kM) (x1 : Int) : Option (Int × kM) :=
  klet (kst σ 0 (kup (σ 0) 0 0)) fun σ_1 =>
  (mm_isPerson σ_1 x1).bind fun (r_2, σ_3) =>
  if r_2 = 0 then
    some ((0, σ_3))
  else
    klet ((-1)) fun x2_4 =>
    (kloop (fun st => mm_plaintiff_l22 st.1 x1 st.2.1 st.2.2.1 st.2.2.2) kFuel (σ_3, x2_4, 0, 0)).bind fun (σ_11, x2_12) =>
    some ((x2_12, σ_11))
set_option maxHeartbeats 4000000 in
theorem bd_mm_plaintiff {x : kX} {l0 : Launch} {Q : State → Prop} (C : kCx x prog_14_method_96_code "PoetFinesModel" (some .int) kcl yM 6 l0 R0_mm_plaintiff) (σ : kM) (x1 : Int) {out : Int × kM} (h : mm_plaintiff σ x1 = some out) (hR : ∀ (r : Int) (τ : kM), out = (r, τ) → Q = kQ x (some (ki r)) τ 0 0) : KW x 0 0 Q σ 0 [some (kr 0), some (ki x1), none, none, none, none] [] := by
  unfold mm_plaintiff at h
  refine kw_aload_n C (kdec dc_M_plaintiff 0 rfl) rfl 1 rfl rfl ?_
  refine kw_iconst C (kdec dc_M_plaintiff 1 rfl) 2 rfl rfl ⟨by decide, by decide⟩ ?_
  obtain ⟨σ_1, eσ_1, h⟩ := klet_h h
  refine kw_putI C (kdec dc_M_plaintiff 2 rfl) 5 rfl fp_M_M_99_0 ?_
  refine kw_sig eσ_1 ?_
  refine kw_aload_n C (kdec dc_M_plaintiff 3 rfl) rfl 6 rfl rfl ?_
  refine kw_iload_n C (kdec dc_M_plaintiff 4 rfl) rfl 7 rfl rfl ?_
  obtain ⟨⟨r_2, σ_3⟩, hg_13, h⟩ := kbind_h h
  dsimp only at h
  refine kw_callV (As := [ki x1]) C (kdec dc_M_plaintiff 5 rfl) 10 rfl cv_M_370 rfl rfl (mt_mm_isPerson l0 hg_13) ⟨rfl, rfl⟩ ⟨Nat.le_of_ble_eq_true rfl, Nat.le_of_ble_eq_true rfl⟩ ⟨Nat.zero_le _, Nat.zero_le _⟩ rfl (Nat.le_of_ble_eq_true rfl) ?_
  change KW x 0 0 Q σ_3 10 [some (kr 0), some (ki x1), none, none, none, none] [ki r_2]
  refine kw_if_ne C (kdec dc_M_plaintiff 6 rfl) 15 13 (by decide) rfl (fun hc10 => ?_) (fun hc10 => ?_)
  · rw [if_neg hc10] at h
    refine kw_iconst C (kdec dc_M_plaintiff 9 rfl) 16 rfl rfl ⟨by decide, by decide⟩ ?_
    obtain ⟨x2_4, ex2_4, h⟩ := klet_h h
    refine kw_top ex2_4 ?_
    refine kw_istore_n (L' := [some (kr 0), some (ki x1), some (ki x2_4), none, none, none]) C (kdec dc_M_plaintiff 10 rfl) rfl 17 rfl (by decide) rfl rfl ?_
    refine kw_iconst C (kdec dc_M_plaintiff 11 rfl) 18 rfl rfl ⟨by decide, by decide⟩ ?_
    refine kw_istore_n (L' := [some (kr 0), some (ki x1), some (ki x2_4), some (ki 0), none, none]) C (kdec dc_M_plaintiff 12 rfl) rfl 19 rfl (by decide) rfl rfl ?_
    refine kw_iconst C (kdec dc_M_plaintiff 13 rfl) 20 rfl rfl ⟨by decide, by decide⟩ ?_
    refine kw_istore (L' := [some (kr 0), some (ki x1), some (ki x2_4), some (ki 0), some (ki 0), none]) C (kdec dc_M_plaintiff 14 rfl) 22 rfl (by decide) rfl rfl ?_
    obtain ⟨ex_9, hl_10, h⟩ := kbind_h h
    refine lp_mm_plaintiff_l22 C x1 ?_ kFuel σ_3 x2_4 0 0 hl_10
    · intro σ_11 x2_12 e
      subst ex_9
      try dsimp only at h
      refine kw_iload_n C (kdec dc_M_plaintiff 34 rfl) rfl 62 rfl rfl ?_
      obtain rfl := Option.some.inj h
      exact kw_Q (hR _ _ rfl) (kw_ireturn C (kdec dc_M_plaintiff 35 rfl))
  · rw [if_pos hc10] at h
    refine kw_iconst C (kdec dc_M_plaintiff 7 rfl) 14 rfl rfl ⟨by decide, by decide⟩ ?_
    obtain rfl := Option.some.inj h
    exact kw_Q (hR _ _ rfl) (kw_ireturn C (kdec dc_M_plaintiff 8 rfl))
theorem mt_mm_plaintiff (l0 : Launch) {σ : kM} {x1 : Int} {r : Int} {τ : kM} (h : mm_plaintiff σ x1 = some (r, τ)) : kMet l0 ky_M_plaintiff prog_14_method_96_code 6 (some .int) R0_mm_plaintiff kcl yM σ [kr 0, ki x1] (some (ki r)) τ := kMet.of' [some (kr 0), some (ki x1), none, none, none, none] (by decide) (Nat.le_of_ble_eq_true rfl) ⟨rfl, rfl, trivial⟩ (fun x C => bd_mm_plaintiff C σ x1 h (fun r τ e => by cases e; rfl))
def R0_mm_readsTo : Room := ({ frames := 4, cells := 0, slots := 0, locals := 96 } : Room)
def mm_readsTo (σ : kM) (x1 : Int) (x2 : Int) (x3 : Int) : Option (Int × kM) :=
  kchk (0 ≤ (w32 (21 + x1)) ∧ (w32 (21 + x1)) < 290) <|
  (mm_inchesOf σ 0 x1 x2 (σ 8 (w32 (21 + x1)).toNat)).bind fun (r_2, σ_3) =>
  kchk (0 ≤ (w32 ((w32 (256 * (w32 (x1 + 1)))) + (kor x3 (kshl 1 x2)))) ∧ (w32 ((w32 (256 * (w32 (x1 + 1)))) + (kor x3 (kshl 1 x2)))) < 1280) <|
  some ((w32 (r_2 + (σ_3 18 (w32 ((w32 (256 * (w32 (x1 + 1)))) + (kor x3 (kshl 1 x2)))).toNat)), σ_3))
set_option maxHeartbeats 4000000 in
theorem bd_mm_readsTo {x : kX} {l0 : Launch} {Q : State → Prop} (C : kCx x prog_14_method_97_code "PoetFinesModel" (some .int) kcl yM 4 l0 R0_mm_readsTo) (σ : kM) (x1 : Int) (x2 : Int) (x3 : Int) {out : Int × kM} (h : mm_readsTo σ x1 x2 x3 = some out) (hR : ∀ (r : Int) (τ : kM), out = (r, τ) → Q = kQ x (some (ki r)) τ 0 0) : KW x 0 0 Q σ 0 [some (kr 0), some (ki x1), some (ki x2), some (ki x3)] [] := by
  unfold mm_readsTo at h
  refine kw_aload_n C (kdec dc_M_readsTo 0 rfl) rfl 1 rfl rfl ?_
  refine kw_iconst C (kdec dc_M_readsTo 1 rfl) 2 rfl rfl ⟨by decide, by decide⟩ ?_
  refine kw_iload_n C (kdec dc_M_readsTo 2 rfl) rfl 3 rfl rfl ?_
  refine kw_iload_n C (kdec dc_M_readsTo 3 rfl) rfl 4 rfl rfl ?_
  refine kw_aload_n C (kdec dc_M_readsTo 4 rfl) rfl 5 rfl rfl ?_
  refine kw_getR C (kdec dc_M_readsTo 5 rfl) 8 rfl fd_M_M_48_0 ?_
  refine kw_bipush (v := 21) C (kdec dc_M_readsTo 6 rfl) 10 rfl (by decide) ⟨by decide, by decide⟩ ?_
  refine kw_iload_n C (kdec dc_M_readsTo 7 rfl) rfl 11 rfl rfl ?_
  refine kw_iadd C (kdec dc_M_readsTo 8 rfl) 12 rfl ?_
  obtain ⟨hc_1, h⟩ := kchk_h h
  refine kw_iald C (kdec dc_M_readsTo 9 rfl) 13 rfl rfl hc_1.1 hc_1.2 ?_
  obtain ⟨⟨r_2, σ_3⟩, hg_5, h⟩ := kbind_h h
  dsimp only at h
  refine kw_callV (As := [ki 0, ki x1, ki x2, ki (σ 8 (w32 (21 + x1)).toNat)]) C (kdec dc_M_readsTo 10 rfl) 16 rfl cv_M_330 rfl rfl (mt_mm_inchesOf l0 hg_5) ⟨rfl, rfl⟩ ⟨Nat.le_of_ble_eq_true rfl, Nat.le_of_ble_eq_true rfl⟩ ⟨Nat.zero_le _, Nat.zero_le _⟩ rfl (Nat.le_of_ble_eq_true rfl) ?_
  change KW x 0 0 Q σ_3 16 [some (kr 0), some (ki x1), some (ki x2), some (ki x3)] [ki r_2]
  refine kw_aload_n C (kdec dc_M_readsTo 11 rfl) rfl 17 rfl rfl ?_
  refine kw_getR C (kdec dc_M_readsTo 12 rfl) 20 rfl fd_M_M_78_0 ?_
  refine kw_sipush (v := 256) C (kdec dc_M_readsTo 13 rfl) 23 rfl (by decide) ⟨by decide, by decide⟩ ?_
  refine kw_iload_n C (kdec dc_M_readsTo 14 rfl) rfl 24 rfl rfl ?_
  refine kw_iconst C (kdec dc_M_readsTo 15 rfl) 25 rfl rfl ⟨by decide, by decide⟩ ?_
  refine kw_iadd C (kdec dc_M_readsTo 16 rfl) 26 rfl ?_
  refine kw_imul C (kdec dc_M_readsTo 17 rfl) 27 rfl ?_
  refine kw_iload_n C (kdec dc_M_readsTo 18 rfl) rfl 28 rfl rfl ?_
  refine kw_iconst C (kdec dc_M_readsTo 19 rfl) 29 rfl rfl ⟨by decide, by decide⟩ ?_
  refine kw_iload_n C (kdec dc_M_readsTo 20 rfl) rfl 30 rfl rfl ?_
  refine kw_ishl C (kdec dc_M_readsTo 21 rfl) 31 rfl ?_
  refine kw_ior C (kdec dc_M_readsTo 22 rfl) 32 rfl ?_
  refine kw_iadd C (kdec dc_M_readsTo 23 rfl) 33 rfl ?_
  obtain ⟨hc_4, h⟩ := kchk_h h
  refine kw_iald C (kdec dc_M_readsTo 24 rfl) 34 rfl rfl hc_4.1 hc_4.2 ?_
  refine kw_iadd C (kdec dc_M_readsTo 25 rfl) 35 rfl ?_
  obtain rfl := Option.some.inj h
  exact kw_Q (hR _ _ rfl) (kw_ireturn C (kdec dc_M_readsTo 26 rfl))
theorem mt_mm_readsTo (l0 : Launch) {σ : kM} {x1 : Int} {x2 : Int} {x3 : Int} {r : Int} {τ : kM} (h : mm_readsTo σ x1 x2 x3 = some (r, τ)) : kMet l0 ky_M_readsTo prog_14_method_97_code 4 (some .int) R0_mm_readsTo kcl yM σ [kr 0, ki x1, ki x2, ki x3] (some (ki r)) τ := kMet.of' [some (kr 0), some (ki x1), some (ki x2), some (ki x3)] (by decide) (Nat.le_of_ble_eq_true rfl) ⟨rfl, rfl, rfl, rfl, trivial⟩ (fun x C => bd_mm_readsTo C σ x1 x2 x3 h (fun r τ e => by cases e; rfl))
def R0_mm_readsToNobody : Room := ({ frames := 0, cells := 0, slots := 0, locals := 0 } : Room)
def mm_readsToNobody_j33 (σ : kM) (s0 : Int) (s1 : Int) : Option (Int) :=
  some (w32 (s1 - s0))
set_option maxHeartbeats 4000000 in
theorem bd_mm_readsToNobody_j33 {x : kX} {l0 : Launch} {Q : State → Prop} (C : kCx x prog_14_method_98_code "PoetFinesModel" (some .int) kcl yM 3 l0 R0_mm_readsToNobody) (σ : kM) (s0 : Int) (s1 : Int) {out : Int} (h : mm_readsToNobody_j33 σ s0 s1 = some out) (hR : ∀ (r : Int), out = r → Q = kQ x (some (ki r)) σ 0 0) : KW x 0 0 Q σ 33 [none, none, none] [ki s0, ki s1] := by
  unfold mm_readsToNobody_j33 at h
  refine kw_isub C (kdec dc_M_readsToNobody 20 rfl) 34 rfl ?_
  obtain rfl := Option.some.inj h
  exact kw_Q (hR _ rfl) (kw_ireturn C (kdec dc_M_readsToNobody 21 rfl))
def mm_readsToNobody (σ : kM) (x1 : Int) (x2 : Int) : Option (Int) :=
  kchk (0 ≤ (w32 ((w32 (256 * (w32 (x1 + 1)))) + x2)) ∧ (w32 ((w32 (256 * (w32 (x1 + 1)))) + x2)) < 1280) <|
  kchk (0 ≤ (w32 (25 + x1)) ∧ (w32 (25 + x1)) < 290) <|
  if (σ 8 (w32 (25 + x1)).toNat) ≤ 0 then
    mm_readsToNobody_j33 σ 1000 (σ 18 (w32 ((w32 (256 * (w32 (x1 + 1)))) + x2)).toNat)
  else
    mm_readsToNobody_j33 σ 0 (σ 18 (w32 ((w32 (256 * (w32 (x1 + 1)))) + x2)).toNat)
set_option maxHeartbeats 4000000 in
theorem bd_mm_readsToNobody {x : kX} {l0 : Launch} {Q : State → Prop} (C : kCx x prog_14_method_98_code "PoetFinesModel" (some .int) kcl yM 3 l0 R0_mm_readsToNobody) (σ : kM) (x1 : Int) (x2 : Int) {out : Int} (h : mm_readsToNobody σ x1 x2 = some out) (hR : ∀ (r : Int), out = r → Q = kQ x (some (ki r)) σ 0 0) : KW x 0 0 Q σ 0 [some (kr 0), some (ki x1), some (ki x2)] [] := by
  unfold mm_readsToNobody at h
  refine kw_aload_n C (kdec dc_M_readsToNobody 0 rfl) rfl 1 rfl rfl ?_
  refine kw_getR C (kdec dc_M_readsToNobody 1 rfl) 4 rfl fd_M_M_78_0 ?_
  refine kw_sipush (v := 256) C (kdec dc_M_readsToNobody 2 rfl) 7 rfl (by decide) ⟨by decide, by decide⟩ ?_
  refine kw_iload_n C (kdec dc_M_readsToNobody 3 rfl) rfl 8 rfl rfl ?_
  refine kw_iconst C (kdec dc_M_readsToNobody 4 rfl) 9 rfl rfl ⟨by decide, by decide⟩ ?_
  refine kw_iadd C (kdec dc_M_readsToNobody 5 rfl) 10 rfl ?_
  refine kw_imul C (kdec dc_M_readsToNobody 6 rfl) 11 rfl ?_
  refine kw_iload_n C (kdec dc_M_readsToNobody 7 rfl) rfl 12 rfl rfl ?_
  refine kw_iadd C (kdec dc_M_readsToNobody 8 rfl) 13 rfl ?_
  obtain ⟨hc_1, h⟩ := kchk_h h
  refine kw_iald C (kdec dc_M_readsToNobody 9 rfl) 14 rfl rfl hc_1.1 hc_1.2 ?_
  refine kw_aload_n C (kdec dc_M_readsToNobody 10 rfl) rfl 15 rfl rfl ?_
  refine kw_getR C (kdec dc_M_readsToNobody 11 rfl) 18 rfl fd_M_M_48_0 ?_
  refine kw_bipush (v := 25) C (kdec dc_M_readsToNobody 12 rfl) 20 rfl (by decide) ⟨by decide, by decide⟩ ?_
  refine kw_iload_n C (kdec dc_M_readsToNobody 13 rfl) rfl 21 rfl rfl ?_
  refine kw_iadd C (kdec dc_M_readsToNobody 14 rfl) 22 rfl ?_
  obtain ⟨hc_2, h⟩ := kchk_h h
  refine kw_iald C (kdec dc_M_readsToNobody 15 rfl) 23 rfl rfl hc_2.1 hc_2.2 ?_
  refine kw_if_le C (kdec dc_M_readsToNobody 16 rfl) 30 26 (by decide) rfl (fun hc23 => ?_) (fun hc23 => ?_)
  · rw [if_pos hc23] at h
    refine kw_sipush (v := 1000) C (kdec dc_M_readsToNobody 19 rfl) 33 rfl (by decide) ⟨by decide, by decide⟩ ?_
    exact kw_sub (L' := [none, none, none]) trivial (bd_mm_readsToNobody_j33 C σ 1000 (σ 18 (w32 ((w32 (256 * (w32 (x1 + 1)))) + x2)).toNat) h hR)
  · rw [if_neg hc23] at h
    refine kw_iconst C (kdec dc_M_readsToNobody 17 rfl) 27 rfl rfl ⟨by decide, by decide⟩ ?_
    refine kw_goto C (kdec dc_M_readsToNobody 18 rfl) 33 (by decide) ?_
    exact kw_sub (L' := [none, none, none]) trivial (bd_mm_readsToNobody_j33 C σ 0 (σ 18 (w32 ((w32 (256 * (w32 (x1 + 1)))) + x2)).toNat) h hR)
theorem mt_mm_readsToNobody (l0 : Launch) {σ : kM} {x1 : Int} {x2 : Int} {r : Int} (h : mm_readsToNobody σ x1 x2 = some r) : kMet l0 ky_M_readsToNobody prog_14_method_98_code 3 (some .int) R0_mm_readsToNobody kcl yM σ [kr 0, ki x1, ki x2] (some (ki r)) σ := kMet.of' [some (kr 0), some (ki x1), some (ki x2)] (by decide) (Nat.le_of_ble_eq_true rfl) ⟨rfl, rfl, rfl, trivial⟩ (fun x C => bd_mm_readsToNobody C σ x1 x2 h (fun r e => by subst e; rfl))
def R0_mm_laysReadings : Room := ({ frames := 5, cells := 0, slots := 0, locals := 119 } : Room)
def mm_laysReadings_l2 (σ : kM) (x1 : Int) : Option ((kM × Int) ⊕ ((kM))) :=
  if 256 ≤ x1 then
    some (Sum.inr σ)
  else
    kchk (0 ≤ (w32 ((w32 (256 * (σ 0 3))) + x1)) ∧ (w32 ((w32 (256 * (σ 0 3))) + x1)) < 1280) <|
    klet (kst σ 18 (kup (σ 18) ((w32 ((w32 (256 * (σ 0 3))) + x1)).toNat) 0)) fun σ_2 =>
    klet (w32 (x1 + 1)) fun x1_3 =>
    some (Sum.inl (σ_2, x1_3))
set_option maxHeartbeats 4000000 in
theorem bd_mm_laysReadings_l2 {x : kX} {l0 : Launch} {Q : State → Prop} (C : kCx x prog_14_method_99_code "PoetFinesModel" none kcl yM 5 l0 R0_mm_laysReadings) (σ : kM) (x1 : Int) {out : (kM × Int) ⊕ ((kM))} (h : mm_laysReadings_l2 σ x1 = some out) (hC : ∀ (σ' : kM) (x1' : Int), out = Sum.inl (σ', x1') → KW x 0 0 Q σ' 2 [some (kr 0), some (ki x1'), none, none, none] []) (hX31 : ∀ (σ' : kM), out = Sum.inr σ' → KW x 0 0 Q σ' 31 [some (kr 0), none, none, none, none] []) : KW x 0 0 Q σ 2 [some (kr 0), some (ki x1), none, none, none] [] := by
  unfold mm_laysReadings_l2 at h
  refine kw_iload_n C (kdec dc_M_laysReadings 2 rfl) rfl 3 rfl rfl ?_
  refine kw_sipush (v := 256) C (kdec dc_M_laysReadings 3 rfl) 6 rfl (by decide) ⟨by decide, by decide⟩ ?_
  refine kw_icmp_ge C (kdec dc_M_laysReadings 4 rfl) 31 9 (by decide) rfl (fun hc6 => ?_) (fun hc6 => ?_)
  · rw [if_pos hc6] at h
    obtain rfl := Option.some.inj h
    exact kw_sub (L' := [some (kr 0), none, none, none, none]) ⟨rfl, trivial⟩ (hX31 _ rfl)
  · rw [if_neg hc6] at h
    refine kw_aload_n C (kdec dc_M_laysReadings 5 rfl) rfl 10 rfl rfl ?_
    refine kw_getR C (kdec dc_M_laysReadings 6 rfl) 13 rfl fd_M_M_78_0 ?_
    refine kw_sipush (v := 256) C (kdec dc_M_laysReadings 7 rfl) 16 rfl (by decide) ⟨by decide, by decide⟩ ?_
    refine kw_aload_n C (kdec dc_M_laysReadings 8 rfl) rfl 17 rfl rfl ?_
    refine kw_getI C (kdec dc_M_laysReadings 9 rfl) 20 rfl fd_M_M_273_0 ?_
    refine kw_imul C (kdec dc_M_laysReadings 10 rfl) 21 rfl ?_
    refine kw_iload_n C (kdec dc_M_laysReadings 11 rfl) rfl 22 rfl rfl ?_
    refine kw_iadd C (kdec dc_M_laysReadings 12 rfl) 23 rfl ?_
    refine kw_iconst C (kdec dc_M_laysReadings 13 rfl) 24 rfl rfl ⟨by decide, by decide⟩ ?_
    obtain ⟨hc_1, h⟩ := kchk_h h
    obtain ⟨σ_2, eσ_2, h⟩ := klet_h h
    refine kw_iast C (kdec dc_M_laysReadings 14 rfl) 25 rfl rfl hc_1.1 hc_1.2 ?_
    refine kw_sig eσ_2 ?_
    obtain ⟨x1_3, ex1_3, h⟩ := klet_h h
    refine kw_iinc (L' := [some (kr 0), some (ki x1_3), none, none, none]) C (kdec dc_M_laysReadings 15 rfl) 28 rfl rfl (by decide) rfl (by rw [ex1_3]; rfl) ?_
    refine kw_goto C (kdec dc_M_laysReadings 16 rfl) 2 (by decide) ?_
    obtain rfl := Option.some.inj h
    exact (hC _ _ rfl)
theorem lp_mm_laysReadings_l2 {x : kX} {l0 : Launch} {Q : State → Prop} (C : kCx x prog_14_method_99_code "PoetFinesModel" none kcl yM 5 l0 R0_mm_laysReadings) {ex : (kM)} (hX31 : ∀ (σ' : kM), ex = σ' → KW x 0 0 Q σ' 31 [some (kr 0), none, none, none, none] []) (n : Nat) (σ : kM) (x1 : Int) (h : kloop (fun st => mm_laysReadings_l2 st.1 st.2) n (σ, x1) = some ex) : KW x 0 0 Q σ 2 [some (kr 0), some (ki x1), none, none, none] [] :=
  kloop_ind (P := (fun st : kM × Int => KW x 0 0 Q st.1 2 [some (kr 0), some (ki (st.2)), none, none, none] [])) (fun st out hb hc hx => bd_mm_laysReadings_l2 C st.1 st.2 hb (fun a0 a1 e => hc _ e) (fun a0 e => hX31 _ ((hx _ e).symm))) n (σ, x1) h
def mm_laysReadings_l64_j123 (σ : kM) (x1 : Int) (x2 : Int) (x3 : Int) (x4 : Int) : Option ((kM × Int × Int) ⊕ ((kM × Int))) :=
  klet (w32 (x4 + 1)) fun x4_12 =>
  some (Sum.inl (σ, x3, x4_12))
set_option maxHeartbeats 4000000 in
theorem bd_mm_laysReadings_l64_j123 {x : kX} {l0 : Launch} {Q : State → Prop} (C : kCx x prog_14_method_99_code "PoetFinesModel" none kcl yM 5 l0 R0_mm_laysReadings) (σ : kM) (x1 : Int) (x2 : Int) (x3 : Int) (x4 : Int) {out : (kM × Int × Int) ⊕ ((kM × Int))} (h : mm_laysReadings_l64_j123 σ x1 x2 x3 x4 = some out) (hC : ∀ (σ' : kM) (x3' : Int) (x4' : Int), out = Sum.inl (σ', x3', x4') → KW x 0 0 Q σ' 64 [some (kr 0), some (ki x1), some (ki x2), some (ki x3'), some (ki x4')] []) (hX129 : ∀ (σ' : kM) (x3' : Int), out = Sum.inr (σ', x3') → KW x 0 0 Q σ' 129 [some (kr 0), some (ki x1), some (ki x2), some (ki x3'), none] []) : KW x 0 0 Q σ 123 [some (kr 0), some (ki x1), some (ki x2), some (ki x3), some (ki x4)] [] := by
  unfold mm_laysReadings_l64_j123 at h
  obtain ⟨x4_12, ex4_12, h⟩ := klet_h h
  refine kw_iinc (L' := [some (kr 0), some (ki x1), some (ki x2), some (ki x3), some (ki x4_12)]) C (kdec dc_M_laysReadings 73 rfl) 126 rfl rfl (by decide) rfl (by rw [ex4_12]; rfl) ?_
  refine kw_goto C (kdec dc_M_laysReadings 74 rfl) 64 (by decide) ?_
  obtain rfl := Option.some.inj h
  exact (hC _ _ _ rfl)
def mm_laysReadings_l64_j122 (σ : kM) (x1 : Int) (x2 : Int) (x4 : Int) (s0 : Int) : Option ((kM × Int × Int) ⊕ ((kM × Int))) :=
  mm_laysReadings_l64_j123 σ x1 x2 s0 x4
set_option maxHeartbeats 4000000 in
theorem bd_mm_laysReadings_l64_j122 {x : kX} {l0 : Launch} {Q : State → Prop} (C : kCx x prog_14_method_99_code "PoetFinesModel" none kcl yM 5 l0 R0_mm_laysReadings) (σ : kM) (x1 : Int) (x2 : Int) (x4 : Int) (s0 : Int) {out : (kM × Int × Int) ⊕ ((kM × Int))} (h : mm_laysReadings_l64_j122 σ x1 x2 x4 s0 = some out) (hC : ∀ (σ' : kM) (x3' : Int) (x4' : Int), out = Sum.inl (σ', x3', x4') → KW x 0 0 Q σ' 64 [some (kr 0), some (ki x1), some (ki x2), some (ki x3'), some (ki x4')] []) (hX129 : ∀ (σ' : kM) (x3' : Int), out = Sum.inr (σ', x3') → KW x 0 0 Q σ' 129 [some (kr 0), some (ki x1), some (ki x2), some (ki x3'), none] []) : KW x 0 0 Q σ 122 [some (kr 0), some (ki x1), some (ki x2), none, some (ki x4)] [ki s0] := by
  unfold mm_laysReadings_l64_j122 at h
  refine kw_istore_n (L' := [some (kr 0), some (ki x1), some (ki x2), some (ki s0), some (ki x4)]) C (kdec dc_M_laysReadings 72 rfl) rfl 123 rfl (by decide) rfl rfl ?_
  exact bd_mm_laysReadings_l64_j123 C σ x1 x2 s0 x4 h hC hX129
def mm_laysReadings_l64 (σ : kM) (x1 : Int) (x2 : Int) (x3 : Int) (x4 : Int) : Option ((kM × Int × Int) ⊕ ((kM × Int))) :=
  if (σ 0 2) ≤ x4 then
    some (Sum.inr (σ, x3))
  else
    kchk (0 ≤ (w32 (25 + x1)) ∧ (w32 (25 + x1)) < 290) <|
    if (σ 8 (w32 (25 + x1)).toNat) = 0 then
      if (kand (kshr x2 x4) 1) = 1 then
        mm_laysReadings_l64_j123 σ x1 x2 x3 x4
      else
        (mm_readsTo σ x1 x4 x2).bind fun (r_10, σ_11) =>
        if r_10 ≤ x3 then
          mm_laysReadings_l64_j122 σ_11 x1 x2 x4 x3
        else
          (mm_readsTo σ_11 x1 x4 x2).bind fun (r_13, σ_14) =>
          mm_laysReadings_l64_j122 σ_14 x1 x2 x4 r_13
    else
      some (Sum.inr (σ, x3))
set_option maxHeartbeats 4000000 in
theorem bd_mm_laysReadings_l64 {x : kX} {l0 : Launch} {Q : State → Prop} (C : kCx x prog_14_method_99_code "PoetFinesModel" none kcl yM 5 l0 R0_mm_laysReadings) (σ : kM) (x1 : Int) (x2 : Int) (x3 : Int) (x4 : Int) {out : (kM × Int × Int) ⊕ ((kM × Int))} (h : mm_laysReadings_l64 σ x1 x2 x3 x4 = some out) (hC : ∀ (σ' : kM) (x3' : Int) (x4' : Int), out = Sum.inl (σ', x3', x4') → KW x 0 0 Q σ' 64 [some (kr 0), some (ki x1), some (ki x2), some (ki x3'), some (ki x4')] []) (hX129 : ∀ (σ' : kM) (x3' : Int), out = Sum.inr (σ', x3') → KW x 0 0 Q σ' 129 [some (kr 0), some (ki x1), some (ki x2), some (ki x3'), none] []) : KW x 0 0 Q σ 64 [some (kr 0), some (ki x1), some (ki x2), some (ki x3), some (ki x4)] [] := by
  unfold mm_laysReadings_l64 at h
  refine kw_iload C (kdec dc_M_laysReadings 39 rfl) 66 rfl rfl ?_
  refine kw_aload_n C (kdec dc_M_laysReadings 40 rfl) rfl 67 rfl rfl ?_
  refine kw_getI C (kdec dc_M_laysReadings 41 rfl) 70 rfl fd_M_M_270_0 ?_
  refine kw_icmp_ge C (kdec dc_M_laysReadings 42 rfl) 129 73 (by decide) rfl (fun hc70 => ?_) (fun hc70 => ?_)
  · rw [if_pos hc70] at h
    obtain rfl := Option.some.inj h
    exact kw_sub (L' := [some (kr 0), some (ki x1), some (ki x2), some (ki x3), none]) ⟨rfl, rfl, rfl, rfl, trivial⟩ (hX129 _ _ rfl)
  · rw [if_neg hc70] at h
    refine kw_aload_n C (kdec dc_M_laysReadings 43 rfl) rfl 74 rfl rfl ?_
    refine kw_getR C (kdec dc_M_laysReadings 44 rfl) 77 rfl fd_M_M_48_0 ?_
    refine kw_bipush (v := 25) C (kdec dc_M_laysReadings 45 rfl) 79 rfl (by decide) ⟨by decide, by decide⟩ ?_
    refine kw_iload_n C (kdec dc_M_laysReadings 46 rfl) rfl 80 rfl rfl ?_
    refine kw_iadd C (kdec dc_M_laysReadings 47 rfl) 81 rfl ?_
    obtain ⟨hc_9, h⟩ := kchk_h h
    refine kw_iald C (kdec dc_M_laysReadings 48 rfl) 82 rfl rfl hc_9.1 hc_9.2 ?_
    refine kw_if_ne C (kdec dc_M_laysReadings 49 rfl) 129 85 (by decide) rfl (fun hc82 => ?_) (fun hc82 => ?_)
    · rw [if_neg hc82] at h
      obtain rfl := Option.some.inj h
      exact kw_sub (L' := [some (kr 0), some (ki x1), some (ki x2), some (ki x3), none]) ⟨rfl, rfl, rfl, rfl, trivial⟩ (hX129 _ _ rfl)
    · rw [if_pos hc82] at h
      refine kw_iload_n C (kdec dc_M_laysReadings 50 rfl) rfl 86 rfl rfl ?_
      refine kw_iload C (kdec dc_M_laysReadings 51 rfl) 88 rfl rfl ?_
      refine kw_ishr C (kdec dc_M_laysReadings 52 rfl) 89 rfl ?_
      refine kw_iconst C (kdec dc_M_laysReadings 53 rfl) 90 rfl rfl ⟨by decide, by decide⟩ ?_
      refine kw_iand C (kdec dc_M_laysReadings 54 rfl) 91 rfl ?_
      refine kw_iconst C (kdec dc_M_laysReadings 55 rfl) 92 rfl rfl ⟨by decide, by decide⟩ ?_
      refine kw_icmp_ne C (kdec dc_M_laysReadings 56 rfl) 98 95 (by decide) rfl (fun hc92 => ?_) (fun hc92 => ?_)
      · rw [if_neg hc92] at h
        refine kw_aload_n C (kdec dc_M_laysReadings 58 rfl) rfl 99 rfl rfl ?_
        refine kw_iload_n C (kdec dc_M_laysReadings 59 rfl) rfl 100 rfl rfl ?_
        refine kw_iload C (kdec dc_M_laysReadings 60 rfl) 102 rfl rfl ?_
        refine kw_iload_n C (kdec dc_M_laysReadings 61 rfl) rfl 103 rfl rfl ?_
        obtain ⟨⟨r_10, σ_11⟩, hg_16, h⟩ := kbind_h h
        dsimp only at h
        refine kw_callV (As := [ki x1, ki x4, ki x2]) C (kdec dc_M_laysReadings 62 rfl) 106 rfl cv_M_422 rfl rfl (mt_mm_readsTo l0 hg_16) ⟨rfl, rfl⟩ ⟨Nat.le_of_ble_eq_true rfl, Nat.le_of_ble_eq_true rfl⟩ ⟨Nat.zero_le _, Nat.zero_le _⟩ rfl (Nat.le_of_ble_eq_true rfl) ?_
        change KW x 0 0 Q σ_11 106 [some (kr 0), some (ki x1), some (ki x2), some (ki x3), some (ki x4)] [ki r_10]
        refine kw_iload_n C (kdec dc_M_laysReadings 63 rfl) rfl 107 rfl rfl ?_
        refine kw_icmp_le C (kdec dc_M_laysReadings 64 rfl) 121 110 (by decide) rfl (fun hc107 => ?_) (fun hc107 => ?_)
        · rw [if_pos hc107] at h
          refine kw_iload_n C (kdec dc_M_laysReadings 71 rfl) rfl 122 rfl rfl ?_
          exact kw_sub (L' := [some (kr 0), some (ki x1), some (ki x2), none, some (ki x4)]) ⟨rfl, rfl, rfl, rfl, trivial⟩ (bd_mm_laysReadings_l64_j122 C σ_11 x1 x2 x4 x3 h hC hX129)
        · rw [if_neg hc107] at h
          refine kw_aload_n C (kdec dc_M_laysReadings 65 rfl) rfl 111 rfl rfl ?_
          refine kw_iload_n C (kdec dc_M_laysReadings 66 rfl) rfl 112 rfl rfl ?_
          refine kw_iload C (kdec dc_M_laysReadings 67 rfl) 114 rfl rfl ?_
          refine kw_iload_n C (kdec dc_M_laysReadings 68 rfl) rfl 115 rfl rfl ?_
          obtain ⟨⟨r_13, σ_14⟩, hg_15, h⟩ := kbind_h h
          dsimp only at h
          refine kw_callV (As := [ki x1, ki x4, ki x2]) C (kdec dc_M_laysReadings 69 rfl) 118 rfl cv_M_422 rfl rfl (mt_mm_readsTo l0 hg_15) ⟨rfl, rfl⟩ ⟨Nat.le_of_ble_eq_true rfl, Nat.le_of_ble_eq_true rfl⟩ ⟨Nat.zero_le _, Nat.zero_le _⟩ rfl (Nat.le_of_ble_eq_true rfl) ?_
          change KW x 0 0 Q σ_14 118 [some (kr 0), some (ki x1), some (ki x2), some (ki x3), some (ki x4)] [ki r_13]
          refine kw_goto C (kdec dc_M_laysReadings 70 rfl) 122 (by decide) ?_
          exact kw_sub (L' := [some (kr 0), some (ki x1), some (ki x2), none, some (ki x4)]) ⟨rfl, rfl, rfl, rfl, trivial⟩ (bd_mm_laysReadings_l64_j122 C σ_14 x1 x2 x4 r_13 h hC hX129)
      · rw [if_pos hc92] at h
        refine kw_goto C (kdec dc_M_laysReadings 57 rfl) 123 (by decide) ?_
        exact bd_mm_laysReadings_l64_j123 C σ x1 x2 x3 x4 h hC hX129
theorem lp_mm_laysReadings_l64 {x : kX} {l0 : Launch} {Q : State → Prop} (C : kCx x prog_14_method_99_code "PoetFinesModel" none kcl yM 5 l0 R0_mm_laysReadings) (x1 : Int) (x2 : Int) {ex : (kM × Int)} (hX129 : ∀ (σ' : kM) (x3' : Int), ex = (σ', x3') → KW x 0 0 Q σ' 129 [some (kr 0), some (ki x1), some (ki x2), some (ki x3'), none] []) (n : Nat) (σ : kM) (x3 : Int) (x4 : Int) (h : kloop (fun st => mm_laysReadings_l64 st.1 x1 x2 st.2.1 st.2.2) n (σ, x3, x4) = some ex) : KW x 0 0 Q σ 64 [some (kr 0), some (ki x1), some (ki x2), some (ki x3), some (ki x4)] [] :=
  kloop_ind (P := (fun st : kM × Int × Int => KW x 0 0 Q st.1 64 [some (kr 0), some (ki x1), some (ki x2), some (ki (st.2.1)), some (ki (st.2.2))] [])) (fun st out hb hc hx => bd_mm_laysReadings_l64 C st.1 x1 x2 st.2.1 st.2.2 hb (fun a0 a1 a2 e => hc _ e) (fun a0 a1 e => hX129 _ _ ((hx _ e).symm))) n (σ, x3, x4) h
def mm_laysReadings_l44 (σ : kM) (x1 : Int) (x2 : Int) : Option ((kM × Int) ⊕ ((kM))) :=
  if (kshl 1 (σ 0 2)) ≤ x2 then
    some (Sum.inr σ)
  else
    (mm_readsToNobody σ x1 x2).bind fun r_8 =>
    (kloop (fun st => mm_laysReadings_l64 st.1 x1 x2 st.2.1 st.2.2) kFuel (σ, r_8, 0)).bind fun (σ_19, x3_20) =>
    kchk (0 ≤ (w32 ((w32 (256 * x1)) + x2)) ∧ (w32 ((w32 (256 * x1)) + x2)) < 1280) <|
    klet (kst σ_19 18 (kup (σ_19 18) ((w32 ((w32 (256 * x1)) + x2)).toNat) x3_20)) fun σ_22 =>
    klet (w32 (x2 + 1)) fun x2_23 =>
    some (Sum.inl (σ_22, x2_23))
set_option maxHeartbeats 4000000 in
theorem bd_mm_laysReadings_l44 {x : kX} {l0 : Launch} {Q : State → Prop} (C : kCx x prog_14_method_99_code "PoetFinesModel" none kcl yM 5 l0 R0_mm_laysReadings) (σ : kM) (x1 : Int) (x2 : Int) {out : (kM × Int) ⊕ ((kM))} (h : mm_laysReadings_l44 σ x1 x2 = some out) (hC : ∀ (σ' : kM) (x2' : Int), out = Sum.inl (σ', x2') → KW x 0 0 Q σ' 44 [some (kr 0), some (ki x1), some (ki x2'), none, none] []) (hX148 : ∀ (σ' : kM), out = Sum.inr σ' → KW x 0 0 Q σ' 148 [some (kr 0), some (ki x1), none, none, none] []) : KW x 0 0 Q σ 44 [some (kr 0), some (ki x1), some (ki x2), none, none] [] := by
  unfold mm_laysReadings_l44 at h
  refine kw_iload_n C (kdec dc_M_laysReadings 26 rfl) rfl 45 rfl rfl ?_
  refine kw_iconst C (kdec dc_M_laysReadings 27 rfl) 46 rfl rfl ⟨by decide, by decide⟩ ?_
  refine kw_aload_n C (kdec dc_M_laysReadings 28 rfl) rfl 47 rfl rfl ?_
  refine kw_getI C (kdec dc_M_laysReadings 29 rfl) 50 rfl fd_M_M_270_0 ?_
  refine kw_ishl C (kdec dc_M_laysReadings 30 rfl) 51 rfl ?_
  refine kw_icmp_ge C (kdec dc_M_laysReadings 31 rfl) 148 54 (by decide) rfl (fun hc51 => ?_) (fun hc51 => ?_)
  · rw [if_pos hc51] at h
    obtain rfl := Option.some.inj h
    exact kw_sub (L' := [some (kr 0), some (ki x1), none, none, none]) ⟨rfl, rfl, trivial⟩ (hX148 _ rfl)
  · rw [if_neg hc51] at h
    refine kw_aload_n C (kdec dc_M_laysReadings 32 rfl) rfl 55 rfl rfl ?_
    refine kw_iload_n C (kdec dc_M_laysReadings 33 rfl) rfl 56 rfl rfl ?_
    refine kw_iload_n C (kdec dc_M_laysReadings 34 rfl) rfl 57 rfl rfl ?_
    obtain ⟨r_8, hg_24, h⟩ := kbind_h h
    refine kw_callV (As := [ki x1, ki x2]) C (kdec dc_M_laysReadings 35 rfl) 60 rfl cv_M_419 rfl rfl (mt_mm_readsToNobody l0 hg_24) ⟨rfl, rfl⟩ ⟨Nat.le_of_ble_eq_true rfl, Nat.le_of_ble_eq_true rfl⟩ ⟨Nat.zero_le _, Nat.zero_le _⟩ rfl (Nat.le_of_ble_eq_true rfl) ?_
    change KW x 0 0 Q σ 60 [some (kr 0), some (ki x1), some (ki x2), none, none] [ki r_8]
    refine kw_istore_n (L' := [some (kr 0), some (ki x1), some (ki x2), some (ki r_8), none]) C (kdec dc_M_laysReadings 36 rfl) rfl 61 rfl (by decide) rfl rfl ?_
    refine kw_iconst C (kdec dc_M_laysReadings 37 rfl) 62 rfl rfl ⟨by decide, by decide⟩ ?_
    refine kw_istore (L' := [some (kr 0), some (ki x1), some (ki x2), some (ki r_8), some (ki 0)]) C (kdec dc_M_laysReadings 38 rfl) 64 rfl (by decide) rfl rfl ?_
    obtain ⟨ex_17, hl_18, h⟩ := kbind_h h
    refine lp_mm_laysReadings_l64 C x1 x2 ?_ kFuel σ r_8 0 hl_18
    · intro σ_19 x3_20 e
      subst ex_17
      try dsimp only at h
      refine kw_aload_n C (kdec dc_M_laysReadings 75 rfl) rfl 130 rfl rfl ?_
      refine kw_getR C (kdec dc_M_laysReadings 76 rfl) 133 rfl fd_M_M_78_0 ?_
      refine kw_sipush (v := 256) C (kdec dc_M_laysReadings 77 rfl) 136 rfl (by decide) ⟨by decide, by decide⟩ ?_
      refine kw_iload_n C (kdec dc_M_laysReadings 78 rfl) rfl 137 rfl rfl ?_
      refine kw_imul C (kdec dc_M_laysReadings 79 rfl) 138 rfl ?_
      refine kw_iload_n C (kdec dc_M_laysReadings 80 rfl) rfl 139 rfl rfl ?_
      refine kw_iadd C (kdec dc_M_laysReadings 81 rfl) 140 rfl ?_
      refine kw_iload_n C (kdec dc_M_laysReadings 82 rfl) rfl 141 rfl rfl ?_
      obtain ⟨hc_21, h⟩ := kchk_h h
      obtain ⟨σ_22, eσ_22, h⟩ := klet_h h
      refine kw_iast C (kdec dc_M_laysReadings 83 rfl) 142 rfl rfl hc_21.1 hc_21.2 ?_
      refine kw_sig eσ_22 ?_
      obtain ⟨x2_23, ex2_23, h⟩ := klet_h h
      refine kw_iinc (L' := [some (kr 0), some (ki x1), some (ki x2_23), some (ki x3_20), none]) C (kdec dc_M_laysReadings 84 rfl) 145 rfl rfl (by decide) rfl (by rw [ex2_23]; rfl) ?_
      refine kw_goto C (kdec dc_M_laysReadings 85 rfl) 44 (by decide) ?_
      obtain rfl := Option.some.inj h
      exact kw_sub (L' := [some (kr 0), some (ki x1), some (ki x2_23), none, none]) ⟨rfl, rfl, rfl, trivial⟩ (hC _ _ rfl)
theorem lp_mm_laysReadings_l44 {x : kX} {l0 : Launch} {Q : State → Prop} (C : kCx x prog_14_method_99_code "PoetFinesModel" none kcl yM 5 l0 R0_mm_laysReadings) (x1 : Int) {ex : (kM)} (hX148 : ∀ (σ' : kM), ex = σ' → KW x 0 0 Q σ' 148 [some (kr 0), some (ki x1), none, none, none] []) (n : Nat) (σ : kM) (x2 : Int) (h : kloop (fun st => mm_laysReadings_l44 st.1 x1 st.2) n (σ, x2) = some ex) : KW x 0 0 Q σ 44 [some (kr 0), some (ki x1), some (ki x2), none, none] [] :=
  kloop_ind (P := (fun st : kM × Int => KW x 0 0 Q st.1 44 [some (kr 0), some (ki x1), some (ki (st.2)), none, none] [])) (fun st out hb hc hx => bd_mm_laysReadings_l44 C st.1 x1 st.2 hb (fun a0 a1 e => hc _ e) (fun a0 e => hX148 _ ((hx _ e).symm))) n (σ, x2) h
def mm_laysReadings_l38 (σ : kM) (x1 : Int) : Option ((kM × Int) ⊕ ((kM))) :=
  if x1 < 0 then
    some (Sum.inr σ)
  else
    (kloop (fun st => mm_laysReadings_l44 st.1 x1 st.2) kFuel (σ, 0)).bind fun σ_27 =>
    klet (w32 (x1 + (-1))) fun x1_28 =>
    some (Sum.inl (σ_27, x1_28))
set_option maxHeartbeats 4000000 in
theorem bd_mm_laysReadings_l38 {x : kX} {l0 : Launch} {Q : State → Prop} (C : kCx x prog_14_method_99_code "PoetFinesModel" none kcl yM 5 l0 R0_mm_laysReadings) (σ : kM) (x1 : Int) {out : (kM × Int) ⊕ ((kM))} (h : mm_laysReadings_l38 σ x1 = some out) (hC : ∀ (σ' : kM) (x1' : Int), out = Sum.inl (σ', x1') → KW x 0 0 Q σ' 38 [some (kr 0), some (ki x1'), none, none, none] []) (hX154 : ∀ (σ' : kM), out = Sum.inr σ' → KW x 0 0 Q σ' 154 [none, none, none, none, none] []) : KW x 0 0 Q σ 38 [some (kr 0), some (ki x1), none, none, none] [] := by
  unfold mm_laysReadings_l38 at h
  refine kw_iload_n C (kdec dc_M_laysReadings 22 rfl) rfl 39 rfl rfl ?_
  refine kw_if_lt C (kdec dc_M_laysReadings 23 rfl) 154 42 (by decide) rfl (fun hc39 => ?_) (fun hc39 => ?_)
  · rw [if_pos hc39] at h
    obtain rfl := Option.some.inj h
    exact kw_sub (L' := [none, none, none, none, none]) trivial (hX154 _ rfl)
  · rw [if_neg hc39] at h
    refine kw_iconst C (kdec dc_M_laysReadings 24 rfl) 43 rfl rfl ⟨by decide, by decide⟩ ?_
    refine kw_istore_n (L' := [some (kr 0), some (ki x1), some (ki 0), none, none]) C (kdec dc_M_laysReadings 25 rfl) rfl 44 rfl (by decide) rfl rfl ?_
    obtain ⟨ex_25, hl_26, h⟩ := kbind_h h
    refine lp_mm_laysReadings_l44 C x1 ?_ kFuel σ 0 hl_26
    · intro σ_27 e
      subst ex_25
      try dsimp only at h
      obtain ⟨x1_28, ex1_28, h⟩ := klet_h h
      refine kw_iinc (L' := [some (kr 0), some (ki x1_28), none, none, none]) C (kdec dc_M_laysReadings 86 rfl) 151 rfl rfl (by decide) rfl (by rw [ex1_28]; rfl) ?_
      refine kw_goto C (kdec dc_M_laysReadings 87 rfl) 38 (by decide) ?_
      obtain rfl := Option.some.inj h
      exact (hC _ _ rfl)
theorem lp_mm_laysReadings_l38 {x : kX} {l0 : Launch} {Q : State → Prop} (C : kCx x prog_14_method_99_code "PoetFinesModel" none kcl yM 5 l0 R0_mm_laysReadings) {ex : (kM)} (hX154 : ∀ (σ' : kM), ex = σ' → KW x 0 0 Q σ' 154 [none, none, none, none, none] []) (n : Nat) (σ : kM) (x1 : Int) (h : kloop (fun st => mm_laysReadings_l38 st.1 st.2) n (σ, x1) = some ex) : KW x 0 0 Q σ 38 [some (kr 0), some (ki x1), none, none, none] [] :=
  kloop_ind (P := (fun st : kM × Int => KW x 0 0 Q st.1 38 [some (kr 0), some (ki (st.2)), none, none, none] [])) (fun st out hb hc hx => bd_mm_laysReadings_l38 C st.1 st.2 hb (fun a0 a1 e => hc _ e) (fun a0 e => hX154 _ ((hx _ e).symm))) n (σ, x1) h
def mm_laysReadings (σ : kM) : Option (kM) :=
  (kloop (fun st => mm_laysReadings_l2 st.1 st.2) kFuel (σ, 0)).bind fun σ_6 =>
  klet (w32 ((σ_6 0 3) - 1)) fun x1_7 =>
  (kloop (fun st => mm_laysReadings_l38 st.1 st.2) kFuel (σ_6, x1_7)).bind fun σ_31 =>
  some σ_31
set_option maxHeartbeats 4000000 in
theorem bd_mm_laysReadings {x : kX} {l0 : Launch} {Q : State → Prop} (C : kCx x prog_14_method_99_code "PoetFinesModel" none kcl yM 5 l0 R0_mm_laysReadings) (σ : kM) {out : kM} (h : mm_laysReadings σ = some out) (hR : ∀ (τ : kM), out = τ → Q = kQ x none τ 0 0) : KW x 0 0 Q σ 0 [some (kr 0), none, none, none, none] [] := by
  unfold mm_laysReadings at h
  refine kw_iconst C (kdec dc_M_laysReadings 0 rfl) 1 rfl rfl ⟨by decide, by decide⟩ ?_
  refine kw_istore_n (L' := [some (kr 0), some (ki 0), none, none, none]) C (kdec dc_M_laysReadings 1 rfl) rfl 2 rfl (by decide) rfl rfl ?_
  obtain ⟨ex_4, hl_5, h⟩ := kbind_h h
  refine lp_mm_laysReadings_l2 C ?_ kFuel σ 0 hl_5
  · intro σ_6 e
    subst ex_4
    try dsimp only at h
    refine kw_aload_n C (kdec dc_M_laysReadings 17 rfl) rfl 32 rfl rfl ?_
    refine kw_getI C (kdec dc_M_laysReadings 18 rfl) 35 rfl fd_M_M_273_0 ?_
    refine kw_iconst C (kdec dc_M_laysReadings 19 rfl) 36 rfl rfl ⟨by decide, by decide⟩ ?_
    refine kw_isub C (kdec dc_M_laysReadings 20 rfl) 37 rfl ?_
    obtain ⟨x1_7, ex1_7, h⟩ := klet_h h
    refine kw_top ex1_7 ?_
    refine kw_istore_n (L' := [some (kr 0), some (ki x1_7), none, none, none]) C (kdec dc_M_laysReadings 21 rfl) rfl 38 rfl (by decide) rfl rfl ?_
    obtain ⟨ex_29, hl_30, h⟩ := kbind_h h
    refine lp_mm_laysReadings_l38 C ?_ kFuel σ_6 x1_7 hl_30
    · intro σ_31 e
      subst ex_29
      try dsimp only at h
      obtain rfl := Option.some.inj h
      exact kw_Q (hR _ rfl) (kw_return C (kdec dc_M_laysReadings 88 rfl))
theorem mt_mm_laysReadings (l0 : Launch) {σ : kM} {τ : kM} (h : mm_laysReadings σ = some τ) : kMet l0 ky_M_laysReadings prog_14_method_99_code 5 none R0_mm_laysReadings kcl yM σ [kr 0] none τ := kMet.of' [some (kr 0), none, none, none, none] (by decide) (Nat.le_of_ble_eq_true rfl) ⟨rfl, trivial⟩ (fun x C => bd_mm_laysReadings C σ h (fun τ e => by subst e; rfl))
def R0_mm_readings : Room := ({ frames := 6, cells := 0, slots := 0, locals := 143 } : Room)
def mm_readings_l67_j123 (σ : kM) (x1 : Int) (x2 : Int) (x3 : Int) (x4 : Int) (x5 : Int) (x6 : Int) : Option ((kM × Int × Int) ⊕ ((kM × Int))) :=
  klet (w32 (x6 + (-1))) fun x6_9 =>
  some (Sum.inl (σ, x4, x6_9))
set_option maxHeartbeats 4000000 in
theorem bd_mm_readings_l67_j123 {x : kX} {l0 : Launch} {Q : State → Prop} (C : kCx x prog_14_method_100_code "PoetFinesModel" (some .int) kcl yM 7 l0 R0_mm_readings) (σ : kM) (x1 : Int) (x2 : Int) (x3 : Int) (x4 : Int) (x5 : Int) (x6 : Int) {out : (kM × Int × Int) ⊕ ((kM × Int))} (h : mm_readings_l67_j123 σ x1 x2 x3 x4 x5 x6 = some out) (hC : ∀ (σ' : kM) (x4' : Int) (x6' : Int), out = Sum.inl (σ', x4', x6') → KW x 0 0 Q σ' 67 [some (kr 0), some (ki x1), some (ki x2), some (ki x3), some (ki x4'), some (ki x5), some (ki x6')] []) (hX129 : ∀ (σ' : kM) (x4' : Int), out = Sum.inr (σ', x4') → KW x 0 0 Q σ' 129 [some (kr 0), some (ki x1), some (ki x2), some (ki x3), some (ki x4'), some (ki x5), none] []) : KW x 0 0 Q σ 123 [some (kr 0), some (ki x1), some (ki x2), some (ki x3), some (ki x4), some (ki x5), some (ki x6)] [] := by
  unfold mm_readings_l67_j123 at h
  obtain ⟨x6_9, ex6_9, h⟩ := klet_h h
  refine kw_iinc (L' := [some (kr 0), some (ki x1), some (ki x2), some (ki x3), some (ki x4), some (ki x5), some (ki x6_9)]) C (kdec dc_M_readings 71 rfl) 126 rfl rfl (by decide) rfl (by rw [ex6_9]; rfl) ?_
  refine kw_goto C (kdec dc_M_readings 72 rfl) 67 (by decide) ?_
  obtain rfl := Option.some.inj h
  exact (hC _ _ _ rfl)
def mm_readings_l67 (σ : kM) (x1 : Int) (x2 : Int) (x3 : Int) (x4 : Int) (x5 : Int) (x6 : Int) : Option ((kM × Int × Int) ⊕ ((kM × Int))) :=
  if x6 < 0 then
    some (Sum.inr (σ, x4))
  else
    kchk (0 ≤ (w32 (25 + x5)) ∧ (w32 (25 + x5)) < 290) <|
    if (σ 8 (w32 (25 + x5)).toNat) = 0 then
      if (kand (kshr x2 x6) 1) = 0 then
        (mm_readsTo σ x5 x6 x2).bind fun (r_10, σ_11) =>
        kchk (0 ≤ (w32 ((w32 (256 * x5)) + x2)) ∧ (w32 ((w32 (256 * x5)) + x2)) < 1280) <|
        if r_10 = (σ_11 18 (w32 ((w32 (256 * x5)) + x2)).toNat) then
          mm_readings_l67_j123 σ_11 x1 x2 x3 x6 x5 x6
        else
          mm_readings_l67_j123 σ_11 x1 x2 x3 x4 x5 x6
      else
        mm_readings_l67_j123 σ x1 x2 x3 x4 x5 x6
    else
      some (Sum.inr (σ, x4))
set_option maxHeartbeats 4000000 in
theorem bd_mm_readings_l67 {x : kX} {l0 : Launch} {Q : State → Prop} (C : kCx x prog_14_method_100_code "PoetFinesModel" (some .int) kcl yM 7 l0 R0_mm_readings) (σ : kM) (x1 : Int) (x2 : Int) (x3 : Int) (x4 : Int) (x5 : Int) (x6 : Int) {out : (kM × Int × Int) ⊕ ((kM × Int))} (h : mm_readings_l67 σ x1 x2 x3 x4 x5 x6 = some out) (hC : ∀ (σ' : kM) (x4' : Int) (x6' : Int), out = Sum.inl (σ', x4', x6') → KW x 0 0 Q σ' 67 [some (kr 0), some (ki x1), some (ki x2), some (ki x3), some (ki x4'), some (ki x5), some (ki x6')] []) (hX129 : ∀ (σ' : kM) (x4' : Int), out = Sum.inr (σ', x4') → KW x 0 0 Q σ' 129 [some (kr 0), some (ki x1), some (ki x2), some (ki x3), some (ki x4'), some (ki x5), none] []) : KW x 0 0 Q σ 67 [some (kr 0), some (ki x1), some (ki x2), some (ki x3), some (ki x4), some (ki x5), some (ki x6)] [] := by
  unfold mm_readings_l67 at h
  refine kw_iload C (kdec dc_M_readings 40 rfl) 69 rfl rfl ?_
  refine kw_if_lt C (kdec dc_M_readings 41 rfl) 129 72 (by decide) rfl (fun hc69 => ?_) (fun hc69 => ?_)
  · rw [if_pos hc69] at h
    obtain rfl := Option.some.inj h
    exact kw_sub (L' := [some (kr 0), some (ki x1), some (ki x2), some (ki x3), some (ki x4), some (ki x5), none]) ⟨rfl, rfl, rfl, rfl, rfl, rfl, trivial⟩ (hX129 _ _ rfl)
  · rw [if_neg hc69] at h
    refine kw_aload_n C (kdec dc_M_readings 42 rfl) rfl 73 rfl rfl ?_
    refine kw_getR C (kdec dc_M_readings 43 rfl) 76 rfl fd_M_M_48_0 ?_
    refine kw_bipush (v := 25) C (kdec dc_M_readings 44 rfl) 78 rfl (by decide) ⟨by decide, by decide⟩ ?_
    refine kw_iload C (kdec dc_M_readings 45 rfl) 80 rfl rfl ?_
    refine kw_iadd C (kdec dc_M_readings 46 rfl) 81 rfl ?_
    obtain ⟨hc_8, h⟩ := kchk_h h
    refine kw_iald C (kdec dc_M_readings 47 rfl) 82 rfl rfl hc_8.1 hc_8.2 ?_
    refine kw_if_ne C (kdec dc_M_readings 48 rfl) 129 85 (by decide) rfl (fun hc82 => ?_) (fun hc82 => ?_)
    · rw [if_neg hc82] at h
      obtain rfl := Option.some.inj h
      exact kw_sub (L' := [some (kr 0), some (ki x1), some (ki x2), some (ki x3), some (ki x4), some (ki x5), none]) ⟨rfl, rfl, rfl, rfl, rfl, rfl, trivial⟩ (hX129 _ _ rfl)
    · rw [if_pos hc82] at h
      refine kw_iload_n C (kdec dc_M_readings 49 rfl) rfl 86 rfl rfl ?_
      refine kw_iload C (kdec dc_M_readings 50 rfl) 88 rfl rfl ?_
      refine kw_ishr C (kdec dc_M_readings 51 rfl) 89 rfl ?_
      refine kw_iconst C (kdec dc_M_readings 52 rfl) 90 rfl rfl ⟨by decide, by decide⟩ ?_
      refine kw_iand C (kdec dc_M_readings 53 rfl) 91 rfl ?_
      refine kw_if_ne C (kdec dc_M_readings 54 rfl) 123 94 (by decide) rfl (fun hc91 => ?_) (fun hc91 => ?_)
      · rw [if_neg hc91] at h
        exact bd_mm_readings_l67_j123 C σ x1 x2 x3 x4 x5 x6 h hC hX129
      · rw [if_pos hc91] at h
        refine kw_aload_n C (kdec dc_M_readings 55 rfl) rfl 95 rfl rfl ?_
        refine kw_iload C (kdec dc_M_readings 56 rfl) 97 rfl rfl ?_
        refine kw_iload C (kdec dc_M_readings 57 rfl) 99 rfl rfl ?_
        refine kw_iload_n C (kdec dc_M_readings 58 rfl) rfl 100 rfl rfl ?_
        obtain ⟨⟨r_10, σ_11⟩, hg_13, h⟩ := kbind_h h
        dsimp only at h
        refine kw_callV (As := [ki x5, ki x6, ki x2]) C (kdec dc_M_readings 59 rfl) 103 rfl cv_M_422 rfl rfl (mt_mm_readsTo l0 hg_13) ⟨rfl, rfl⟩ ⟨Nat.le_of_ble_eq_true rfl, Nat.le_of_ble_eq_true rfl⟩ ⟨Nat.zero_le _, Nat.zero_le _⟩ rfl (Nat.le_of_ble_eq_true rfl) ?_
        change KW x 0 0 Q σ_11 103 [some (kr 0), some (ki x1), some (ki x2), some (ki x3), some (ki x4), some (ki x5), some (ki x6)] [ki r_10]
        refine kw_aload_n C (kdec dc_M_readings 60 rfl) rfl 104 rfl rfl ?_
        refine kw_getR C (kdec dc_M_readings 61 rfl) 107 rfl fd_M_M_78_0 ?_
        refine kw_sipush (v := 256) C (kdec dc_M_readings 62 rfl) 110 rfl (by decide) ⟨by decide, by decide⟩ ?_
        refine kw_iload C (kdec dc_M_readings 63 rfl) 112 rfl rfl ?_
        refine kw_imul C (kdec dc_M_readings 64 rfl) 113 rfl ?_
        refine kw_iload_n C (kdec dc_M_readings 65 rfl) rfl 114 rfl rfl ?_
        refine kw_iadd C (kdec dc_M_readings 66 rfl) 115 rfl ?_
        obtain ⟨hc_12, h⟩ := kchk_h h
        refine kw_iald C (kdec dc_M_readings 67 rfl) 116 rfl rfl hc_12.1 hc_12.2 ?_
        refine kw_icmp_ne C (kdec dc_M_readings 68 rfl) 123 119 (by decide) rfl (fun hc116 => ?_) (fun hc116 => ?_)
        · rw [if_neg hc116] at h
          exact bd_mm_readings_l67_j123 C σ_11 x1 x2 x3 x4 x5 x6 h hC hX129
        · rw [if_pos hc116] at h
          refine kw_iload C (kdec dc_M_readings 69 rfl) 121 rfl rfl ?_
          refine kw_istore (L' := [some (kr 0), some (ki x1), some (ki x2), some (ki x3), some (ki x6), some (ki x5), some (ki x6)]) C (kdec dc_M_readings 70 rfl) 123 rfl (by decide) rfl rfl ?_
          exact bd_mm_readings_l67_j123 C σ_11 x1 x2 x3 x6 x5 x6 h hC hX129
theorem lp_mm_readings_l67 {x : kX} {l0 : Launch} {Q : State → Prop} (C : kCx x prog_14_method_100_code "PoetFinesModel" (some .int) kcl yM 7 l0 R0_mm_readings) (x1 : Int) (x2 : Int) (x3 : Int) (x5 : Int) {ex : (kM × Int)} (hX129 : ∀ (σ' : kM) (x4' : Int), ex = (σ', x4') → KW x 0 0 Q σ' 129 [some (kr 0), some (ki x1), some (ki x2), some (ki x3), some (ki x4'), some (ki x5), none] []) (n : Nat) (σ : kM) (x4 : Int) (x6 : Int) (h : kloop (fun st => mm_readings_l67 st.1 x1 x2 x3 st.2.1 x5 st.2.2) n (σ, x4, x6) = some ex) : KW x 0 0 Q σ 67 [some (kr 0), some (ki x1), some (ki x2), some (ki x3), some (ki x4), some (ki x5), some (ki x6)] [] :=
  kloop_ind (P := (fun st : kM × Int × Int => KW x 0 0 Q st.1 67 [some (kr 0), some (ki x1), some (ki x2), some (ki x3), some (ki (st.2.1)), some (ki x5), some (ki (st.2.2))] [])) (fun st out hb hc hx => bd_mm_readings_l67 C st.1 x1 x2 x3 st.2.1 x5 st.2.2 hb (fun a0 a1 a2 e => hc _ e) (fun a0 a1 e => hX129 _ _ ((hx _ e).symm))) n (σ, x4, x6) h
def mm_readings_l47_j176 (σ : kM) (x1 : Int) (x2 : Int) (x3 : Int) (x5 : Int) : Option ((kM × Int × Int × Int) ⊕ ((kM × Int) ⊕ (kM × Int))) :=
  klet (w32 (x5 + 1)) fun x5_23 =>
  some (Sum.inl (σ, x2, x3, x5_23))
set_option maxHeartbeats 4000000 in
theorem bd_mm_readings_l47_j176 {x : kX} {l0 : Launch} {Q : State → Prop} (C : kCx x prog_14_method_100_code "PoetFinesModel" (some .int) kcl yM 7 l0 R0_mm_readings) (σ : kM) (x1 : Int) (x2 : Int) (x3 : Int) (x5 : Int) {out : (kM × Int × Int × Int) ⊕ ((kM × Int) ⊕ (kM × Int))} (h : mm_readings_l47_j176 σ x1 x2 x3 x5 = some out) (hC : ∀ (σ' : kM) (x2' : Int) (x3' : Int) (x5' : Int), out = Sum.inl (σ', x2', x3', x5') → KW x 0 0 Q σ' 47 [some (kr 0), some (ki x1), some (ki x2'), some (ki x3'), none, some (ki x5'), none] []) (hX135 : ∀ (σ' : kM) (x4' : Int), out = Sum.inr (Sum.inl (σ', x4')) → KW x 0 0 Q σ' 135 [none, none, none, none, some (ki x4'), none, none] []) (hX182 : ∀ (σ' : kM) (x3' : Int), out = Sum.inr (Sum.inr (σ', x3')) → KW x 0 0 Q σ' 182 [none, none, none, some (ki x3'), none, none, none] []) : KW x 0 0 Q σ 176 [some (kr 0), some (ki x1), some (ki x2), some (ki x3), none, some (ki x5), none] [] := by
  unfold mm_readings_l47_j176 at h
  obtain ⟨x5_23, ex5_23, h⟩ := klet_h h
  refine kw_iinc (L' := [some (kr 0), some (ki x1), some (ki x2), some (ki x3), none, some (ki x5_23), none]) C (kdec dc_M_readings 102 rfl) 179 rfl rfl (by decide) rfl (by rw [ex5_23]; rfl) ?_
  refine kw_goto C (kdec dc_M_readings 103 rfl) 47 (by decide) ?_
  obtain rfl := Option.some.inj h
  exact (hC _ _ _ _ rfl)
def mm_readings_l47 (σ : kM) (x1 : Int) (x2 : Int) (x3 : Int) (x5 : Int) : Option ((kM × Int × Int × Int) ⊕ ((kM × Int) ⊕ (kM × Int))) :=
  if (σ 0 3) ≤ x5 then
    some (Sum.inr (Sum.inr (σ, x3)))
  else
    klet ((-1)) fun x4_6 =>
    klet (w32 ((σ 0 2) - 1)) fun x6_7 =>
    (kloop (fun st => mm_readings_l67 st.1 x1 x2 x3 st.2.1 x5 st.2.2) kFuel (σ, x4_6, x6_7)).bind fun (σ_16, x4_17) =>
    if x5 = x1 then
      some (Sum.inr (Sum.inl (σ_16, x4_17)))
    else
      if x4_17 = ((-1)) then
        mm_readings_l47_j176 σ_16 x1 x2 x3 x5
      else
        kchk (0 ≤ (w32 (21 + x5)) ∧ (w32 (21 + x5)) < 290) <|
        (mm_inchesOf σ_16 0 x5 x4_17 (σ_16 8 (w32 (21 + x5)).toNat)).bind fun (r_19, σ_20) =>
        klet (w32 (x3 + r_19)) fun x3_21 =>
        klet (kor x2 (kshl 1 x4_17)) fun x2_22 =>
        mm_readings_l47_j176 σ_20 x1 x2_22 x3_21 x5
set_option maxHeartbeats 4000000 in
theorem bd_mm_readings_l47 {x : kX} {l0 : Launch} {Q : State → Prop} (C : kCx x prog_14_method_100_code "PoetFinesModel" (some .int) kcl yM 7 l0 R0_mm_readings) (σ : kM) (x1 : Int) (x2 : Int) (x3 : Int) (x5 : Int) {out : (kM × Int × Int × Int) ⊕ ((kM × Int) ⊕ (kM × Int))} (h : mm_readings_l47 σ x1 x2 x3 x5 = some out) (hC : ∀ (σ' : kM) (x2' : Int) (x3' : Int) (x5' : Int), out = Sum.inl (σ', x2', x3', x5') → KW x 0 0 Q σ' 47 [some (kr 0), some (ki x1), some (ki x2'), some (ki x3'), none, some (ki x5'), none] []) (hX135 : ∀ (σ' : kM) (x4' : Int), out = Sum.inr (Sum.inl (σ', x4')) → KW x 0 0 Q σ' 135 [none, none, none, none, some (ki x4'), none, none] []) (hX182 : ∀ (σ' : kM) (x3' : Int), out = Sum.inr (Sum.inr (σ', x3')) → KW x 0 0 Q σ' 182 [none, none, none, some (ki x3'), none, none, none] []) : KW x 0 0 Q σ 47 [some (kr 0), some (ki x1), some (ki x2), some (ki x3), none, some (ki x5), none] [] := by
  unfold mm_readings_l47 at h
  refine kw_iload C (kdec dc_M_readings 29 rfl) 49 rfl rfl ?_
  refine kw_aload_n C (kdec dc_M_readings 30 rfl) rfl 50 rfl rfl ?_
  refine kw_getI C (kdec dc_M_readings 31 rfl) 53 rfl fd_M_M_273_0 ?_
  refine kw_icmp_ge C (kdec dc_M_readings 32 rfl) 182 56 (by decide) rfl (fun hc53 => ?_) (fun hc53 => ?_)
  · rw [if_pos hc53] at h
    obtain rfl := Option.some.inj h
    exact kw_sub (L' := [none, none, none, some (ki x3), none, none, none]) ⟨rfl, trivial⟩ (hX182 _ _ rfl)
  · rw [if_neg hc53] at h
    refine kw_iconst C (kdec dc_M_readings 33 rfl) 57 rfl rfl ⟨by decide, by decide⟩ ?_
    obtain ⟨x4_6, ex4_6, h⟩ := klet_h h
    refine kw_top ex4_6 ?_
    refine kw_istore (L' := [some (kr 0), some (ki x1), some (ki x2), some (ki x3), some (ki x4_6), some (ki x5), none]) C (kdec dc_M_readings 34 rfl) 59 rfl (by decide) rfl rfl ?_
    refine kw_aload_n C (kdec dc_M_readings 35 rfl) rfl 60 rfl rfl ?_
    refine kw_getI C (kdec dc_M_readings 36 rfl) 63 rfl fd_M_M_270_0 ?_
    refine kw_iconst C (kdec dc_M_readings 37 rfl) 64 rfl rfl ⟨by decide, by decide⟩ ?_
    refine kw_isub C (kdec dc_M_readings 38 rfl) 65 rfl ?_
    obtain ⟨x6_7, ex6_7, h⟩ := klet_h h
    refine kw_top ex6_7 ?_
    refine kw_istore (L' := [some (kr 0), some (ki x1), some (ki x2), some (ki x3), some (ki x4_6), some (ki x5), some (ki x6_7)]) C (kdec dc_M_readings 39 rfl) 67 rfl (by decide) rfl rfl ?_
    obtain ⟨ex_14, hl_15, h⟩ := kbind_h h
    refine lp_mm_readings_l67 C x1 x2 x3 x5 ?_ kFuel σ x4_6 x6_7 hl_15
    · intro σ_16 x4_17 e
      subst ex_14
      try dsimp only at h
      refine kw_iload C (kdec dc_M_readings 73 rfl) 131 rfl rfl ?_
      refine kw_iload_n C (kdec dc_M_readings 74 rfl) rfl 132 rfl rfl ?_
      refine kw_icmp_ne C (kdec dc_M_readings 75 rfl) 138 135 (by decide) rfl (fun hc132 => ?_) (fun hc132 => ?_)
      · rw [if_neg hc132] at h
        refine kw_iload C (kdec dc_M_readings 78 rfl) 140 rfl rfl ?_
        refine kw_iconst C (kdec dc_M_readings 79 rfl) 141 rfl rfl ⟨by decide, by decide⟩ ?_
        refine kw_icmp_ne C (kdec dc_M_readings 80 rfl) 147 144 (by decide) rfl (fun hc141 => ?_) (fun hc141 => ?_)
        · rw [if_neg hc141] at h
          refine kw_iload_n C (kdec dc_M_readings 82 rfl) rfl 148 rfl rfl ?_
          refine kw_aload_n C (kdec dc_M_readings 83 rfl) rfl 149 rfl rfl ?_
          refine kw_iconst C (kdec dc_M_readings 84 rfl) 150 rfl rfl ⟨by decide, by decide⟩ ?_
          refine kw_iload C (kdec dc_M_readings 85 rfl) 152 rfl rfl ?_
          refine kw_iload C (kdec dc_M_readings 86 rfl) 154 rfl rfl ?_
          refine kw_aload_n C (kdec dc_M_readings 87 rfl) rfl 155 rfl rfl ?_
          refine kw_getR C (kdec dc_M_readings 88 rfl) 158 rfl fd_M_M_48_0 ?_
          refine kw_bipush (v := 21) C (kdec dc_M_readings 89 rfl) 160 rfl (by decide) ⟨by decide, by decide⟩ ?_
          refine kw_iload C (kdec dc_M_readings 90 rfl) 162 rfl rfl ?_
          refine kw_iadd C (kdec dc_M_readings 91 rfl) 163 rfl ?_
          obtain ⟨hc_18, h⟩ := kchk_h h
          refine kw_iald C (kdec dc_M_readings 92 rfl) 164 rfl rfl hc_18.1 hc_18.2 ?_
          obtain ⟨⟨r_19, σ_20⟩, hg_24, h⟩ := kbind_h h
          dsimp only at h
          refine kw_callV (As := [ki 0, ki x5, ki x4_17, ki (σ_16 8 (w32 (21 + x5)).toNat)]) C (kdec dc_M_readings 93 rfl) 167 rfl cv_M_330 rfl rfl (mt_mm_inchesOf l0 hg_24) ⟨rfl, rfl⟩ ⟨Nat.le_of_ble_eq_true rfl, Nat.le_of_ble_eq_true rfl⟩ ⟨Nat.zero_le _, Nat.zero_le _⟩ rfl (Nat.le_of_ble_eq_true rfl) ?_
          change KW x 0 0 Q σ_20 167 [some (kr 0), some (ki x1), some (ki x2), some (ki x3), some (ki x4_17), some (ki x5), none] [ki r_19, ki x3]
          refine kw_iadd C (kdec dc_M_readings 94 rfl) 168 rfl ?_
          obtain ⟨x3_21, ex3_21, h⟩ := klet_h h
          refine kw_top ex3_21 ?_
          refine kw_istore_n (L' := [some (kr 0), some (ki x1), some (ki x2), some (ki x3_21), some (ki x4_17), some (ki x5), none]) C (kdec dc_M_readings 95 rfl) rfl 169 rfl (by decide) rfl rfl ?_
          refine kw_iload_n C (kdec dc_M_readings 96 rfl) rfl 170 rfl rfl ?_
          refine kw_iconst C (kdec dc_M_readings 97 rfl) 171 rfl rfl ⟨by decide, by decide⟩ ?_
          refine kw_iload C (kdec dc_M_readings 98 rfl) 173 rfl rfl ?_
          refine kw_ishl C (kdec dc_M_readings 99 rfl) 174 rfl ?_
          refine kw_ior C (kdec dc_M_readings 100 rfl) 175 rfl ?_
          obtain ⟨x2_22, ex2_22, h⟩ := klet_h h
          refine kw_top ex2_22 ?_
          refine kw_istore_n (L' := [some (kr 0), some (ki x1), some (ki x2_22), some (ki x3_21), some (ki x4_17), some (ki x5), none]) C (kdec dc_M_readings 101 rfl) rfl 176 rfl (by decide) rfl rfl ?_
          exact kw_sub (L' := [some (kr 0), some (ki x1), some (ki x2_22), some (ki x3_21), none, some (ki x5), none]) ⟨rfl, rfl, rfl, rfl, rfl, trivial⟩ (bd_mm_readings_l47_j176 C σ_20 x1 x2_22 x3_21 x5 h hC hX135 hX182)
        · rw [if_pos hc141] at h
          refine kw_goto C (kdec dc_M_readings 81 rfl) 176 (by decide) ?_
          exact kw_sub (L' := [some (kr 0), some (ki x1), some (ki x2), some (ki x3), none, some (ki x5), none]) ⟨rfl, rfl, rfl, rfl, rfl, trivial⟩ (bd_mm_readings_l47_j176 C σ_16 x1 x2 x3 x5 h hC hX135 hX182)
      · rw [if_pos hc132] at h
        obtain rfl := Option.some.inj h
        exact kw_sub (L' := [none, none, none, none, some (ki x4_17), none, none]) ⟨rfl, trivial⟩ (hX135 _ _ rfl)
theorem lp_mm_readings_l47 {x : kX} {l0 : Launch} {Q : State → Prop} (C : kCx x prog_14_method_100_code "PoetFinesModel" (some .int) kcl yM 7 l0 R0_mm_readings) (x1 : Int) {ex : (kM × Int) ⊕ (kM × Int)} (hX135 : ∀ (σ' : kM) (x4' : Int), ex = (Sum.inl (σ', x4')) → KW x 0 0 Q σ' 135 [none, none, none, none, some (ki x4'), none, none] []) (hX182 : ∀ (σ' : kM) (x3' : Int), ex = (Sum.inr (σ', x3')) → KW x 0 0 Q σ' 182 [none, none, none, some (ki x3'), none, none, none] []) (n : Nat) (σ : kM) (x2 : Int) (x3 : Int) (x5 : Int) (h : kloop (fun st => mm_readings_l47 st.1 x1 st.2.1 st.2.2.1 st.2.2.2) n (σ, x2, x3, x5) = some ex) : KW x 0 0 Q σ 47 [some (kr 0), some (ki x1), some (ki x2), some (ki x3), none, some (ki x5), none] [] :=
  kloop_ind (P := (fun st : kM × Int × Int × Int => KW x 0 0 Q st.1 47 [some (kr 0), some (ki x1), some (ki (st.2.1)), some (ki (st.2.2.1)), none, some (ki (st.2.2.2)), none] [])) (fun st out hb hc hx => bd_mm_readings_l47 C st.1 x1 st.2.1 st.2.2.1 st.2.2.2 hb (fun a0 a1 a2 a3 e => hc _ e) (fun a0 a1 e => hX135 _ _ ((hx _ e).symm)) (fun a0 a1 e => hX182 _ _ ((hx _ e).symm))) n (σ, x2, x3, x5) h
def mm_readings_j24 (σ : kM) (x1 : Int) (s0 : Int) : Option (Int × kM) :=
  (mm_right σ s0 1).bind fun (r_2, σ_3) =>
  if r_2 = 0 then
    some ((0, σ_3))
  else
    (mm_laysReadings σ_3).bind fun σ_4 =>
    klet ((-1)) fun x4_5 =>
    (kloop (fun st => mm_readings_l47 st.1 x1 st.2.1 st.2.2.1 st.2.2.2) kFuel (σ_4, 0, 0, 0)).bind fun ex_25 => match ex_25 with
      | (Sum.inl (σ_27, x4_28)) =>
        some ((x4_28, σ_27))
      | (Sum.inr (σ_29, x3_30)) =>
        some ((x3_30, σ_29))
set_option maxHeartbeats 4000000 in
theorem bd_mm_readings_j24 {x : kX} {l0 : Launch} {Q : State → Prop} (C : kCx x prog_14_method_100_code "PoetFinesModel" (some .int) kcl yM 7 l0 R0_mm_readings) (σ : kM) (x1 : Int) (s0 : Int) {out : Int × kM} (h : mm_readings_j24 σ x1 s0 = some out) (hR : ∀ (r : Int) (τ : kM), out = (r, τ) → Q = kQ x (some (ki r)) τ 0 0) : KW x 0 0 Q σ 24 [some (kr 0), some (ki x1), none, none, none, none, none] [ki s0, kr 0] := by
  unfold mm_readings_j24 at h
  refine kw_iconst C (kdec dc_M_readings 14 rfl) 25 rfl rfl ⟨by decide, by decide⟩ ?_
  obtain ⟨⟨r_2, σ_3⟩, hg_32, h⟩ := kbind_h h
  dsimp only at h
  refine kw_callV (As := [ki s0, ki 1]) C (kdec dc_M_readings 15 rfl) 28 rfl cv_M_263 rfl rfl (mt_mm_right l0 hg_32) ⟨rfl, rfl⟩ ⟨Nat.le_of_ble_eq_true rfl, Nat.le_of_ble_eq_true rfl⟩ ⟨Nat.zero_le _, Nat.zero_le _⟩ rfl (Nat.le_of_ble_eq_true rfl) ?_
  change KW x 0 0 Q σ_3 28 [some (kr 0), some (ki x1), none, none, none, none, none] [ki r_2]
  refine kw_if_ne C (kdec dc_M_readings 16 rfl) 33 31 (by decide) rfl (fun hc28 => ?_) (fun hc28 => ?_)
  · rw [if_neg hc28] at h
    refine kw_aload_n C (kdec dc_M_readings 19 rfl) rfl 34 rfl rfl ?_
    obtain ⟨σ_4, hg_31, h⟩ := kbind_h h
    refine kw_callV (As := []) C (kdec dc_M_readings 20 rfl) 37 rfl cv_M_425 rfl rfl (mt_mm_laysReadings l0 hg_31) ⟨rfl, rfl⟩ ⟨Nat.le_of_ble_eq_true rfl, Nat.le_of_ble_eq_true rfl⟩ ⟨Nat.zero_le _, Nat.zero_le _⟩ rfl (Nat.le_of_ble_eq_true rfl) ?_
    change KW x 0 0 Q σ_4 37 [some (kr 0), some (ki x1), none, none, none, none, none] []
    refine kw_iconst C (kdec dc_M_readings 21 rfl) 38 rfl rfl ⟨by decide, by decide⟩ ?_
    refine kw_istore_n (L' := [some (kr 0), some (ki x1), some (ki 0), none, none, none, none]) C (kdec dc_M_readings 22 rfl) rfl 39 rfl (by decide) rfl rfl ?_
    refine kw_iconst C (kdec dc_M_readings 23 rfl) 40 rfl rfl ⟨by decide, by decide⟩ ?_
    refine kw_istore_n (L' := [some (kr 0), some (ki x1), some (ki 0), some (ki 0), none, none, none]) C (kdec dc_M_readings 24 rfl) rfl 41 rfl (by decide) rfl rfl ?_
    refine kw_iconst C (kdec dc_M_readings 25 rfl) 42 rfl rfl ⟨by decide, by decide⟩ ?_
    obtain ⟨x4_5, ex4_5, h⟩ := klet_h h
    refine kw_top ex4_5 ?_
    refine kw_istore (L' := [some (kr 0), some (ki x1), some (ki 0), some (ki 0), some (ki x4_5), none, none]) C (kdec dc_M_readings 26 rfl) 44 rfl (by decide) rfl rfl ?_
    refine kw_iconst C (kdec dc_M_readings 27 rfl) 45 rfl rfl ⟨by decide, by decide⟩ ?_
    refine kw_istore (L' := [some (kr 0), some (ki x1), some (ki 0), some (ki 0), some (ki x4_5), some (ki 0), none]) C (kdec dc_M_readings 28 rfl) 47 rfl (by decide) rfl rfl ?_
    obtain ⟨ex_25, hl_26, h⟩ := kbind_h h
    refine kw_sub (L' := [some (kr 0), some (ki x1), some (ki 0), some (ki 0), none, some (ki 0), none]) ⟨rfl, rfl, rfl, rfl, rfl, trivial⟩ (lp_mm_readings_l47 C x1 ?_ ?_ kFuel σ_4 0 0 0 hl_26)
    · intro σ_27 x4_28 e
      subst ex_25
      try dsimp only at h
      refine kw_iload C (kdec dc_M_readings 76 rfl) 137 rfl rfl ?_
      obtain rfl := Option.some.inj h
      exact kw_Q (hR _ _ rfl) (kw_ireturn C (kdec dc_M_readings 77 rfl))
    · intro σ_29 x3_30 e
      subst ex_25
      try dsimp only at h
      refine kw_iload_n C (kdec dc_M_readings 104 rfl) rfl 183 rfl rfl ?_
      obtain rfl := Option.some.inj h
      exact kw_Q (hR _ _ rfl) (kw_ireturn C (kdec dc_M_readings 105 rfl))
  · rw [if_pos hc28] at h
    refine kw_iconst C (kdec dc_M_readings 17 rfl) 32 rfl rfl ⟨by decide, by decide⟩ ?_
    obtain rfl := Option.some.inj h
    exact kw_Q (hR _ _ rfl) (kw_ireturn C (kdec dc_M_readings 18 rfl))
def mm_readings_j23 (σ : kM) (x1 : Int) : Option (Int × kM) :=
  mm_readings_j24 σ x1 0
set_option maxHeartbeats 4000000 in
theorem bd_mm_readings_j23 {x : kX} {l0 : Launch} {Q : State → Prop} (C : kCx x prog_14_method_100_code "PoetFinesModel" (some .int) kcl yM 7 l0 R0_mm_readings) (σ : kM) (x1 : Int) {out : Int × kM} (h : mm_readings_j23 σ x1 = some out) (hR : ∀ (r : Int) (τ : kM), out = (r, τ) → Q = kQ x (some (ki r)) τ 0 0) : KW x 0 0 Q σ 23 [some (kr 0), some (ki x1), none, none, none, none, none] [kr 0] := by
  unfold mm_readings_j23 at h
  refine kw_iconst C (kdec dc_M_readings 13 rfl) 24 rfl rfl ⟨by decide, by decide⟩ ?_
  exact bd_mm_readings_j24 C σ x1 0 h hR
def mm_readings (σ : kM) (x1 : Int) : Option (Int × kM) :=
  klet (kst σ 0 (kup (σ 0) 0 0)) fun σ_1 =>
  if x1 < ((-1)) then
    mm_readings_j23 σ_1 x1
  else
    if (σ_1 0 3) ≤ x1 then
      mm_readings_j23 σ_1 x1
    else
      mm_readings_j24 σ_1 x1 1
set_option maxHeartbeats 4000000 in
theorem bd_mm_readings {x : kX} {l0 : Launch} {Q : State → Prop} (C : kCx x prog_14_method_100_code "PoetFinesModel" (some .int) kcl yM 7 l0 R0_mm_readings) (σ : kM) (x1 : Int) {out : Int × kM} (h : mm_readings σ x1 = some out) (hR : ∀ (r : Int) (τ : kM), out = (r, τ) → Q = kQ x (some (ki r)) τ 0 0) : KW x 0 0 Q σ 0 [some (kr 0), some (ki x1), none, none, none, none, none] [] := by
  unfold mm_readings at h
  refine kw_aload_n C (kdec dc_M_readings 0 rfl) rfl 1 rfl rfl ?_
  refine kw_iconst C (kdec dc_M_readings 1 rfl) 2 rfl rfl ⟨by decide, by decide⟩ ?_
  obtain ⟨σ_1, eσ_1, h⟩ := klet_h h
  refine kw_putI C (kdec dc_M_readings 2 rfl) 5 rfl fp_M_M_99_0 ?_
  refine kw_sig eσ_1 ?_
  refine kw_aload_n C (kdec dc_M_readings 3 rfl) rfl 6 rfl rfl ?_
  refine kw_iload_n C (kdec dc_M_readings 4 rfl) rfl 7 rfl rfl ?_
  refine kw_iconst C (kdec dc_M_readings 5 rfl) 8 rfl rfl ⟨by decide, by decide⟩ ?_
  refine kw_icmp_lt C (kdec dc_M_readings 6 rfl) 23 11 (by decide) rfl (fun hc8 => ?_) (fun hc8 => ?_)
  · rw [if_pos hc8] at h
    exact bd_mm_readings_j23 C σ_1 x1 h hR
  · rw [if_neg hc8] at h
    refine kw_iload_n C (kdec dc_M_readings 7 rfl) rfl 12 rfl rfl ?_
    refine kw_aload_n C (kdec dc_M_readings 8 rfl) rfl 13 rfl rfl ?_
    refine kw_getI C (kdec dc_M_readings 9 rfl) 16 rfl fd_M_M_273_0 ?_
    refine kw_icmp_ge C (kdec dc_M_readings 10 rfl) 23 19 (by decide) rfl (fun hc16 => ?_) (fun hc16 => ?_)
    · rw [if_pos hc16] at h
      exact bd_mm_readings_j23 C σ_1 x1 h hR
    · rw [if_neg hc16] at h
      refine kw_iconst C (kdec dc_M_readings 11 rfl) 20 rfl rfl ⟨by decide, by decide⟩ ?_
      refine kw_goto C (kdec dc_M_readings 12 rfl) 24 (by decide) ?_
      exact bd_mm_readings_j24 C σ_1 x1 1 h hR
theorem mt_mm_readings (l0 : Launch) {σ : kM} {x1 : Int} {r : Int} {τ : kM} (h : mm_readings σ x1 = some (r, τ)) : kMet l0 ky_M_readings prog_14_method_100_code 7 (some .int) R0_mm_readings kcl yM σ [kr 0, ki x1] (some (ki r)) τ := kMet.of' [some (kr 0), some (ki x1), none, none, none, none, none] (by decide) (Nat.le_of_ble_eq_true rfl) ⟨rfl, rfl, trivial⟩ (fun x C => bd_mm_readings C σ x1 h (fun r τ e => by cases e; rfl))
def R0_mm_best : Room := ({ frames := 7, cells := 0, slots := 0, locals := 168 } : Room)
def mm_best_l127 (σ : kM) (x1 : Int) (x2 : Int) (x3 : Int) (x4 : Int) (x5 : Int) (x6 : Int) : Option ((kM × Int) ⊕ ((kM))) :=
  if x1 ≤ x6 then
    some (Sum.inr σ)
  else
    (mm_yearGoes σ 145).bind fun σ_10 =>
    klet (w32 (x6 + 1)) fun x6_11 =>
    some (Sum.inl (σ_10, x6_11))
set_option maxHeartbeats 4000000 in
theorem bd_mm_best_l127 {x : kX} {l0 : Launch} {Q : State → Prop} (C : kCx x prog_14_method_101_code "PoetFinesModel" (some .int) kcl yM 7 l0 R0_mm_best) (σ : kM) (x1 : Int) (x2 : Int) (x3 : Int) (x4 : Int) (x5 : Int) (x6 : Int) {out : (kM × Int) ⊕ ((kM))} (h : mm_best_l127 σ x1 x2 x3 x4 x5 x6 = some out) (hC : ∀ (σ' : kM) (x6' : Int), out = Sum.inl (σ', x6') → KW x 0 0 Q σ' 127 [some (kr 0), some (ki x1), some (ki x2), some (ki x3), some (ki x4), some (ki x5), some (ki x6')] []) (hX146 : ∀ (σ' : kM), out = Sum.inr σ' → KW x 0 0 Q σ' 146 [some (kr 0), some (ki x1), some (ki x2), some (ki x3), some (ki x4), some (ki x5), none] []) : KW x 0 0 Q σ 127 [some (kr 0), some (ki x1), some (ki x2), some (ki x3), some (ki x4), some (ki x5), some (ki x6)] [] := by
  unfold mm_best_l127 at h
  refine kw_iload C (kdec dc_M_best 69 rfl) 129 rfl rfl ?_
  refine kw_iload_n C (kdec dc_M_best 70 rfl) rfl 130 rfl rfl ?_
  refine kw_icmp_ge C (kdec dc_M_best 71 rfl) 146 133 (by decide) rfl (fun hc130 => ?_) (fun hc130 => ?_)
  · rw [if_pos hc130] at h
    obtain rfl := Option.some.inj h
    exact kw_sub (L' := [some (kr 0), some (ki x1), some (ki x2), some (ki x3), some (ki x4), some (ki x5), none]) ⟨rfl, rfl, rfl, rfl, rfl, rfl, trivial⟩ (hX146 _ rfl)
  · rw [if_neg hc130] at h
    refine kw_aload_n C (kdec dc_M_best 72 rfl) rfl 134 rfl rfl ?_
    refine kw_sipush (v := 145) C (kdec dc_M_best 73 rfl) 137 rfl (by decide) ⟨by decide, by decide⟩ ?_
    obtain ⟨σ_10, hg_12, h⟩ := kbind_h h
    refine kw_callV (As := [ki 145]) C (kdec dc_M_best 74 rfl) 140 rfl cv_M_352 rfl rfl (mt_mm_yearGoes l0 hg_12) ⟨rfl, rfl⟩ ⟨Nat.le_of_ble_eq_true rfl, Nat.le_of_ble_eq_true rfl⟩ ⟨Nat.zero_le _, Nat.zero_le _⟩ rfl (Nat.le_of_ble_eq_true rfl) ?_
    change KW x 0 0 Q σ_10 140 [some (kr 0), some (ki x1), some (ki x2), some (ki x3), some (ki x4), some (ki x5), some (ki x6)] []
    obtain ⟨x6_11, ex6_11, h⟩ := klet_h h
    refine kw_iinc (L' := [some (kr 0), some (ki x1), some (ki x2), some (ki x3), some (ki x4), some (ki x5), some (ki x6_11)]) C (kdec dc_M_best 75 rfl) 143 rfl rfl (by decide) rfl (by rw [ex6_11]; rfl) ?_
    refine kw_goto C (kdec dc_M_best 76 rfl) 127 (by decide) ?_
    obtain rfl := Option.some.inj h
    exact (hC _ _ rfl)
theorem lp_mm_best_l127 {x : kX} {l0 : Launch} {Q : State → Prop} (C : kCx x prog_14_method_101_code "PoetFinesModel" (some .int) kcl yM 7 l0 R0_mm_best) (x1 : Int) (x2 : Int) (x3 : Int) (x4 : Int) (x5 : Int) {ex : (kM)} (hX146 : ∀ (σ' : kM), ex = σ' → KW x 0 0 Q σ' 146 [some (kr 0), some (ki x1), some (ki x2), some (ki x3), some (ki x4), some (ki x5), none] []) (n : Nat) (σ : kM) (x6 : Int) (h : kloop (fun st => mm_best_l127 st.1 x1 x2 x3 x4 x5 st.2) n (σ, x6) = some ex) : KW x 0 0 Q σ 127 [some (kr 0), some (ki x1), some (ki x2), some (ki x3), some (ki x4), some (ki x5), some (ki x6)] [] :=
  kloop_ind (P := (fun st : kM × Int => KW x 0 0 Q st.1 127 [some (kr 0), some (ki x1), some (ki x2), some (ki x3), some (ki x4), some (ki x5), some (ki (st.2))] [])) (fun st out hb hc hx => bd_mm_best_l127 C st.1 x1 x2 x3 x4 x5 st.2 hb (fun a0 a1 e => hc _ e) (fun a0 e => hX146 _ ((hx _ e).symm))) n (σ, x6) h
def mm_best_l63_j189 (σ : kM) (x1 : Int) (x2 : Int) (x3 : Int) (x4 : Int) (x5 : Int) : Option ((kM × Int × Int × Int) ⊕ ((kM × Int))) :=
  klet (w32 (x5 + 1)) fun x5_16 =>
  some (Sum.inl (σ, x3, x4, x5_16))
set_option maxHeartbeats 4000000 in
theorem bd_mm_best_l63_j189 {x : kX} {l0 : Launch} {Q : State → Prop} (C : kCx x prog_14_method_101_code "PoetFinesModel" (some .int) kcl yM 7 l0 R0_mm_best) (σ : kM) (x1 : Int) (x2 : Int) (x3 : Int) (x4 : Int) (x5 : Int) {out : (kM × Int × Int × Int) ⊕ ((kM × Int))} (h : mm_best_l63_j189 σ x1 x2 x3 x4 x5 = some out) (hC : ∀ (σ' : kM) (x3' : Int) (x4' : Int) (x5' : Int), out = Sum.inl (σ', x3', x4', x5') → KW x 0 0 Q σ' 63 [some (kr 0), some (ki x1), some (ki x2), some (ki x3'), some (ki x4'), some (ki x5'), none] []) (hX195 : ∀ (σ' : kM) (x4' : Int), out = Sum.inr (σ', x4') → KW x 0 0 Q σ' 195 [none, none, none, none, some (ki x4'), none, none] []) : KW x 0 0 Q σ 189 [some (kr 0), some (ki x1), some (ki x2), some (ki x3), some (ki x4), some (ki x5), none] [] := by
  unfold mm_best_l63_j189 at h
  obtain ⟨x5_16, ex5_16, h⟩ := klet_h h
  refine kw_iinc (L' := [some (kr 0), some (ki x1), some (ki x2), some (ki x3), some (ki x4), some (ki x5_16), none]) C (kdec dc_M_best 99 rfl) 192 rfl rfl (by decide) rfl (by rw [ex5_16]; rfl) ?_
  refine kw_goto C (kdec dc_M_best 100 rfl) 63 (by decide) ?_
  obtain rfl := Option.some.inj h
  exact (hC _ _ _ _ rfl)
def mm_best_l63_j171 (σ : kM) (x1 : Int) (x2 : Int) (x3 : Int) (x4 : Int) (x5 : Int) (s0 : Int) : Option ((kM × Int × Int × Int) ⊕ ((kM × Int))) :=
  if x3 < s0 then
    mm_best_l63_j189 σ x1 x2 s0 x5 x5
  else
    mm_best_l63_j189 σ x1 x2 x3 x4 x5
set_option maxHeartbeats 4000000 in
theorem bd_mm_best_l63_j171 {x : kX} {l0 : Launch} {Q : State → Prop} (C : kCx x prog_14_method_101_code "PoetFinesModel" (some .int) kcl yM 7 l0 R0_mm_best) (σ : kM) (x1 : Int) (x2 : Int) (x3 : Int) (x4 : Int) (x5 : Int) (s0 : Int) {out : (kM × Int × Int × Int) ⊕ ((kM × Int))} (h : mm_best_l63_j171 σ x1 x2 x3 x4 x5 s0 = some out) (hC : ∀ (σ' : kM) (x3' : Int) (x4' : Int) (x5' : Int), out = Sum.inl (σ', x3', x4', x5') → KW x 0 0 Q σ' 63 [some (kr 0), some (ki x1), some (ki x2), some (ki x3'), some (ki x4'), some (ki x5'), none] []) (hX195 : ∀ (σ' : kM) (x4' : Int), out = Sum.inr (σ', x4') → KW x 0 0 Q σ' 195 [none, none, none, none, some (ki x4'), none, none] []) : KW x 0 0 Q σ 171 [some (kr 0), some (ki x1), some (ki x2), some (ki x3), some (ki x4), some (ki x5), none] [ki s0] := by
  unfold mm_best_l63_j171 at h
  refine kw_istore (L' := [some (kr 0), some (ki x1), some (ki x2), some (ki x3), some (ki x4), some (ki x5), some (ki s0)]) C (kdec dc_M_best 90 rfl) 173 rfl (by decide) rfl rfl ?_
  refine kw_iload C (kdec dc_M_best 91 rfl) 175 rfl rfl ?_
  refine kw_iload_n C (kdec dc_M_best 92 rfl) rfl 176 rfl rfl ?_
  refine kw_icmp_gt C (kdec dc_M_best 93 rfl) 182 179 (by decide) rfl (fun hc176 => ?_) (fun hc176 => ?_)
  · rw [if_pos hc176] at h
    refine kw_iload C (kdec dc_M_best 95 rfl) 184 rfl rfl ?_
    refine kw_istore (L' := [some (kr 0), some (ki x1), some (ki x2), some (ki x3), some (ki x5), some (ki x5), some (ki s0)]) C (kdec dc_M_best 96 rfl) 186 rfl (by decide) rfl rfl ?_
    refine kw_iload C (kdec dc_M_best 97 rfl) 188 rfl rfl ?_
    refine kw_istore_n (L' := [some (kr 0), some (ki x1), some (ki x2), some (ki s0), some (ki x5), some (ki x5), some (ki s0)]) C (kdec dc_M_best 98 rfl) rfl 189 rfl (by decide) rfl rfl ?_
    exact kw_sub (L' := [some (kr 0), some (ki x1), some (ki x2), some (ki s0), some (ki x5), some (ki x5), none]) ⟨rfl, rfl, rfl, rfl, rfl, rfl, trivial⟩ (bd_mm_best_l63_j189 C σ x1 x2 s0 x5 x5 h hC hX195)
  · rw [if_neg hc176] at h
    refine kw_goto C (kdec dc_M_best 94 rfl) 189 (by decide) ?_
    exact kw_sub (L' := [some (kr 0), some (ki x1), some (ki x2), some (ki x3), some (ki x4), some (ki x5), none]) ⟨rfl, rfl, rfl, rfl, rfl, rfl, trivial⟩ (bd_mm_best_l63_j189 C σ x1 x2 x3 x4 x5 h hC hX195)
def mm_best_l63_j124 (σ : kM) (x1 : Int) (x2 : Int) (x3 : Int) (x4 : Int) (x5 : Int) : Option ((kM × Int × Int × Int) ⊕ ((kM × Int))) :=
  (kloop (fun st => mm_best_l127 st.1 x1 x2 x3 x4 x5 st.2) kFuel (σ, 0)).bind fun σ_15 =>
  if x2 = 0 then
    (mm_sumOf σ_15 145 1 (σ_15 0 2)).bind fun r_17 =>
    mm_best_l63_j171 σ_15 x1 x2 x3 x4 x5 r_17
  else
    mm_best_l63_j171 σ_15 x1 x2 x3 x4 x5 (w32 (0 - (σ_15 0 44)))
set_option maxHeartbeats 4000000 in
theorem bd_mm_best_l63_j124 {x : kX} {l0 : Launch} {Q : State → Prop} (C : kCx x prog_14_method_101_code "PoetFinesModel" (some .int) kcl yM 7 l0 R0_mm_best) (σ : kM) (x1 : Int) (x2 : Int) (x3 : Int) (x4 : Int) (x5 : Int) {out : (kM × Int × Int × Int) ⊕ ((kM × Int))} (h : mm_best_l63_j124 σ x1 x2 x3 x4 x5 = some out) (hC : ∀ (σ' : kM) (x3' : Int) (x4' : Int) (x5' : Int), out = Sum.inl (σ', x3', x4', x5') → KW x 0 0 Q σ' 63 [some (kr 0), some (ki x1), some (ki x2), some (ki x3'), some (ki x4'), some (ki x5'), none] []) (hX195 : ∀ (σ' : kM) (x4' : Int), out = Sum.inr (σ', x4') → KW x 0 0 Q σ' 195 [none, none, none, none, some (ki x4'), none, none] []) : KW x 0 0 Q σ 124 [some (kr 0), some (ki x1), some (ki x2), some (ki x3), some (ki x4), some (ki x5), none] [] := by
  unfold mm_best_l63_j124 at h
  refine kw_iconst C (kdec dc_M_best 67 rfl) 125 rfl rfl ⟨by decide, by decide⟩ ?_
  refine kw_istore (L' := [some (kr 0), some (ki x1), some (ki x2), some (ki x3), some (ki x4), some (ki x5), some (ki 0)]) C (kdec dc_M_best 68 rfl) 127 rfl (by decide) rfl rfl ?_
  obtain ⟨ex_13, hl_14, h⟩ := kbind_h h
  refine lp_mm_best_l127 C x1 x2 x3 x4 x5 ?_ kFuel σ 0 hl_14
  · intro σ_15 e
    subst ex_13
    try dsimp only at h
    refine kw_iload_n C (kdec dc_M_best 77 rfl) rfl 147 rfl rfl ?_
    refine kw_if_ne C (kdec dc_M_best 78 rfl) 165 150 (by decide) rfl (fun hc147 => ?_) (fun hc147 => ?_)
    · rw [if_neg hc147] at h
      refine kw_iconst C (kdec dc_M_best 86 rfl) 166 rfl rfl ⟨by decide, by decide⟩ ?_
      refine kw_aload_n C (kdec dc_M_best 87 rfl) rfl 167 rfl rfl ?_
      refine kw_getI C (kdec dc_M_best 88 rfl) 170 rfl fd_M_M_290_0 ?_
      refine kw_isub C (kdec dc_M_best 89 rfl) 171 rfl ?_
      exact bd_mm_best_l63_j171 C σ_15 x1 x2 x3 x4 x5 (w32 (0 - (σ_15 0 44))) h hC hX195
    · rw [if_pos hc147] at h
      refine kw_aload_n C (kdec dc_M_best 79 rfl) rfl 151 rfl rfl ?_
      refine kw_sipush (v := 145) C (kdec dc_M_best 80 rfl) 154 rfl (by decide) ⟨by decide, by decide⟩ ?_
      refine kw_iconst C (kdec dc_M_best 81 rfl) 155 rfl rfl ⟨by decide, by decide⟩ ?_
      refine kw_aload_n C (kdec dc_M_best 82 rfl) rfl 156 rfl rfl ?_
      refine kw_getI C (kdec dc_M_best 83 rfl) 159 rfl fd_M_M_270_0 ?_
      obtain ⟨r_17, hg_18, h⟩ := kbind_h h
      refine kw_callV (As := [ki 145, ki 1, ki (σ_15 0 2)]) C (kdec dc_M_best 84 rfl) 162 rfl cv_M_358 rfl rfl (mt_mm_sumOf l0 hg_18) ⟨rfl, rfl⟩ ⟨Nat.le_of_ble_eq_true rfl, Nat.le_of_ble_eq_true rfl⟩ ⟨Nat.zero_le _, Nat.zero_le _⟩ rfl (Nat.le_of_ble_eq_true rfl) ?_
      change KW x 0 0 Q σ_15 162 [some (kr 0), some (ki x1), some (ki x2), some (ki x3), some (ki x4), some (ki x5), none] [ki r_17]
      refine kw_goto C (kdec dc_M_best 85 rfl) 171 (by decide) ?_
      exact bd_mm_best_l63_j171 C σ_15 x1 x2 x3 x4 x5 r_17 h hC hX195
def mm_best_l63_j92 (σ : kM) (x1 : Int) (x2 : Int) (x3 : Int) (x4 : Int) (x5 : Int) : Option ((kM × Int × Int × Int) ⊕ ((kM × Int))) :=
  (mm_tries σ).bind fun σ_8 =>
  if x2 = 0 then
    kchk (0 ≤ (w32 (170 + x5)) ∧ (w32 (170 + x5)) < 290) <|
    klet (kst σ_8 8 (kup (σ_8 8) ((w32 (170 + x5)).toNat) 0)) fun σ_21 =>
    mm_best_l63_j124 σ_21 x1 x2 x3 x4 x5
  else
    (mm_burns σ_8 145 x5).bind fun σ_9 =>
    mm_best_l63_j124 σ_9 x1 x2 x3 x4 x5
set_option maxHeartbeats 4000000 in
theorem bd_mm_best_l63_j92 {x : kX} {l0 : Launch} {Q : State → Prop} (C : kCx x prog_14_method_101_code "PoetFinesModel" (some .int) kcl yM 7 l0 R0_mm_best) (σ : kM) (x1 : Int) (x2 : Int) (x3 : Int) (x4 : Int) (x5 : Int) {out : (kM × Int × Int × Int) ⊕ ((kM × Int))} (h : mm_best_l63_j92 σ x1 x2 x3 x4 x5 = some out) (hC : ∀ (σ' : kM) (x3' : Int) (x4' : Int) (x5' : Int), out = Sum.inl (σ', x3', x4', x5') → KW x 0 0 Q σ' 63 [some (kr 0), some (ki x1), some (ki x2), some (ki x3'), some (ki x4'), some (ki x5'), none] []) (hX195 : ∀ (σ' : kM) (x4' : Int), out = Sum.inr (σ', x4') → KW x 0 0 Q σ' 195 [none, none, none, none, some (ki x4'), none, none] []) : KW x 0 0 Q σ 92 [some (kr 0), some (ki x1), some (ki x2), some (ki x3), some (ki x4), some (ki x5), none] [] := by
  unfold mm_best_l63_j92 at h
  refine kw_aload_n C (kdec dc_M_best 51 rfl) rfl 93 rfl rfl ?_
  obtain ⟨σ_8, hg_22, h⟩ := kbind_h h
  refine kw_callV (As := []) C (kdec dc_M_best 52 rfl) 96 rfl cv_M_349 rfl rfl (mt_mm_tries l0 hg_22) ⟨rfl, rfl⟩ ⟨Nat.le_of_ble_eq_true rfl, Nat.le_of_ble_eq_true rfl⟩ ⟨Nat.zero_le _, Nat.zero_le _⟩ rfl (Nat.le_of_ble_eq_true rfl) ?_
  change KW x 0 0 Q σ_8 96 [some (kr 0), some (ki x1), some (ki x2), some (ki x3), some (ki x4), some (ki x5), none] []
  refine kw_iload_n C (kdec dc_M_best 53 rfl) rfl 97 rfl rfl ?_
  refine kw_if_ne C (kdec dc_M_best 54 rfl) 115 100 (by decide) rfl (fun hc97 => ?_) (fun hc97 => ?_)
  · rw [if_neg hc97] at h
    refine kw_aload_n C (kdec dc_M_best 63 rfl) rfl 116 rfl rfl ?_
    refine kw_sipush (v := 145) C (kdec dc_M_best 64 rfl) 119 rfl (by decide) ⟨by decide, by decide⟩ ?_
    refine kw_iload C (kdec dc_M_best 65 rfl) 121 rfl rfl ?_
    obtain ⟨σ_9, hg_19, h⟩ := kbind_h h
    refine kw_callV (As := [ki 145, ki x5]) C (kdec dc_M_best 66 rfl) 124 rfl cv_M_401 rfl rfl (mt_mm_burns l0 hg_19) ⟨rfl, rfl⟩ ⟨Nat.le_of_ble_eq_true rfl, Nat.le_of_ble_eq_true rfl⟩ ⟨Nat.zero_le _, Nat.zero_le _⟩ rfl (Nat.le_of_ble_eq_true rfl) ?_
    change KW x 0 0 Q σ_9 124 [some (kr 0), some (ki x1), some (ki x2), some (ki x3), some (ki x4), some (ki x5), none] []
    exact bd_mm_best_l63_j124 C σ_9 x1 x2 x3 x4 x5 h hC hX195
  · rw [if_pos hc97] at h
    refine kw_aload_n C (kdec dc_M_best 55 rfl) rfl 101 rfl rfl ?_
    refine kw_getR C (kdec dc_M_best 56 rfl) 104 rfl fd_M_M_48_0 ?_
    refine kw_sipush (v := 170) C (kdec dc_M_best 57 rfl) 107 rfl (by decide) ⟨by decide, by decide⟩ ?_
    refine kw_iload C (kdec dc_M_best 58 rfl) 109 rfl rfl ?_
    refine kw_iadd C (kdec dc_M_best 59 rfl) 110 rfl ?_
    refine kw_iconst C (kdec dc_M_best 60 rfl) 111 rfl rfl ⟨by decide, by decide⟩ ?_
    obtain ⟨hc_20, h⟩ := kchk_h h
    obtain ⟨σ_21, eσ_21, h⟩ := klet_h h
    refine kw_iast C (kdec dc_M_best 61 rfl) 112 rfl rfl hc_20.1 hc_20.2 ?_
    refine kw_sig eσ_21 ?_
    refine kw_goto C (kdec dc_M_best 62 rfl) 124 (by decide) ?_
    exact bd_mm_best_l63_j124 C σ_21 x1 x2 x3 x4 x5 h hC hX195
def mm_best_l63 (σ : kM) (x1 : Int) (x2 : Int) (x3 : Int) (x4 : Int) (x5 : Int) : Option ((kM × Int × Int × Int) ⊕ ((kM × Int))) :=
  if (σ 0 3) ≤ x5 then
    some (Sum.inr (σ, x4))
  else
    if x2 = 0 then
      kchk (0 ≤ (w32 (25 + x5)) ∧ (w32 (25 + x5)) < 290) <|
      if (σ 8 (w32 (25 + x5)).toNat) = 0 then
        mm_best_l63_j189 σ x1 x2 x3 x4 x5
      else
        mm_best_l63_j92 σ x1 x2 x3 x4 x5
    else
      mm_best_l63_j92 σ x1 x2 x3 x4 x5
set_option maxHeartbeats 4000000 in
theorem bd_mm_best_l63 {x : kX} {l0 : Launch} {Q : State → Prop} (C : kCx x prog_14_method_101_code "PoetFinesModel" (some .int) kcl yM 7 l0 R0_mm_best) (σ : kM) (x1 : Int) (x2 : Int) (x3 : Int) (x4 : Int) (x5 : Int) {out : (kM × Int × Int × Int) ⊕ ((kM × Int))} (h : mm_best_l63 σ x1 x2 x3 x4 x5 = some out) (hC : ∀ (σ' : kM) (x3' : Int) (x4' : Int) (x5' : Int), out = Sum.inl (σ', x3', x4', x5') → KW x 0 0 Q σ' 63 [some (kr 0), some (ki x1), some (ki x2), some (ki x3'), some (ki x4'), some (ki x5'), none] []) (hX195 : ∀ (σ' : kM) (x4' : Int), out = Sum.inr (σ', x4') → KW x 0 0 Q σ' 195 [none, none, none, none, some (ki x4'), none, none] []) : KW x 0 0 Q σ 63 [some (kr 0), some (ki x1), some (ki x2), some (ki x3), some (ki x4), some (ki x5), none] [] := by
  unfold mm_best_l63 at h
  refine kw_iload C (kdec dc_M_best 37 rfl) 65 rfl rfl ?_
  refine kw_aload_n C (kdec dc_M_best 38 rfl) rfl 66 rfl rfl ?_
  refine kw_getI C (kdec dc_M_best 39 rfl) 69 rfl fd_M_M_273_0 ?_
  refine kw_icmp_ge C (kdec dc_M_best 40 rfl) 195 72 (by decide) rfl (fun hc69 => ?_) (fun hc69 => ?_)
  · rw [if_pos hc69] at h
    obtain rfl := Option.some.inj h
    exact kw_sub (L' := [none, none, none, none, some (ki x4), none, none]) ⟨rfl, trivial⟩ (hX195 _ _ rfl)
  · rw [if_neg hc69] at h
    refine kw_iload_n C (kdec dc_M_best 41 rfl) rfl 73 rfl rfl ?_
    refine kw_if_ne C (kdec dc_M_best 42 rfl) 92 76 (by decide) rfl (fun hc73 => ?_) (fun hc73 => ?_)
    · rw [if_neg hc73] at h
      exact bd_mm_best_l63_j92 C σ x1 x2 x3 x4 x5 h hC hX195
    · rw [if_pos hc73] at h
      refine kw_aload_n C (kdec dc_M_best 43 rfl) rfl 77 rfl rfl ?_
      refine kw_getR C (kdec dc_M_best 44 rfl) 80 rfl fd_M_M_48_0 ?_
      refine kw_bipush (v := 25) C (kdec dc_M_best 45 rfl) 82 rfl (by decide) ⟨by decide, by decide⟩ ?_
      refine kw_iload C (kdec dc_M_best 46 rfl) 84 rfl rfl ?_
      refine kw_iadd C (kdec dc_M_best 47 rfl) 85 rfl ?_
      obtain ⟨hc_23, h⟩ := kchk_h h
      refine kw_iald C (kdec dc_M_best 48 rfl) 86 rfl rfl hc_23.1 hc_23.2 ?_
      refine kw_if_ne C (kdec dc_M_best 49 rfl) 92 89 (by decide) rfl (fun hc86 => ?_) (fun hc86 => ?_)
      · rw [if_neg hc86] at h
        exact bd_mm_best_l63_j92 C σ x1 x2 x3 x4 x5 h hC hX195
      · rw [if_pos hc86] at h
        refine kw_goto C (kdec dc_M_best 50 rfl) 189 (by decide) ?_
        exact bd_mm_best_l63_j189 C σ x1 x2 x3 x4 x5 h hC hX195
theorem lp_mm_best_l63 {x : kX} {l0 : Launch} {Q : State → Prop} (C : kCx x prog_14_method_101_code "PoetFinesModel" (some .int) kcl yM 7 l0 R0_mm_best) (x1 : Int) (x2 : Int) {ex : (kM × Int)} (hX195 : ∀ (σ' : kM) (x4' : Int), ex = (σ', x4') → KW x 0 0 Q σ' 195 [none, none, none, none, some (ki x4'), none, none] []) (n : Nat) (σ : kM) (x3 : Int) (x4 : Int) (x5 : Int) (h : kloop (fun st => mm_best_l63 st.1 x1 x2 st.2.1 st.2.2.1 st.2.2.2) n (σ, x3, x4, x5) = some ex) : KW x 0 0 Q σ 63 [some (kr 0), some (ki x1), some (ki x2), some (ki x3), some (ki x4), some (ki x5), none] [] :=
  kloop_ind (P := (fun st : kM × Int × Int × Int => KW x 0 0 Q st.1 63 [some (kr 0), some (ki x1), some (ki x2), some (ki (st.2.1)), some (ki (st.2.2.1)), some (ki (st.2.2.2)), none] [])) (fun st out hb hc hx => bd_mm_best_l63 C st.1 x1 x2 st.2.1 st.2.2.1 st.2.2.2 hb (fun a0 a1 a2 a3 e => hc _ e) (fun a0 a1 e => hX195 _ _ ((hx _ e).symm))) n (σ, x3, x4, x5) h
def mm_best_j56 (σ : kM) (x1 : Int) (x2 : Int) (s0 : Int) : Option (Int × kM) :=
  klet ((-1)) fun x4_7 =>
  (kloop (fun st => mm_best_l63 st.1 x1 x2 st.2.1 st.2.2.1 st.2.2.2) kFuel (σ, s0, x4_7, 0)).bind fun (σ_26, x4_27) =>
  some ((x4_27, σ_26))
set_option maxHeartbeats 4000000 in
theorem bd_mm_best_j56 {x : kX} {l0 : Launch} {Q : State → Prop} (C : kCx x prog_14_method_101_code "PoetFinesModel" (some .int) kcl yM 7 l0 R0_mm_best) (σ : kM) (x1 : Int) (x2 : Int) (s0 : Int) {out : Int × kM} (h : mm_best_j56 σ x1 x2 s0 = some out) (hR : ∀ (r : Int) (τ : kM), out = (r, τ) → Q = kQ x (some (ki r)) τ 0 0) : KW x 0 0 Q σ 56 [some (kr 0), some (ki x1), some (ki x2), none, none, none, none] [ki s0] := by
  unfold mm_best_j56 at h
  refine kw_istore_n (L' := [some (kr 0), some (ki x1), some (ki x2), some (ki s0), none, none, none]) C (kdec dc_M_best 32 rfl) rfl 57 rfl (by decide) rfl rfl ?_
  refine kw_iconst C (kdec dc_M_best 33 rfl) 58 rfl rfl ⟨by decide, by decide⟩ ?_
  obtain ⟨x4_7, ex4_7, h⟩ := klet_h h
  refine kw_top ex4_7 ?_
  refine kw_istore (L' := [some (kr 0), some (ki x1), some (ki x2), some (ki s0), some (ki x4_7), none, none]) C (kdec dc_M_best 34 rfl) 60 rfl (by decide) rfl rfl ?_
  refine kw_iconst C (kdec dc_M_best 35 rfl) 61 rfl rfl ⟨by decide, by decide⟩ ?_
  refine kw_istore (L' := [some (kr 0), some (ki x1), some (ki x2), some (ki s0), some (ki x4_7), some (ki 0), none]) C (kdec dc_M_best 36 rfl) 63 rfl (by decide) rfl rfl ?_
  obtain ⟨ex_24, hl_25, h⟩ := kbind_h h
  refine lp_mm_best_l63 C x1 x2 ?_ kFuel σ s0 x4_7 0 hl_25
  · intro σ_26 x4_27 e
    subst ex_24
    try dsimp only at h
    refine kw_iload C (kdec dc_M_best 101 rfl) 197 rfl rfl ?_
    obtain rfl := Option.some.inj h
    exact kw_Q (hR _ _ rfl) (kw_ireturn C (kdec dc_M_best 102 rfl))
def mm_best (σ : kM) (x1 : Int) (x2 : Int) : Option (Int × kM) :=
  klet (kst σ 0 (kup (σ 0) 0 0)) fun σ_1 =>
  (mm_isWhat σ_1 x2 1).bind fun (r_2, σ_3) =>
  if r_2 = 0 then
    some ((0, σ_3))
  else
    (mm_isSoon σ_3 x1 1 2).bind fun (r_4, σ_5) =>
    if r_4 = 0 then
      some ((0, σ_5))
    else
      (mm_goesTo σ_5 x1).bind fun σ_6 =>
      if x2 = 0 then
        (mm_sumOf σ_6 145 1 (σ_6 0 2)).bind fun r_28 =>
        mm_best_j56 σ_6 x1 x2 r_28
      else
        mm_best_j56 σ_6 x1 x2 (w32 (0 - (σ_6 0 44)))
set_option maxHeartbeats 4000000 in
theorem bd_mm_best {x : kX} {l0 : Launch} {Q : State → Prop} (C : kCx x prog_14_method_101_code "PoetFinesModel" (some .int) kcl yM 7 l0 R0_mm_best) (σ : kM) (x1 : Int) (x2 : Int) {out : Int × kM} (h : mm_best σ x1 x2 = some out) (hR : ∀ (r : Int) (τ : kM), out = (r, τ) → Q = kQ x (some (ki r)) τ 0 0) : KW x 0 0 Q σ 0 [some (kr 0), some (ki x1), some (ki x2), none, none, none, none] [] := by
  unfold mm_best at h
  refine kw_aload_n C (kdec dc_M_best 0 rfl) rfl 1 rfl rfl ?_
  refine kw_iconst C (kdec dc_M_best 1 rfl) 2 rfl rfl ⟨by decide, by decide⟩ ?_
  obtain ⟨σ_1, eσ_1, h⟩ := klet_h h
  refine kw_putI C (kdec dc_M_best 2 rfl) 5 rfl fp_M_M_99_0 ?_
  refine kw_sig eσ_1 ?_
  refine kw_aload_n C (kdec dc_M_best 3 rfl) rfl 6 rfl rfl ?_
  refine kw_iload_n C (kdec dc_M_best 4 rfl) rfl 7 rfl rfl ?_
  refine kw_iconst C (kdec dc_M_best 5 rfl) 8 rfl rfl ⟨by decide, by decide⟩ ?_
  obtain ⟨⟨r_2, σ_3⟩, hg_32, h⟩ := kbind_h h
  dsimp only at h
  refine kw_callV (As := [ki x2, ki 1]) C (kdec dc_M_best 6 rfl) 11 rfl cv_M_376 rfl rfl (mt_mm_isWhat l0 hg_32) ⟨rfl, rfl⟩ ⟨Nat.le_of_ble_eq_true rfl, Nat.le_of_ble_eq_true rfl⟩ ⟨Nat.zero_le _, Nat.zero_le _⟩ rfl (Nat.le_of_ble_eq_true rfl) ?_
  change KW x 0 0 Q σ_3 11 [some (kr 0), some (ki x1), some (ki x2), none, none, none, none] [ki r_2]
  refine kw_if_eq C (kdec dc_M_best 7 rfl) 24 14 (by decide) rfl (fun hc11 => ?_) (fun hc11 => ?_)
  · rw [if_pos hc11] at h
    refine kw_iconst C (kdec dc_M_best 14 rfl) 25 rfl rfl ⟨by decide, by decide⟩ ?_
    obtain rfl := Option.some.inj h
    exact kw_Q (hR _ _ rfl) (kw_ireturn C (kdec dc_M_best 15 rfl))
  · rw [if_neg hc11] at h
    refine kw_aload_n C (kdec dc_M_best 8 rfl) rfl 15 rfl rfl ?_
    refine kw_iload_n C (kdec dc_M_best 9 rfl) rfl 16 rfl rfl ?_
    refine kw_iconst C (kdec dc_M_best 10 rfl) 17 rfl rfl ⟨by decide, by decide⟩ ?_
    refine kw_iconst C (kdec dc_M_best 11 rfl) 18 rfl rfl ⟨by decide, by decide⟩ ?_
    obtain ⟨⟨r_4, σ_5⟩, hg_31, h⟩ := kbind_h h
    dsimp only at h
    refine kw_callV (As := [ki x1, ki 1, ki 2]) C (kdec dc_M_best 12 rfl) 21 rfl cv_M_407 rfl rfl (mt_mm_isSoon l0 hg_31) ⟨rfl, rfl⟩ ⟨Nat.le_of_ble_eq_true rfl, Nat.le_of_ble_eq_true rfl⟩ ⟨Nat.zero_le _, Nat.zero_le _⟩ rfl (Nat.le_of_ble_eq_true rfl) ?_
    change KW x 0 0 Q σ_5 21 [some (kr 0), some (ki x1), some (ki x2), none, none, none, none] [ki r_4]
    refine kw_if_ne C (kdec dc_M_best 13 rfl) 26 24 (by decide) rfl (fun hc21 => ?_) (fun hc21 => ?_)
    · rw [if_neg hc21] at h
      refine kw_aload_n C (kdec dc_M_best 16 rfl) rfl 27 rfl rfl ?_
      refine kw_iload_n C (kdec dc_M_best 17 rfl) rfl 28 rfl rfl ?_
      obtain ⟨σ_6, hg_30, h⟩ := kbind_h h
      refine kw_callV (As := [ki x1]) C (kdec dc_M_best 18 rfl) 31 rfl cv_M_410 rfl rfl (mt_mm_goesTo l0 hg_30) ⟨rfl, rfl⟩ ⟨Nat.le_of_ble_eq_true rfl, Nat.le_of_ble_eq_true rfl⟩ ⟨Nat.zero_le _, Nat.zero_le _⟩ rfl (Nat.le_of_ble_eq_true rfl) ?_
      change KW x 0 0 Q σ_6 31 [some (kr 0), some (ki x1), some (ki x2), none, none, none, none] []
      refine kw_iload_n C (kdec dc_M_best 19 rfl) rfl 32 rfl rfl ?_
      refine kw_if_ne C (kdec dc_M_best 20 rfl) 50 35 (by decide) rfl (fun hc32 => ?_) (fun hc32 => ?_)
      · rw [if_neg hc32] at h
        refine kw_iconst C (kdec dc_M_best 28 rfl) 51 rfl rfl ⟨by decide, by decide⟩ ?_
        refine kw_aload_n C (kdec dc_M_best 29 rfl) rfl 52 rfl rfl ?_
        refine kw_getI C (kdec dc_M_best 30 rfl) 55 rfl fd_M_M_290_0 ?_
        refine kw_isub C (kdec dc_M_best 31 rfl) 56 rfl ?_
        exact bd_mm_best_j56 C σ_6 x1 x2 (w32 (0 - (σ_6 0 44))) h hR
      · rw [if_pos hc32] at h
        refine kw_aload_n C (kdec dc_M_best 21 rfl) rfl 36 rfl rfl ?_
        refine kw_sipush (v := 145) C (kdec dc_M_best 22 rfl) 39 rfl (by decide) ⟨by decide, by decide⟩ ?_
        refine kw_iconst C (kdec dc_M_best 23 rfl) 40 rfl rfl ⟨by decide, by decide⟩ ?_
        refine kw_aload_n C (kdec dc_M_best 24 rfl) rfl 41 rfl rfl ?_
        refine kw_getI C (kdec dc_M_best 25 rfl) 44 rfl fd_M_M_270_0 ?_
        obtain ⟨r_28, hg_29, h⟩ := kbind_h h
        refine kw_callV (As := [ki 145, ki 1, ki (σ_6 0 2)]) C (kdec dc_M_best 26 rfl) 47 rfl cv_M_358 rfl rfl (mt_mm_sumOf l0 hg_29) ⟨rfl, rfl⟩ ⟨Nat.le_of_ble_eq_true rfl, Nat.le_of_ble_eq_true rfl⟩ ⟨Nat.zero_le _, Nat.zero_le _⟩ rfl (Nat.le_of_ble_eq_true rfl) ?_
        change KW x 0 0 Q σ_6 47 [some (kr 0), some (ki x1), some (ki x2), none, none, none, none] [ki r_28]
        refine kw_goto C (kdec dc_M_best 27 rfl) 56 (by decide) ?_
        exact bd_mm_best_j56 C σ_6 x1 x2 r_28 h hR
    · rw [if_pos hc21] at h
      refine kw_iconst C (kdec dc_M_best 14 rfl) 25 rfl rfl ⟨by decide, by decide⟩ ?_
      obtain rfl := Option.some.inj h
      exact kw_Q (hR _ _ rfl) (kw_ireturn C (kdec dc_M_best 15 rfl))
theorem mt_mm_best (l0 : Launch) {σ : kM} {x1 : Int} {x2 : Int} {r : Int} {τ : kM} (h : mm_best σ x1 x2 = some (r, τ)) : kMet l0 ky_M_best prog_14_method_101_code 7 (some .int) R0_mm_best kcl yM σ [kr 0, ki x1, ki x2] (some (ki r)) τ := kMet.of' [some (kr 0), some (ki x1), some (ki x2), none, none, none, none] (by decide) (Nat.le_of_ble_eq_true rfl) ⟨rfl, rfl, rfl, trivial⟩ (fun x C => bd_mm_best C σ x1 x2 h (fun r τ e => by cases e; rfl))

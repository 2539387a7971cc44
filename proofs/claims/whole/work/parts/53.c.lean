def R0_pf_Rules_mentions_7 : Room := ({ frames := 0, cells := 0, slots := 0, locals := 0 } : Room)
def pf_Rules_mentions_7_l7 (σ : kM) (x1 : Int) (x2 : Int) (x3 : Int) : Option ((Int) ⊕ ((Unit) ⊕ (Unit))) :=
  kchk (0 ≤ x1 ∧ x1 < 3) <|
  if (σ 10 x1.toNat) ≤ x3 then
    some (Sum.inr (Sum.inr ()))
  else
    kchk (0 ≤ x3 ∧ x3 < 700) <|
    if (σ 8 x3.toNat) = (w32 (((-1)) - x2)) then
      some (Sum.inr (Sum.inl ()))
    else
      klet (w32 (x3 + 1)) fun x3_5 =>
      some (Sum.inl x3_5)
set_option maxHeartbeats 4000000 in
theorem bd_pf_Rules_mentions_7_l7 {x : kX} {l0 : Launch} {Q : State → Prop} (C : kCx x prog_7_method_5_code "PoetFines$Rules" (some .boolean) kcl yC 4 l0 R0_pf_Rules_mentions_7) (σ : kM) (x1 : Int) (x2 : Int) (x3 : Int) {out : (Int) ⊕ ((Unit) ⊕ (Unit))} (h : pf_Rules_mentions_7_l7 σ x1 x2 x3 = some out) (hC : ∀ (x3' : Int), out = Sum.inl x3' → KW x 0 0 Q σ 7 [some (kr 7), some (ki x1), some (ki x2), some (ki x3')] []) (hX29 : out = Sum.inr (Sum.inl ()) → KW x 0 0 Q σ 29 [none, none, none, none] []) (hX37 : out = Sum.inr (Sum.inr ()) → KW x 0 0 Q σ 37 [none, none, none, none] []) : KW x 0 0 Q σ 7 [some (kr 7), some (ki x1), some (ki x2), some (ki x3)] [] := by
  unfold pf_Rules_mentions_7_l7 at h
  refine kw_iload_n C (kdec dc_Rules_mentions 5 rfl) rfl 8 rfl rfl ?_
  refine kw_aload_n C (kdec dc_Rules_mentions 6 rfl) rfl 9 rfl rfl ?_
  refine kw_getR C (kdec dc_Rules_mentions 7 rfl) 12 rfl fd_C_Rules_22_7 ?_
  refine kw_iload_n C (kdec dc_Rules_mentions 8 rfl) rfl 13 rfl rfl ?_
  obtain ⟨hc_3, h⟩ := kchk_h h
  refine kw_iald C (kdec dc_Rules_mentions 9 rfl) 14 rfl rfl hc_3.1 hc_3.2 ?_
  refine kw_icmp_ge C (kdec dc_Rules_mentions 10 rfl) 37 17 (by decide) rfl (fun hc14 => ?_) (fun hc14 => ?_)
  · rw [if_pos hc14] at h
    obtain rfl := Option.some.inj h
    exact kw_sub (L' := [none, none, none, none]) trivial (hX37 rfl)
  · rw [if_neg hc14] at h
    refine kw_aload_n C (kdec dc_Rules_mentions 11 rfl) rfl 18 rfl rfl ?_
    refine kw_getR C (kdec dc_Rules_mentions 12 rfl) 21 rfl fd_C_Rules_11_7 ?_
    refine kw_iload_n C (kdec dc_Rules_mentions 13 rfl) rfl 22 rfl rfl ?_
    obtain ⟨hc_4, h⟩ := kchk_h h
    refine kw_iald C (kdec dc_Rules_mentions 14 rfl) 23 rfl rfl hc_4.1 hc_4.2 ?_
    refine kw_iconst C (kdec dc_Rules_mentions 15 rfl) 24 rfl rfl ⟨by decide, by decide⟩ ?_
    refine kw_iload_n C (kdec dc_Rules_mentions 16 rfl) rfl 25 rfl rfl ?_
    refine kw_isub C (kdec dc_Rules_mentions 17 rfl) 26 rfl ?_
    refine kw_icmp_ne C (kdec dc_Rules_mentions 18 rfl) 31 29 (by decide) rfl (fun hc26 => ?_) (fun hc26 => ?_)
    · rw [if_neg hc26] at h
      obtain ⟨x3_5, ex3_5, h⟩ := klet_h h
      refine kw_iinc (L' := [some (kr 7), some (ki x1), some (ki x2), some (ki x3_5)]) C (kdec dc_Rules_mentions 21 rfl) 34 rfl rfl (by decide) rfl (by rw [ex3_5]; rfl) ?_
      refine kw_goto C (kdec dc_Rules_mentions 22 rfl) 7 (by decide) ?_
      obtain rfl := Option.some.inj h
      exact (hC _ rfl)
    · rw [if_pos hc26] at h
      obtain rfl := Option.some.inj h
      exact kw_sub (L' := [none, none, none, none]) trivial (hX29 rfl)
theorem lp_pf_Rules_mentions_7_l7 {x : kX} {l0 : Launch} {Q : State → Prop} (C : kCx x prog_7_method_5_code "PoetFines$Rules" (some .boolean) kcl yC 4 l0 R0_pf_Rules_mentions_7) (σ : kM) (x1 : Int) (x2 : Int) {ex : (Unit) ⊕ (Unit)} (hX29 : ex = (Sum.inl ()) → KW x 0 0 Q σ 29 [none, none, none, none] []) (hX37 : ex = (Sum.inr ()) → KW x 0 0 Q σ 37 [none, none, none, none] []) (n : Nat) (x3 : Int) (h : kloop (fun st => pf_Rules_mentions_7_l7 σ x1 x2 st) n x3 = some ex) : KW x 0 0 Q σ 7 [some (kr 7), some (ki x1), some (ki x2), some (ki x3)] [] :=
  kloop_ind (P := (fun st : Int => KW x 0 0 Q σ 7 [some (kr 7), some (ki x1), some (ki x2), some (ki st)] [])) (fun st out hb hc hx => bd_pf_Rules_mentions_7_l7 C σ x1 x2 st hb (fun a0 e => hc _ e) (fun e => hX29 ((hx _ e).symm)) (fun e => hX37 ((hx _ e).symm))) n x3 h
def pf_Rules_mentions_7 (σ : kM) (x1 : Int) (x2 : Int) : Option (Int) :=
  kchk (0 ≤ x1 ∧ x1 < 3) <|
  klet (σ 9 x1.toNat) fun x3_2 =>
  (kloop (fun st => pf_Rules_mentions_7_l7 σ x1 x2 st) kFuel x3_2).bind fun ex_6 => match ex_6 with
    | (Sum.inl ()) =>
      some 1
    | (Sum.inr ()) =>
      some 0
set_option maxHeartbeats 4000000 in
theorem bd_pf_Rules_mentions_7 {x : kX} {l0 : Launch} {Q : State → Prop} (C : kCx x prog_7_method_5_code "PoetFines$Rules" (some .boolean) kcl yC 4 l0 R0_pf_Rules_mentions_7) (σ : kM) (x1 : Int) (x2 : Int) {out : Int} (h : pf_Rules_mentions_7 σ x1 x2 = some out) (hR : ∀ (r : Int), out = r → Q = kQ x (some (ki r)) σ 0 0) : KW x 0 0 Q σ 0 [some (kr 7), some (ki x1), some (ki x2), none] [] := by
  unfold pf_Rules_mentions_7 at h
  refine kw_aload_n C (kdec dc_Rules_mentions 0 rfl) rfl 1 rfl rfl ?_
  refine kw_getR C (kdec dc_Rules_mentions 1 rfl) 4 rfl fd_C_Rules_19_7 ?_
  refine kw_iload_n C (kdec dc_Rules_mentions 2 rfl) rfl 5 rfl rfl ?_
  obtain ⟨hc_1, h⟩ := kchk_h h
  refine kw_iald C (kdec dc_Rules_mentions 3 rfl) 6 rfl rfl hc_1.1 hc_1.2 ?_
  obtain ⟨x3_2, ex3_2, h⟩ := klet_h h
  refine kw_top ex3_2 ?_
  refine kw_istore_n (L' := [some (kr 7), some (ki x1), some (ki x2), some (ki x3_2)]) C (kdec dc_Rules_mentions 4 rfl) rfl 7 rfl (by decide) rfl rfl ?_
  obtain ⟨ex_6, hl_7, h⟩ := kbind_h h
  refine lp_pf_Rules_mentions_7_l7 C σ x1 x2 ?_ ?_ kFuel x3_2 hl_7
  · intro e
    subst ex_6
    try dsimp only at h
    refine kw_iconst C (kdec dc_Rules_mentions 19 rfl) 30 rfl rfl ⟨by decide, by decide⟩ ?_
    obtain rfl := Option.some.inj h
    exact kw_Q (hR _ rfl) (kw_zreturn C (kdec dc_Rules_mentions 20 rfl) (by decide))
  · intro e
    subst ex_6
    try dsimp only at h
    refine kw_iconst C (kdec dc_Rules_mentions 23 rfl) 38 rfl rfl ⟨by decide, by decide⟩ ?_
    obtain rfl := Option.some.inj h
    exact kw_Q (hR _ rfl) (kw_zreturn C (kdec dc_Rules_mentions 24 rfl) (by decide))
theorem mt_pf_Rules_mentions_7 (l0 : Launch) {σ : kM} {x1 : Int} {x2 : Int} {r : Int} (h : pf_Rules_mentions_7 σ x1 x2 = some r) : kMet l0 ky_Rules_mentions prog_7_method_5_code 4 (some .boolean) R0_pf_Rules_mentions_7 kcl yC σ [kr 7, ki x1, ki x2] (some (ki r)) σ := kMet.of' [some (kr 7), some (ki x1), some (ki x2), none] (by decide) (Nat.le_of_ble_eq_true rfl) ⟨rfl, rfl, rfl, trivial⟩ (fun x C => bd_pf_Rules_mentions_7 C σ x1 x2 h (fun r e => by subst e; rfl))
def R0_pf_Law_matters_3 : Room := ({ frames := 1, cells := 0, slots := 0, locals := 23 } : Room)
def pf_Law_matters_3_l37 (σ : kM) (x1 : Int) (x2 : Int) (x3 : Int) : Option ((Int) ⊕ ((Unit) ⊕ (Unit))) :=
  kchk (0 ≤ x2 ∧ x2 < 4) <|
  if (σ 4 x2.toNat) ≤ x3 then
    some (Sum.inr (Sum.inr ()))
  else
    (pf_Law_topicOf_3 σ x2 x3).bind fun r_3 =>
    if r_3 = x1 then
      some (Sum.inr (Sum.inl ()))
    else
      klet (w32 (x3 + 1)) fun x3_4 =>
      some (Sum.inl x3_4)
set_option maxHeartbeats 4000000 in
theorem bd_pf_Law_matters_3_l37 {x : kX} {l0 : Launch} {Q : State → Prop} (C : kCx x prog_4_method_10_code "PoetFines$Law" (some .boolean) kcl yC 4 l0 R0_pf_Law_matters_3) (σ : kM) (x1 : Int) (x2 : Int) (x3 : Int) {out : (Int) ⊕ ((Unit) ⊕ (Unit))} (h : pf_Law_matters_3_l37 σ x1 x2 x3 = some out) (hC : ∀ (x3' : Int), out = Sum.inl x3' → KW x 0 0 Q σ 37 [some (kr 3), some (ki x1), some (ki x2), some (ki x3')] []) (hX57 : out = Sum.inr (Sum.inl ()) → KW x 0 0 Q σ 57 [none, none, none, none] []) (hX65 : out = Sum.inr (Sum.inr ()) → KW x 0 0 Q σ 65 [some (kr 3), some (ki x1), some (ki x2), none] []) : KW x 0 0 Q σ 37 [some (kr 3), some (ki x1), some (ki x2), some (ki x3)] [] := by
  unfold pf_Law_matters_3_l37 at h
  refine kw_iload_n C (kdec dc_Law_matters 21 rfl) rfl 38 rfl rfl ?_
  refine kw_aload_n C (kdec dc_Law_matters 22 rfl) rfl 39 rfl rfl ?_
  refine kw_getR C (kdec dc_Law_matters 23 rfl) 42 rfl fd_C_Law_21_3 ?_
  refine kw_iload_n C (kdec dc_Law_matters 24 rfl) rfl 43 rfl rfl ?_
  obtain ⟨hc_2, h⟩ := kchk_h h
  refine kw_iald C (kdec dc_Law_matters 25 rfl) 44 rfl rfl hc_2.1 hc_2.2 ?_
  refine kw_icmp_ge C (kdec dc_Law_matters 26 rfl) 65 47 (by decide) rfl (fun hc44 => ?_) (fun hc44 => ?_)
  · rw [if_pos hc44] at h
    obtain rfl := Option.some.inj h
    exact kw_sub (L' := [some (kr 3), some (ki x1), some (ki x2), none]) ⟨rfl, rfl, rfl, trivial⟩ (hX65 rfl)
  · rw [if_neg hc44] at h
    refine kw_aload_n C (kdec dc_Law_matters 27 rfl) rfl 48 rfl rfl ?_
    refine kw_iload_n C (kdec dc_Law_matters 28 rfl) rfl 49 rfl rfl ?_
    refine kw_iload_n C (kdec dc_Law_matters 29 rfl) rfl 50 rfl rfl ?_
    obtain ⟨r_3, hg_5, h⟩ := kbind_h h
    refine kw_callV (As := [ki x2, ki x3]) C (kdec dc_Law_matters 30 rfl) 53 rfl cv_Law_57 rfl rfl (mt_pf_Law_topicOf_3 l0 hg_5) ⟨rfl, rfl⟩ ⟨Nat.le_of_ble_eq_true rfl, Nat.le_of_ble_eq_true rfl⟩ ⟨Nat.zero_le _, Nat.zero_le _⟩ rfl (Nat.le_of_ble_eq_true rfl) ?_
    change KW x 0 0 Q σ 53 [some (kr 3), some (ki x1), some (ki x2), some (ki x3)] [ki r_3]
    refine kw_iload_n C (kdec dc_Law_matters 31 rfl) rfl 54 rfl rfl ?_
    refine kw_icmp_ne C (kdec dc_Law_matters 32 rfl) 59 57 (by decide) rfl (fun hc54 => ?_) (fun hc54 => ?_)
    · rw [if_neg hc54] at h
      obtain ⟨x3_4, ex3_4, h⟩ := klet_h h
      refine kw_iinc (L' := [some (kr 3), some (ki x1), some (ki x2), some (ki x3_4)]) C (kdec dc_Law_matters 35 rfl) 62 rfl rfl (by decide) rfl (by rw [ex3_4]; rfl) ?_
      refine kw_goto C (kdec dc_Law_matters 36 rfl) 37 (by decide) ?_
      obtain rfl := Option.some.inj h
      exact (hC _ rfl)
    · rw [if_pos hc54] at h
      obtain rfl := Option.some.inj h
      exact kw_sub (L' := [none, none, none, none]) trivial (hX57 rfl)
theorem lp_pf_Law_matters_3_l37 {x : kX} {l0 : Launch} {Q : State → Prop} (C : kCx x prog_4_method_10_code "PoetFines$Law" (some .boolean) kcl yC 4 l0 R0_pf_Law_matters_3) (σ : kM) (x1 : Int) (x2 : Int) {ex : (Unit) ⊕ (Unit)} (hX57 : ex = (Sum.inl ()) → KW x 0 0 Q σ 57 [none, none, none, none] []) (hX65 : ex = (Sum.inr ()) → KW x 0 0 Q σ 65 [some (kr 3), some (ki x1), some (ki x2), none] []) (n : Nat) (x3 : Int) (h : kloop (fun st => pf_Law_matters_3_l37 σ x1 x2 st) n x3 = some ex) : KW x 0 0 Q σ 37 [some (kr 3), some (ki x1), some (ki x2), some (ki x3)] [] :=
  kloop_ind (P := (fun st : Int => KW x 0 0 Q σ 37 [some (kr 3), some (ki x1), some (ki x2), some (ki st)] [])) (fun st out hb hc hx => bd_pf_Law_matters_3_l37 C σ x1 x2 st hb (fun a0 e => hc _ e) (fun e => hX57 ((hx _ e).symm)) (fun e => hX65 ((hx _ e).symm))) n x3 h
def pf_Law_matters_3_l27 (σ : kM) (x1 : Int) (x2 : Int) : Option ((Int) ⊕ ((Unit) ⊕ (Unit))) :=
  if (σ 3 2) ≤ x2 then
    some (Sum.inr (Sum.inr ()))
  else
    (kloop (fun st => pf_Law_matters_3_l37 σ x1 x2 st) kFuel 0).bind fun ex_6 => match ex_6 with
      | (Sum.inl ()) =>
        some (Sum.inr (Sum.inl ()))
      | (Sum.inr ()) =>
        klet (w32 (x2 + 1)) fun x2_8 =>
        some (Sum.inl x2_8)
set_option maxHeartbeats 4000000 in
theorem bd_pf_Law_matters_3_l27 {x : kX} {l0 : Launch} {Q : State → Prop} (C : kCx x prog_4_method_10_code "PoetFines$Law" (some .boolean) kcl yC 4 l0 R0_pf_Law_matters_3) (σ : kM) (x1 : Int) (x2 : Int) {out : (Int) ⊕ ((Unit) ⊕ (Unit))} (h : pf_Law_matters_3_l27 σ x1 x2 = some out) (hC : ∀ (x2' : Int), out = Sum.inl x2' → KW x 0 0 Q σ 27 [some (kr 3), some (ki x1), some (ki x2'), none] []) (hX57 : out = Sum.inr (Sum.inl ()) → KW x 0 0 Q σ 57 [none, none, none, none] []) (hX71 : out = Sum.inr (Sum.inr ()) → KW x 0 0 Q σ 71 [none, none, none, none] []) : KW x 0 0 Q σ 27 [some (kr 3), some (ki x1), some (ki x2), none] [] := by
  unfold pf_Law_matters_3_l27 at h
  refine kw_iload_n C (kdec dc_Law_matters 15 rfl) rfl 28 rfl rfl ?_
  refine kw_aload_n C (kdec dc_Law_matters 16 rfl) rfl 29 rfl rfl ?_
  refine kw_getI C (kdec dc_Law_matters 17 rfl) 32 rfl fd_C_Law_18_3 ?_
  refine kw_icmp_ge C (kdec dc_Law_matters 18 rfl) 71 35 (by decide) rfl (fun hc32 => ?_) (fun hc32 => ?_)
  · rw [if_pos hc32] at h
    obtain rfl := Option.some.inj h
    exact kw_sub (L' := [none, none, none, none]) trivial (hX71 rfl)
  · rw [if_neg hc32] at h
    refine kw_iconst C (kdec dc_Law_matters 19 rfl) 36 rfl rfl ⟨by decide, by decide⟩ ?_
    refine kw_istore_n (L' := [some (kr 3), some (ki x1), some (ki x2), some (ki 0)]) C (kdec dc_Law_matters 20 rfl) rfl 37 rfl (by decide) rfl rfl ?_
    obtain ⟨ex_6, hl_7, h⟩ := kbind_h h
    refine lp_pf_Law_matters_3_l37 C σ x1 x2 ?_ ?_ kFuel 0 hl_7
    · intro e
      subst ex_6
      try dsimp only at h
      obtain rfl := Option.some.inj h
      exact (hX57 rfl)
    · intro e
      subst ex_6
      try dsimp only at h
      obtain ⟨x2_8, ex2_8, h⟩ := klet_h h
      refine kw_iinc (L' := [some (kr 3), some (ki x1), some (ki x2_8), none]) C (kdec dc_Law_matters 37 rfl) 68 rfl rfl (by decide) rfl (by rw [ex2_8]; rfl) ?_
      refine kw_goto C (kdec dc_Law_matters 38 rfl) 27 (by decide) ?_
      obtain rfl := Option.some.inj h
      exact (hC _ rfl)
theorem lp_pf_Law_matters_3_l27 {x : kX} {l0 : Launch} {Q : State → Prop} (C : kCx x prog_4_method_10_code "PoetFines$Law" (some .boolean) kcl yC 4 l0 R0_pf_Law_matters_3) (σ : kM) (x1 : Int) {ex : (Unit) ⊕ (Unit)} (hX57 : ex = (Sum.inl ()) → KW x 0 0 Q σ 57 [none, none, none, none] []) (hX71 : ex = (Sum.inr ()) → KW x 0 0 Q σ 71 [none, none, none, none] []) (n : Nat) (x2 : Int) (h : kloop (fun st => pf_Law_matters_3_l27 σ x1 st) n x2 = some ex) : KW x 0 0 Q σ 27 [some (kr 3), some (ki x1), some (ki x2), none] [] :=
  kloop_ind (P := (fun st : Int => KW x 0 0 Q σ 27 [some (kr 3), some (ki x1), some (ki st), none] [])) (fun st out hb hc hx => bd_pf_Law_matters_3_l27 C σ x1 st hb (fun a0 e => hc _ e) (fun e => hX57 ((hx _ e).symm)) (fun e => hX71 ((hx _ e).symm))) n x2 h
def pf_Law_matters_3_j25 (σ : kM) (x1 : Int) : Option (Int) :=
  (kloop (fun st => pf_Law_matters_3_l27 σ x1 st) kFuel 0).bind fun ex_9 => match ex_9 with
    | (Sum.inl ()) =>
      some 1
    | (Sum.inr ()) =>
      some 0
set_option maxHeartbeats 4000000 in
theorem bd_pf_Law_matters_3_j25 {x : kX} {l0 : Launch} {Q : State → Prop} (C : kCx x prog_4_method_10_code "PoetFines$Law" (some .boolean) kcl yC 4 l0 R0_pf_Law_matters_3) (σ : kM) (x1 : Int) {out : Int} (h : pf_Law_matters_3_j25 σ x1 = some out) (hR : ∀ (r : Int), out = r → Q = kQ x (some (ki r)) σ 0 0) : KW x 0 0 Q σ 25 [some (kr 3), some (ki x1), none, none] [] := by
  unfold pf_Law_matters_3_j25 at h
  refine kw_iconst C (kdec dc_Law_matters 13 rfl) 26 rfl rfl ⟨by decide, by decide⟩ ?_
  refine kw_istore_n (L' := [some (kr 3), some (ki x1), some (ki 0), none]) C (kdec dc_Law_matters 14 rfl) rfl 27 rfl (by decide) rfl rfl ?_
  obtain ⟨ex_9, hl_10, h⟩ := kbind_h h
  refine lp_pf_Law_matters_3_l27 C σ x1 ?_ ?_ kFuel 0 hl_10
  · intro e
    subst ex_9
    try dsimp only at h
    refine kw_iconst C (kdec dc_Law_matters 33 rfl) 58 rfl rfl ⟨by decide, by decide⟩ ?_
    obtain rfl := Option.some.inj h
    exact kw_Q (hR _ rfl) (kw_zreturn C (kdec dc_Law_matters 34 rfl) (by decide))
  · intro e
    subst ex_9
    try dsimp only at h
    refine kw_iconst C (kdec dc_Law_matters 39 rfl) 72 rfl rfl ⟨by decide, by decide⟩ ?_
    obtain rfl := Option.some.inj h
    exact kw_Q (hR _ rfl) (kw_zreturn C (kdec dc_Law_matters 40 rfl) (by decide))
def pf_Law_matters_3 (σ : kM) (x1 : Int) : Option (Int) :=
  (pf_Rules_has_7 σ 0).bind fun r_1 =>
  if r_1 = 0 then
    pf_Law_matters_3_j25 σ x1
  else
    (pf_Rules_mentions_7 σ 0 5).bind fun r_11 =>
    if r_11 = 0 then
      some 0
    else
      pf_Law_matters_3_j25 σ x1
set_option maxHeartbeats 4000000 in
theorem bd_pf_Law_matters_3 {x : kX} {l0 : Launch} {Q : State → Prop} (C : kCx x prog_4_method_10_code "PoetFines$Law" (some .boolean) kcl yC 4 l0 R0_pf_Law_matters_3) (σ : kM) (x1 : Int) {out : Int} (h : pf_Law_matters_3 σ x1 = some out) (hR : ∀ (r : Int), out = r → Q = kQ x (some (ki r)) σ 0 0) : KW x 0 0 Q σ 0 [some (kr 3), some (ki x1), none, none] [] := by
  unfold pf_Law_matters_3 at h
  refine kw_aload_n C (kdec dc_Law_matters 0 rfl) rfl 1 rfl rfl ?_
  refine kw_getR C (kdec dc_Law_matters 1 rfl) 4 rfl fd_C_Law_34_3 ?_
  refine kw_iconst C (kdec dc_Law_matters 2 rfl) 5 rfl rfl ⟨by decide, by decide⟩ ?_
  obtain ⟨r_1, hg_13, h⟩ := kbind_h h
  refine kw_callV (As := [ki 0]) C (kdec dc_Law_matters 3 rfl) 8 rfl cv_Law_60 rfl rfl (mt_pf_Rules_has_7 l0 hg_13) ⟨rfl, rfl⟩ ⟨Nat.le_of_ble_eq_true rfl, Nat.le_of_ble_eq_true rfl⟩ ⟨Nat.zero_le _, Nat.zero_le _⟩ rfl (Nat.le_of_ble_eq_true rfl) ?_
  change KW x 0 0 Q σ 8 [some (kr 3), some (ki x1), none, none] [ki r_1]
  refine kw_if_eq C (kdec dc_Law_matters 4 rfl) 25 11 (by decide) rfl (fun hc8 => ?_) (fun hc8 => ?_)
  · rw [if_pos hc8] at h
    exact bd_pf_Law_matters_3_j25 C σ x1 h hR
  · rw [if_neg hc8] at h
    refine kw_aload_n C (kdec dc_Law_matters 5 rfl) rfl 12 rfl rfl ?_
    refine kw_getR C (kdec dc_Law_matters 6 rfl) 15 rfl fd_C_Law_34_3 ?_
    refine kw_iconst C (kdec dc_Law_matters 7 rfl) 16 rfl rfl ⟨by decide, by decide⟩ ?_
    refine kw_iconst C (kdec dc_Law_matters 8 rfl) 17 rfl rfl ⟨by decide, by decide⟩ ?_
    obtain ⟨r_11, hg_12, h⟩ := kbind_h h
    refine kw_callV (As := [ki 0, ki 5]) C (kdec dc_Law_matters 9 rfl) 20 rfl cv_Law_64 rfl rfl (mt_pf_Rules_mentions_7 l0 hg_12) ⟨rfl, rfl⟩ ⟨Nat.le_of_ble_eq_true rfl, Nat.le_of_ble_eq_true rfl⟩ ⟨Nat.zero_le _, Nat.zero_le _⟩ rfl (Nat.le_of_ble_eq_true rfl) ?_
    change KW x 0 0 Q σ 20 [some (kr 3), some (ki x1), none, none] [ki r_11]
    refine kw_if_ne C (kdec dc_Law_matters 10 rfl) 25 23 (by decide) rfl (fun hc20 => ?_) (fun hc20 => ?_)
    · rw [if_neg hc20] at h
      exact bd_pf_Law_matters_3_j25 C σ x1 h hR
    · rw [if_pos hc20] at h
      refine kw_iconst C (kdec dc_Law_matters 11 rfl) 24 rfl rfl ⟨by decide, by decide⟩ ?_
      obtain rfl := Option.some.inj h
      exact kw_Q (hR _ rfl) (kw_zreturn C (kdec dc_Law_matters 12 rfl) (by decide))
theorem mt_pf_Law_matters_3 (l0 : Launch) {σ : kM} {x1 : Int} {r : Int} (h : pf_Law_matters_3 σ x1 = some r) : kMet l0 ky_Law_matters prog_4_method_10_code 4 (some .boolean) R0_pf_Law_matters_3 kcl yC σ [kr 3, ki x1] (some (ki r)) σ := kMet.of' [some (kr 3), some (ki x1), none, none] (by decide) (Nat.le_of_ble_eq_true rfl) ⟨rfl, rfl, trivial⟩ (fun x C => bd_pf_Law_matters_3 C σ x1 h (fun r e => by subst e; rfl))
def R0_pf_Oracle_tryTruths_57 : Room := ({ frames := 6, cells := 0, slots := 0, locals := 145 } : Room)
def pf_Oracle_tryTruths_57_l12 (σ : kM) (x1 : Int) (x2 : Int) : Option ((kM × Int) ⊕ ((kM))) :=
  if 16 ≤ x2 then
    some (Sum.inr σ)
  else
    kchk (0 ≤ x2 ∧ x2 < 16) <|
    klet (kst σ 61 (kup (σ 61) x2.toNat 0)) fun σ_4 =>
    klet (w32 (x2 + 1)) fun x2_5 =>
    some (Sum.inl (σ_4, x2_5))
set_option maxHeartbeats 4000000 in
theorem bd_pf_Oracle_tryTruths_57_l12 {x : kX} {l0 : Launch} {Q : State → Prop} (C : kCx x prog_5_method_10_code "PoetFines$Oracle" none kcl yC 8 l0 R0_pf_Oracle_tryTruths_57) (σ : kM) (x1 : Int) (x2 : Int) {out : (kM × Int) ⊕ ((kM))} (h : pf_Oracle_tryTruths_57_l12 σ x1 x2 = some out) (hC : ∀ (σ' : kM) (x2' : Int), out = Sum.inl (σ', x2') → KW x 0 0 Q σ' 12 [some (kr 57), some (ki x1), some (ki x2'), none, none, none, none, none] []) (hX34 : ∀ (σ' : kM), out = Sum.inr σ' → KW x 0 0 Q σ' 34 [some (kr 57), some (ki x1), none, none, none, none, none, none] []) : KW x 0 0 Q σ 12 [some (kr 57), some (ki x1), some (ki x2), none, none, none, none, none] [] := by
  unfold pf_Oracle_tryTruths_57_l12 at h
  refine kw_iload_n C (kdec dc_Oracle_tryTruths 8 rfl) rfl 13 rfl rfl ?_
  refine kw_aload_n C (kdec dc_Oracle_tryTruths 9 rfl) rfl 14 rfl rfl ?_
  refine kw_getR C (kdec dc_Oracle_tryTruths 10 rfl) 17 rfl fd_C_Oracle_29_57 ?_
  refine kw_alen (v := 16) C (kdec dc_Oracle_tryTruths 11 rfl) 18 rfl rfl (by decide) rfl ⟨by decide, by decide⟩ ?_
  refine kw_icmp_ge C (kdec dc_Oracle_tryTruths 12 rfl) 34 21 (by decide) rfl (fun hc18 => ?_) (fun hc18 => ?_)
  · rw [if_pos hc18] at h
    obtain rfl := Option.some.inj h
    exact kw_sub (L' := [some (kr 57), some (ki x1), none, none, none, none, none, none]) ⟨rfl, rfl, trivial⟩ (hX34 _ rfl)
  · rw [if_neg hc18] at h
    refine kw_aload_n C (kdec dc_Oracle_tryTruths 13 rfl) rfl 22 rfl rfl ?_
    refine kw_getR C (kdec dc_Oracle_tryTruths 14 rfl) 25 rfl fd_C_Oracle_29_57 ?_
    refine kw_iload_n C (kdec dc_Oracle_tryTruths 15 rfl) rfl 26 rfl rfl ?_
    refine kw_lconst (v := 0) C (kdec dc_Oracle_tryTruths 16 rfl) 27 rfl rfl ⟨by decide, by decide⟩ ?_
    obtain ⟨hc_3, h⟩ := kchk_h h
    obtain ⟨σ_4, eσ_4, h⟩ := klet_h h
    refine kw_last C (kdec dc_Oracle_tryTruths 17 rfl) 28 rfl rfl hc_3.1 hc_3.2 ?_
    refine kw_sig eσ_4 ?_
    obtain ⟨x2_5, ex2_5, h⟩ := klet_h h
    refine kw_iinc (L' := [some (kr 57), some (ki x1), some (ki x2_5), none, none, none, none, none]) C (kdec dc_Oracle_tryTruths 18 rfl) 31 rfl rfl (by decide) rfl (by rw [ex2_5]; rfl) ?_
    refine kw_goto C (kdec dc_Oracle_tryTruths 19 rfl) 12 (by decide) ?_
    obtain rfl := Option.some.inj h
    exact (hC _ _ rfl)
theorem lp_pf_Oracle_tryTruths_57_l12 {x : kX} {l0 : Launch} {Q : State → Prop} (C : kCx x prog_5_method_10_code "PoetFines$Oracle" none kcl yC 8 l0 R0_pf_Oracle_tryTruths_57) (x1 : Int) {ex : (kM)} (hX34 : ∀ (σ' : kM), ex = σ' → KW x 0 0 Q σ' 34 [some (kr 57), some (ki x1), none, none, none, none, none, none] []) (n : Nat) (σ : kM) (x2 : Int) (h : kloop (fun st => pf_Oracle_tryTruths_57_l12 st.1 x1 st.2) n (σ, x2) = some ex) : KW x 0 0 Q σ 12 [some (kr 57), some (ki x1), some (ki x2), none, none, none, none, none] [] :=
  kloop_ind (P := (fun st : kM × Int => KW x 0 0 Q st.1 12 [some (kr 57), some (ki x1), some (ki (st.2)), none, none, none, none, none] [])) (fun st out hb hc hx => bd_pf_Oracle_tryTruths_57_l12 C st.1 x1 st.2 hb (fun a0 a1 e => hc _ e) (fun a0 e => hX34 _ ((hx _ e).symm))) n (σ, x2) h
def pf_Oracle_tryTruths_57_l80_j155 (σ : kM) (x1 : Int) (x2 : Int) (x3 : Int) (x4 : Int) (x5 : Int) (x6 : Int) (x7 : Int) : Option ((kM × Int × Int × Int) ⊕ ((kM))) :=
  klet (w32 (x7 + 1)) fun x7_10 =>
  some (Sum.inl (σ, x5, x6, x7_10))
set_option maxHeartbeats 4000000 in
theorem bd_pf_Oracle_tryTruths_57_l80_j155 {x : kX} {l0 : Launch} {Q : State → Prop} (C : kCx x prog_5_method_10_code "PoetFines$Oracle" none kcl yC 8 l0 R0_pf_Oracle_tryTruths_57) (σ : kM) (x1 : Int) (x2 : Int) (x3 : Int) (x4 : Int) (x5 : Int) (x6 : Int) (x7 : Int) {out : (kM × Int × Int × Int) ⊕ ((kM))} (h : pf_Oracle_tryTruths_57_l80_j155 σ x1 x2 x3 x4 x5 x6 x7 = some out) (hC : ∀ (σ' : kM) (x5' : Int) (x6' : Int) (x7' : Int), out = Sum.inl (σ', x5', x6', x7') → KW x 0 0 Q σ' 80 [some (kr 57), some (ki x1), some (ki x2), some (ki x3), some (ki x4), some (ki x5'), some (ki x6'), some (ki x7')] []) (hX161 : ∀ (σ' : kM), out = Sum.inr σ' → KW x 0 0 Q σ' 161 [some (kr 57), some (ki x1), some (ki x2), some (ki x3), some (ki x4), none, none, none] []) : KW x 0 0 Q σ 155 [some (kr 57), some (ki x1), some (ki x2), some (ki x3), some (ki x4), some (ki x5), some (ki x6), some (ki x7)] [] := by
  unfold pf_Oracle_tryTruths_57_l80_j155 at h
  obtain ⟨x7_10, ex7_10, h⟩ := klet_h h
  refine kw_iinc (L' := [some (kr 57), some (ki x1), some (ki x2), some (ki x3), some (ki x4), some (ki x5), some (ki x6), some (ki x7_10)]) C (kdec dc_Oracle_tryTruths 85 rfl) 158 rfl rfl (by decide) rfl (by rw [ex7_10]; rfl) ?_
  refine kw_goto C (kdec dc_Oracle_tryTruths 86 rfl) 80 (by decide) ?_
  obtain rfl := Option.some.inj h
  exact (hC _ _ _ _ rfl)
def pf_Oracle_tryTruths_57_l80_j130 (σ : kM) (x1 : Int) (x2 : Int) (x3 : Int) (x4 : Int) (x5 : Int) (x6 : Int) (x7 : Int) : Option ((kM × Int × Int × Int) ⊕ ((kM))) :=
  if x6 = 0 then
    pf_Oracle_tryTruths_57_l80_j155 σ x1 x2 x3 x4 x5 x6 x7
  else
    (pf_Oracle_addFound_57 σ (w32 ((w32 ((w32 (x2 * 100)) + (w32 (x3 * 10)))) + x7))).bind fun σ_11 =>
    (pf_Oracle_seeScars_57 σ_11).bind fun σ_12 =>
    pf_Oracle_tryTruths_57_l80_j155 σ_12 x1 x2 x3 x4 x5 x6 x7
set_option maxHeartbeats 4000000 in
theorem bd_pf_Oracle_tryTruths_57_l80_j130 {x : kX} {l0 : Launch} {Q : State → Prop} (C : kCx x prog_5_method_10_code "PoetFines$Oracle" none kcl yC 8 l0 R0_pf_Oracle_tryTruths_57) (σ : kM) (x1 : Int) (x2 : Int) (x3 : Int) (x4 : Int) (x5 : Int) (x6 : Int) (x7 : Int) {out : (kM × Int × Int × Int) ⊕ ((kM))} (h : pf_Oracle_tryTruths_57_l80_j130 σ x1 x2 x3 x4 x5 x6 x7 = some out) (hC : ∀ (σ' : kM) (x5' : Int) (x6' : Int) (x7' : Int), out = Sum.inl (σ', x5', x6', x7') → KW x 0 0 Q σ' 80 [some (kr 57), some (ki x1), some (ki x2), some (ki x3), some (ki x4), some (ki x5'), some (ki x6'), some (ki x7')] []) (hX161 : ∀ (σ' : kM), out = Sum.inr σ' → KW x 0 0 Q σ' 161 [some (kr 57), some (ki x1), some (ki x2), some (ki x3), some (ki x4), none, none, none] []) : KW x 0 0 Q σ 130 [some (kr 57), some (ki x1), some (ki x2), some (ki x3), some (ki x4), some (ki x5), some (ki x6), some (ki x7)] [] := by
  unfold pf_Oracle_tryTruths_57_l80_j130 at h
  refine kw_iload C (kdec dc_Oracle_tryTruths 70 rfl) 132 rfl rfl ?_
  refine kw_if_eq C (kdec dc_Oracle_tryTruths 71 rfl) 155 135 (by decide) rfl (fun hc132 => ?_) (fun hc132 => ?_)
  · rw [if_pos hc132] at h
    exact bd_pf_Oracle_tryTruths_57_l80_j155 C σ x1 x2 x3 x4 x5 x6 x7 h hC hX161
  · rw [if_neg hc132] at h
    refine kw_aload_n C (kdec dc_Oracle_tryTruths 72 rfl) rfl 136 rfl rfl ?_
    refine kw_iload_n C (kdec dc_Oracle_tryTruths 73 rfl) rfl 137 rfl rfl ?_
    refine kw_bipush (v := 100) C (kdec dc_Oracle_tryTruths 74 rfl) 139 rfl (by decide) ⟨by decide, by decide⟩ ?_
    refine kw_imul C (kdec dc_Oracle_tryTruths 75 rfl) 140 rfl ?_
    refine kw_iload_n C (kdec dc_Oracle_tryTruths 76 rfl) rfl 141 rfl rfl ?_
    refine kw_bipush (v := 10) C (kdec dc_Oracle_tryTruths 77 rfl) 143 rfl (by decide) ⟨by decide, by decide⟩ ?_
    refine kw_imul C (kdec dc_Oracle_tryTruths 78 rfl) 144 rfl ?_
    refine kw_iadd C (kdec dc_Oracle_tryTruths 79 rfl) 145 rfl ?_
    refine kw_iload C (kdec dc_Oracle_tryTruths 80 rfl) 147 rfl rfl ?_
    refine kw_iadd C (kdec dc_Oracle_tryTruths 81 rfl) 148 rfl ?_
    obtain ⟨σ_11, hg_14, h⟩ := kbind_h h
    refine kw_callV (As := [ki (w32 ((w32 ((w32 (x2 * 100)) + (w32 (x3 * 10)))) + x7))]) C (kdec dc_Oracle_tryTruths 82 rfl) 151 rfl cv_Oracle_142 rfl rfl (mt_pf_Oracle_addFound_57 l0 hg_14) ⟨rfl, rfl⟩ ⟨Nat.le_of_ble_eq_true rfl, Nat.le_of_ble_eq_true rfl⟩ ⟨Nat.zero_le _, Nat.zero_le _⟩ rfl (Nat.le_of_ble_eq_true rfl) ?_
    change KW x 0 0 Q σ_11 151 [some (kr 57), some (ki x1), some (ki x2), some (ki x3), some (ki x4), some (ki x5), some (ki x6), some (ki x7)] []
    refine kw_aload_n C (kdec dc_Oracle_tryTruths 83 rfl) rfl 152 rfl rfl ?_
    obtain ⟨σ_12, hg_13, h⟩ := kbind_h h
    refine kw_callV (As := []) C (kdec dc_Oracle_tryTruths 84 rfl) 155 rfl cv_Oracle_145 rfl rfl (mt_pf_Oracle_seeScars_57 l0 hg_13) ⟨rfl, rfl⟩ ⟨Nat.le_of_ble_eq_true rfl, Nat.le_of_ble_eq_true rfl⟩ ⟨Nat.zero_le _, Nat.zero_le _⟩ rfl (Nat.le_of_ble_eq_true rfl) ?_
    change KW x 0 0 Q σ_12 155 [some (kr 57), some (ki x1), some (ki x2), some (ki x3), some (ki x4), some (ki x5), some (ki x6), some (ki x7)] []
    exact bd_pf_Oracle_tryTruths_57_l80_j155 C σ_12 x1 x2 x3 x4 x5 x6 x7 h hC hX161
def pf_Oracle_tryTruths_57_l80 (σ : kM) (x1 : Int) (x2 : Int) (x3 : Int) (x4 : Int) (x5 : Int) (x6 : Int) (x7 : Int) : Option ((kM × Int × Int × Int) ⊕ ((kM))) :=
  if 9 < x7 then
    some (Sum.inr σ)
  else
    if x7 = x4 then
      pf_Oracle_tryTruths_57_l80_j155 σ x1 x2 x3 x4 x5 x6 x7
    else
      if x5 = 0 then
        pf_Oracle_tryTruths_57_l80_j130 σ x1 x2 x3 x4 x5 x6 x7
      else
        (pf_Law_suppose_3 σ x2 x3 x7).bind fun σ_15 =>
        (pf_Oracle_allFelt_57 σ_15 x1).bind fun (r_16, σ_17) =>
        (pf_Law_matters_3 σ_17 x3).bind fun r_18 =>
        pf_Oracle_tryTruths_57_l80_j130 σ_17 x1 x2 x3 x4 r_18 r_16 x7
set_option maxHeartbeats 4000000 in
theorem bd_pf_Oracle_tryTruths_57_l80 {x : kX} {l0 : Launch} {Q : State → Prop} (C : kCx x prog_5_method_10_code "PoetFines$Oracle" none kcl yC 8 l0 R0_pf_Oracle_tryTruths_57) (σ : kM) (x1 : Int) (x2 : Int) (x3 : Int) (x4 : Int) (x5 : Int) (x6 : Int) (x7 : Int) {out : (kM × Int × Int × Int) ⊕ ((kM))} (h : pf_Oracle_tryTruths_57_l80 σ x1 x2 x3 x4 x5 x6 x7 = some out) (hC : ∀ (σ' : kM) (x5' : Int) (x6' : Int) (x7' : Int), out = Sum.inl (σ', x5', x6', x7') → KW x 0 0 Q σ' 80 [some (kr 57), some (ki x1), some (ki x2), some (ki x3), some (ki x4), some (ki x5'), some (ki x6'), some (ki x7')] []) (hX161 : ∀ (σ' : kM), out = Sum.inr σ' → KW x 0 0 Q σ' 161 [some (kr 57), some (ki x1), some (ki x2), some (ki x3), some (ki x4), none, none, none] []) : KW x 0 0 Q σ 80 [some (kr 57), some (ki x1), some (ki x2), some (ki x3), some (ki x4), some (ki x5), some (ki x6), some (ki x7)] [] := by
  unfold pf_Oracle_tryTruths_57_l80 at h
  refine kw_iload C (kdec dc_Oracle_tryTruths 46 rfl) 82 rfl rfl ?_
  refine kw_bipush (v := 9) C (kdec dc_Oracle_tryTruths 47 rfl) 84 rfl (by decide) ⟨by decide, by decide⟩ ?_
  refine kw_icmp_gt C (kdec dc_Oracle_tryTruths 48 rfl) 161 87 (by decide) rfl (fun hc84 => ?_) (fun hc84 => ?_)
  · rw [if_pos hc84] at h
    obtain rfl := Option.some.inj h
    exact kw_sub (L' := [some (kr 57), some (ki x1), some (ki x2), some (ki x3), some (ki x4), none, none, none]) ⟨rfl, rfl, rfl, rfl, rfl, trivial⟩ (hX161 _ rfl)
  · rw [if_neg hc84] at h
    refine kw_iload C (kdec dc_Oracle_tryTruths 49 rfl) 89 rfl rfl ?_
    refine kw_iload C (kdec dc_Oracle_tryTruths 50 rfl) 91 rfl rfl ?_
    refine kw_icmp_ne C (kdec dc_Oracle_tryTruths 51 rfl) 97 94 (by decide) rfl (fun hc91 => ?_) (fun hc91 => ?_)
    · rw [if_neg hc91] at h
      refine kw_iload C (kdec dc_Oracle_tryTruths 53 rfl) 99 rfl rfl ?_
      refine kw_if_eq C (kdec dc_Oracle_tryTruths 54 rfl) 130 102 (by decide) rfl (fun hc99 => ?_) (fun hc99 => ?_)
      · rw [if_pos hc99] at h
        exact bd_pf_Oracle_tryTruths_57_l80_j130 C σ x1 x2 x3 x4 x5 x6 x7 h hC hX161
      · rw [if_neg hc99] at h
        refine kw_aload_n C (kdec dc_Oracle_tryTruths 55 rfl) rfl 103 rfl rfl ?_
        refine kw_getR C (kdec dc_Oracle_tryTruths 56 rfl) 106 rfl fd_C_Oracle_42_57 ?_
        refine kw_iload_n C (kdec dc_Oracle_tryTruths 57 rfl) rfl 107 rfl rfl ?_
        refine kw_iload_n C (kdec dc_Oracle_tryTruths 58 rfl) rfl 108 rfl rfl ?_
        refine kw_iload C (kdec dc_Oracle_tryTruths 59 rfl) 110 rfl rfl ?_
        obtain ⟨σ_15, hg_21, h⟩ := kbind_h h
        refine kw_callV (As := [ki x2, ki x3, ki x7]) C (kdec dc_Oracle_tryTruths 60 rfl) 113 rfl cv_Oracle_131 rfl rfl (mt_pf_Law_suppose_3 l0 hg_21) ⟨rfl, rfl⟩ ⟨Nat.le_of_ble_eq_true rfl, Nat.le_of_ble_eq_true rfl⟩ ⟨Nat.zero_le _, Nat.zero_le _⟩ rfl (Nat.le_of_ble_eq_true rfl) ?_
        change KW x 0 0 Q σ_15 113 [some (kr 57), some (ki x1), some (ki x2), some (ki x3), some (ki x4), some (ki x5), some (ki x6), some (ki x7)] []
        refine kw_aload_n C (kdec dc_Oracle_tryTruths 61 rfl) rfl 114 rfl rfl ?_
        refine kw_iload_n C (kdec dc_Oracle_tryTruths 62 rfl) rfl 115 rfl rfl ?_
        obtain ⟨⟨r_16, σ_17⟩, hg_20, h⟩ := kbind_h h
        dsimp only at h
        refine kw_callV (As := [ki x1]) C (kdec dc_Oracle_tryTruths 63 rfl) 118 rfl cv_Oracle_135 rfl rfl (mt_pf_Oracle_allFelt_57 l0 hg_20) ⟨rfl, rfl⟩ ⟨Nat.le_of_ble_eq_true rfl, Nat.le_of_ble_eq_true rfl⟩ ⟨Nat.zero_le _, Nat.zero_le _⟩ rfl (Nat.le_of_ble_eq_true rfl) ?_
        change KW x 0 0 Q σ_17 118 [some (kr 57), some (ki x1), some (ki x2), some (ki x3), some (ki x4), some (ki x5), some (ki x6), some (ki x7)] [ki r_16]
        refine kw_istore (L' := [some (kr 57), some (ki x1), some (ki x2), some (ki x3), some (ki x4), some (ki x5), some (ki r_16), some (ki x7)]) C (kdec dc_Oracle_tryTruths 64 rfl) 120 rfl (by decide) rfl rfl ?_
        refine kw_aload_n C (kdec dc_Oracle_tryTruths 65 rfl) rfl 121 rfl rfl ?_
        refine kw_getR C (kdec dc_Oracle_tryTruths 66 rfl) 124 rfl fd_C_Oracle_42_57 ?_
        refine kw_iload_n C (kdec dc_Oracle_tryTruths 67 rfl) rfl 125 rfl rfl ?_
        obtain ⟨r_18, hg_19, h⟩ := kbind_h h
        refine kw_callV (As := [ki x3]) C (kdec dc_Oracle_tryTruths 68 rfl) 128 rfl cv_Oracle_139 rfl rfl (mt_pf_Law_matters_3 l0 hg_19) ⟨rfl, rfl⟩ ⟨Nat.le_of_ble_eq_true rfl, Nat.le_of_ble_eq_true rfl⟩ ⟨Nat.zero_le _, Nat.zero_le _⟩ rfl (Nat.le_of_ble_eq_true rfl) ?_
        change KW x 0 0 Q σ_17 128 [some (kr 57), some (ki x1), some (ki x2), some (ki x3), some (ki x4), some (ki x5), some (ki r_16), some (ki x7)] [ki r_18]
        refine kw_istore (L' := [some (kr 57), some (ki x1), some (ki x2), some (ki x3), some (ki x4), some (ki r_18), some (ki r_16), some (ki x7)]) C (kdec dc_Oracle_tryTruths 69 rfl) 130 rfl (by decide) rfl rfl ?_
        exact bd_pf_Oracle_tryTruths_57_l80_j130 C σ_17 x1 x2 x3 x4 r_18 r_16 x7 h hC hX161
    · rw [if_pos hc91] at h
      refine kw_goto C (kdec dc_Oracle_tryTruths 52 rfl) 155 (by decide) ?_
      exact bd_pf_Oracle_tryTruths_57_l80_j155 C σ x1 x2 x3 x4 x5 x6 x7 h hC hX161
theorem lp_pf_Oracle_tryTruths_57_l80 {x : kX} {l0 : Launch} {Q : State → Prop} (C : kCx x prog_5_method_10_code "PoetFines$Oracle" none kcl yC 8 l0 R0_pf_Oracle_tryTruths_57) (x1 : Int) (x2 : Int) (x3 : Int) (x4 : Int) {ex : (kM)} (hX161 : ∀ (σ' : kM), ex = σ' → KW x 0 0 Q σ' 161 [some (kr 57), some (ki x1), some (ki x2), some (ki x3), some (ki x4), none, none, none] []) (n : Nat) (σ : kM) (x5 : Int) (x6 : Int) (x7 : Int) (h : kloop (fun st => pf_Oracle_tryTruths_57_l80 st.1 x1 x2 x3 x4 st.2.1 st.2.2.1 st.2.2.2) n (σ, x5, x6, x7) = some ex) : KW x 0 0 Q σ 80 [some (kr 57), some (ki x1), some (ki x2), some (ki x3), some (ki x4), some (ki x5), some (ki x6), some (ki x7)] [] :=
  kloop_ind (P := (fun st : kM × Int × Int × Int => KW x 0 0 Q st.1 80 [some (kr 57), some (ki x1), some (ki x2), some (ki x3), some (ki x4), some (ki (st.2.1)), some (ki (st.2.2.1)), some (ki (st.2.2.2))] [])) (fun st out hb hc hx => bd_pf_Oracle_tryTruths_57_l80 C st.1 x1 x2 x3 x4 st.2.1 st.2.2.1 st.2.2.2 hb (fun a0 a1 a2 a3 e => hc _ e) (fun a0 e => hX161 _ ((hx _ e).symm))) n (σ, x5, x6, x7) h
def pf_Oracle_tryTruths_57_l49 (σ : kM) (x1 : Int) (x2 : Int) (x3 : Int) : Option ((kM × Int) ⊕ ((kM))) :=
  if (σ 3 0) ≤ x3 then
    some (Sum.inr σ)
  else
    (pf_Law_truthOf_3 σ x2 x3).bind fun r_9 =>
    (kloop (fun st => pf_Oracle_tryTruths_57_l80 st.1 x1 x2 x3 r_9 st.2.1 st.2.2.1 st.2.2.2) kFuel (σ, 1, 0, 0)).bind fun σ_24 =>
    (pf_Law_suppose_3 σ_24 x2 x3 r_9).bind fun σ_25 =>
    klet (w32 (x3 + 1)) fun x3_26 =>
    some (Sum.inl (σ_25, x3_26))
set_option maxHeartbeats 4000000 in
theorem bd_pf_Oracle_tryTruths_57_l49 {x : kX} {l0 : Launch} {Q : State → Prop} (C : kCx x prog_5_method_10_code "PoetFines$Oracle" none kcl yC 8 l0 R0_pf_Oracle_tryTruths_57) (σ : kM) (x1 : Int) (x2 : Int) (x3 : Int) {out : (kM × Int) ⊕ ((kM))} (h : pf_Oracle_tryTruths_57_l49 σ x1 x2 x3 = some out) (hC : ∀ (σ' : kM) (x3' : Int), out = Sum.inl (σ', x3') → KW x 0 0 Q σ' 49 [some (kr 57), some (ki x1), some (ki x2), some (ki x3'), none, none, none, none] []) (hX178 : ∀ (σ' : kM), out = Sum.inr σ' → KW x 0 0 Q σ' 178 [some (kr 57), some (ki x1), some (ki x2), none, none, none, none, none] []) : KW x 0 0 Q σ 49 [some (kr 57), some (ki x1), some (ki x2), some (ki x3), none, none, none, none] [] := by
  unfold pf_Oracle_tryTruths_57_l49 at h
  refine kw_iload_n C (kdec dc_Oracle_tryTruths 29 rfl) rfl 50 rfl rfl ?_
  refine kw_aload_n C (kdec dc_Oracle_tryTruths 30 rfl) rfl 51 rfl rfl ?_
  refine kw_getR C (kdec dc_Oracle_tryTruths 31 rfl) 54 rfl fd_C_Oracle_42_57 ?_
  refine kw_getI C (kdec dc_Oracle_tryTruths 32 rfl) 57 rfl fd_C_Oracle_125_3 ?_
  refine kw_icmp_ge C (kdec dc_Oracle_tryTruths 33 rfl) 178 60 (by decide) rfl (fun hc57 => ?_) (fun hc57 => ?_)
  · rw [if_pos hc57] at h
    obtain rfl := Option.some.inj h
    exact kw_sub (L' := [some (kr 57), some (ki x1), some (ki x2), none, none, none, none, none]) ⟨rfl, rfl, rfl, trivial⟩ (hX178 _ rfl)
  · rw [if_neg hc57] at h
    refine kw_aload_n C (kdec dc_Oracle_tryTruths 34 rfl) rfl 61 rfl rfl ?_
    refine kw_getR C (kdec dc_Oracle_tryTruths 35 rfl) 64 rfl fd_C_Oracle_42_57 ?_
    refine kw_iload_n C (kdec dc_Oracle_tryTruths 36 rfl) rfl 65 rfl rfl ?_
    refine kw_iload_n C (kdec dc_Oracle_tryTruths 37 rfl) rfl 66 rfl rfl ?_
    obtain ⟨r_9, hg_28, h⟩ := kbind_h h
    refine kw_callV (As := [ki x2, ki x3]) C (kdec dc_Oracle_tryTruths 38 rfl) 69 rfl cv_Oracle_128 rfl rfl (mt_pf_Law_truthOf_3 l0 hg_28) ⟨rfl, rfl⟩ ⟨Nat.le_of_ble_eq_true rfl, Nat.le_of_ble_eq_true rfl⟩ ⟨Nat.zero_le _, Nat.zero_le _⟩ rfl (Nat.le_of_ble_eq_true rfl) ?_
    change KW x 0 0 Q σ 69 [some (kr 57), some (ki x1), some (ki x2), some (ki x3), none, none, none, none] [ki r_9]
    refine kw_istore (L' := [some (kr 57), some (ki x1), some (ki x2), some (ki x3), some (ki r_9), none, none, none]) C (kdec dc_Oracle_tryTruths 39 rfl) 71 rfl (by decide) rfl rfl ?_
    refine kw_iconst C (kdec dc_Oracle_tryTruths 40 rfl) 72 rfl rfl ⟨by decide, by decide⟩ ?_
    refine kw_istore (L' := [some (kr 57), some (ki x1), some (ki x2), some (ki x3), some (ki r_9), some (ki 1), none, none]) C (kdec dc_Oracle_tryTruths 41 rfl) 74 rfl (by decide) rfl rfl ?_
    refine kw_iconst C (kdec dc_Oracle_tryTruths 42 rfl) 75 rfl rfl ⟨by decide, by decide⟩ ?_
    refine kw_istore (L' := [some (kr 57), some (ki x1), some (ki x2), some (ki x3), some (ki r_9), some (ki 1), some (ki 0), none]) C (kdec dc_Oracle_tryTruths 43 rfl) 77 rfl (by decide) rfl rfl ?_
    refine kw_iconst C (kdec dc_Oracle_tryTruths 44 rfl) 78 rfl rfl ⟨by decide, by decide⟩ ?_
    refine kw_istore (L' := [some (kr 57), some (ki x1), some (ki x2), some (ki x3), some (ki r_9), some (ki 1), some (ki 0), some (ki 0)]) C (kdec dc_Oracle_tryTruths 45 rfl) 80 rfl (by decide) rfl rfl ?_
    obtain ⟨ex_22, hl_23, h⟩ := kbind_h h
    refine lp_pf_Oracle_tryTruths_57_l80 C x1 x2 x3 r_9 ?_ kFuel σ 1 0 0 hl_23
    · intro σ_24 e
      subst ex_22
      try dsimp only at h
      refine kw_aload_n C (kdec dc_Oracle_tryTruths 87 rfl) rfl 162 rfl rfl ?_
      refine kw_getR C (kdec dc_Oracle_tryTruths 88 rfl) 165 rfl fd_C_Oracle_42_57 ?_
      refine kw_iload_n C (kdec dc_Oracle_tryTruths 89 rfl) rfl 166 rfl rfl ?_
      refine kw_iload_n C (kdec dc_Oracle_tryTruths 90 rfl) rfl 167 rfl rfl ?_
      refine kw_iload C (kdec dc_Oracle_tryTruths 91 rfl) 169 rfl rfl ?_
      obtain ⟨σ_25, hg_27, h⟩ := kbind_h h
      refine kw_callV (As := [ki x2, ki x3, ki r_9]) C (kdec dc_Oracle_tryTruths 92 rfl) 172 rfl cv_Oracle_131 rfl rfl (mt_pf_Law_suppose_3 l0 hg_27) ⟨rfl, rfl⟩ ⟨Nat.le_of_ble_eq_true rfl, Nat.le_of_ble_eq_true rfl⟩ ⟨Nat.zero_le _, Nat.zero_le _⟩ rfl (Nat.le_of_ble_eq_true rfl) ?_
      change KW x 0 0 Q σ_25 172 [some (kr 57), some (ki x1), some (ki x2), some (ki x3), some (ki r_9), none, none, none] []
      obtain ⟨x3_26, ex3_26, h⟩ := klet_h h
      refine kw_iinc (L' := [some (kr 57), some (ki x1), some (ki x2), some (ki x3_26), some (ki r_9), none, none, none]) C (kdec dc_Oracle_tryTruths 93 rfl) 175 rfl rfl (by decide) rfl (by rw [ex3_26]; rfl) ?_
      refine kw_goto C (kdec dc_Oracle_tryTruths 94 rfl) 49 (by decide) ?_
      obtain rfl := Option.some.inj h
      exact kw_sub (L' := [some (kr 57), some (ki x1), some (ki x2), some (ki x3_26), none, none, none, none]) ⟨rfl, rfl, rfl, rfl, trivial⟩ (hC _ _ rfl)
theorem lp_pf_Oracle_tryTruths_57_l49 {x : kX} {l0 : Launch} {Q : State → Prop} (C : kCx x prog_5_method_10_code "PoetFines$Oracle" none kcl yC 8 l0 R0_pf_Oracle_tryTruths_57) (x1 : Int) (x2 : Int) {ex : (kM)} (hX178 : ∀ (σ' : kM), ex = σ' → KW x 0 0 Q σ' 178 [some (kr 57), some (ki x1), some (ki x2), none, none, none, none, none] []) (n : Nat) (σ : kM) (x3 : Int) (h : kloop (fun st => pf_Oracle_tryTruths_57_l49 st.1 x1 x2 st.2) n (σ, x3) = some ex) : KW x 0 0 Q σ 49 [some (kr 57), some (ki x1), some (ki x2), some (ki x3), none, none, none, none] [] :=
  kloop_ind (P := (fun st : kM × Int => KW x 0 0 Q st.1 49 [some (kr 57), some (ki x1), some (ki x2), some (ki (st.2)), none, none, none, none] [])) (fun st out hb hc hx => bd_pf_Oracle_tryTruths_57_l49 C st.1 x1 x2 st.2 hb (fun a0 a1 e => hc _ e) (fun a0 e => hX178 _ ((hx _ e).symm))) n (σ, x3) h
def pf_Oracle_tryTruths_57_l36 (σ : kM) (x1 : Int) (x2 : Int) : Option ((kM × Int) ⊕ ((kM))) :=
  if (σ 3 1) ≤ x2 then
    some (Sum.inr σ)
  else
    (kloop (fun st => pf_Oracle_tryTruths_57_l49 st.1 x1 x2 st.2) kFuel (σ, 0)).bind fun σ_31 =>
    klet (w32 (x2 + 1)) fun x2_32 =>
    some (Sum.inl (σ_31, x2_32))
set_option maxHeartbeats 4000000 in
theorem bd_pf_Oracle_tryTruths_57_l36 {x : kX} {l0 : Launch} {Q : State → Prop} (C : kCx x prog_5_method_10_code "PoetFines$Oracle" none kcl yC 8 l0 R0_pf_Oracle_tryTruths_57) (σ : kM) (x1 : Int) (x2 : Int) {out : (kM × Int) ⊕ ((kM))} (h : pf_Oracle_tryTruths_57_l36 σ x1 x2 = some out) (hC : ∀ (σ' : kM) (x2' : Int), out = Sum.inl (σ', x2') → KW x 0 0 Q σ' 36 [some (kr 57), some (ki x1), some (ki x2'), none, none, none, none, none] []) (hX184 : ∀ (σ' : kM), out = Sum.inr σ' → KW x 0 0 Q σ' 184 [none, none, none, none, none, none, none, none] []) : KW x 0 0 Q σ 36 [some (kr 57), some (ki x1), some (ki x2), none, none, none, none, none] [] := by
  unfold pf_Oracle_tryTruths_57_l36 at h
  refine kw_iload_n C (kdec dc_Oracle_tryTruths 22 rfl) rfl 37 rfl rfl ?_
  refine kw_aload_n C (kdec dc_Oracle_tryTruths 23 rfl) rfl 38 rfl rfl ?_
  refine kw_getR C (kdec dc_Oracle_tryTruths 24 rfl) 41 rfl fd_C_Oracle_42_57 ?_
  refine kw_getI C (kdec dc_Oracle_tryTruths 25 rfl) 44 rfl fd_C_Oracle_79_3 ?_
  refine kw_icmp_ge C (kdec dc_Oracle_tryTruths 26 rfl) 184 47 (by decide) rfl (fun hc44 => ?_) (fun hc44 => ?_)
  · rw [if_pos hc44] at h
    obtain rfl := Option.some.inj h
    exact kw_sub (L' := [none, none, none, none, none, none, none, none]) trivial (hX184 _ rfl)
  · rw [if_neg hc44] at h
    refine kw_iconst C (kdec dc_Oracle_tryTruths 27 rfl) 48 rfl rfl ⟨by decide, by decide⟩ ?_
    refine kw_istore_n (L' := [some (kr 57), some (ki x1), some (ki x2), some (ki 0), none, none, none, none]) C (kdec dc_Oracle_tryTruths 28 rfl) rfl 49 rfl (by decide) rfl rfl ?_
    obtain ⟨ex_29, hl_30, h⟩ := kbind_h h
    refine lp_pf_Oracle_tryTruths_57_l49 C x1 x2 ?_ kFuel σ 0 hl_30
    · intro σ_31 e
      subst ex_29
      try dsimp only at h
      obtain ⟨x2_32, ex2_32, h⟩ := klet_h h
      refine kw_iinc (L' := [some (kr 57), some (ki x1), some (ki x2_32), none, none, none, none, none]) C (kdec dc_Oracle_tryTruths 95 rfl) 181 rfl rfl (by decide) rfl (by rw [ex2_32]; rfl) ?_
      refine kw_goto C (kdec dc_Oracle_tryTruths 96 rfl) 36 (by decide) ?_
      obtain rfl := Option.some.inj h
      exact (hC _ _ rfl)
theorem lp_pf_Oracle_tryTruths_57_l36 {x : kX} {l0 : Launch} {Q : State → Prop} (C : kCx x prog_5_method_10_code "PoetFines$Oracle" none kcl yC 8 l0 R0_pf_Oracle_tryTruths_57) (x1 : Int) {ex : (kM)} (hX184 : ∀ (σ' : kM), ex = σ' → KW x 0 0 Q σ' 184 [none, none, none, none, none, none, none, none] []) (n : Nat) (σ : kM) (x2 : Int) (h : kloop (fun st => pf_Oracle_tryTruths_57_l36 st.1 x1 st.2) n (σ, x2) = some ex) : KW x 0 0 Q σ 36 [some (kr 57), some (ki x1), some (ki x2), none, none, none, none, none] [] :=
  kloop_ind (P := (fun st : kM × Int => KW x 0 0 Q st.1 36 [some (kr 57), some (ki x1), some (ki (st.2)), none, none, none, none, none] [])) (fun st out hb hc hx => bd_pf_Oracle_tryTruths_57_l36 C st.1 x1 st.2 hb (fun a0 a1 e => hc _ e) (fun a0 e => hX184 _ ((hx _ e).symm))) n (σ, x2) h
def pf_Oracle_tryTruths_57 (σ : kM) (x1 : Int) : Option (kM) :=
  klet (kst σ 57 (kup (σ 57) 2 0)) fun σ_1 =>
  klet (kst σ_1 57 (kup (σ_1 57) 3 ((-1)))) fun σ_2 =>
  (kloop (fun st => pf_Oracle_tryTruths_57_l12 st.1 x1 st.2) kFuel (σ_2, 0)).bind fun σ_8 =>
  (kloop (fun st => pf_Oracle_tryTruths_57_l36 st.1 x1 st.2) kFuel (σ_8, 0)).bind fun σ_35 =>
  some σ_35
set_option maxHeartbeats 4000000 in
theorem bd_pf_Oracle_tryTruths_57 {x : kX} {l0 : Launch} {Q : State → Prop} (C : kCx x prog_5_method_10_code "PoetFines$Oracle" none kcl yC 8 l0 R0_pf_Oracle_tryTruths_57) (σ : kM) (x1 : Int) {out : kM} (h : pf_Oracle_tryTruths_57 σ x1 = some out) (hR : ∀ (τ : kM), out = τ → Q = kQ x none τ 0 0) : KW x 0 0 Q σ 0 [some (kr 57), some (ki x1), none, none, none, none, none, none] [] := by
  unfold pf_Oracle_tryTruths_57 at h
  refine kw_aload_n C (kdec dc_Oracle_tryTruths 0 rfl) rfl 1 rfl rfl ?_
  refine kw_iconst C (kdec dc_Oracle_tryTruths 1 rfl) 2 rfl rfl ⟨by decide, by decide⟩ ?_
  obtain ⟨σ_1, eσ_1, h⟩ := klet_h h
  refine kw_putI C (kdec dc_Oracle_tryTruths 2 rfl) 5 rfl fp_C_Oracle_18_57 ?_
  refine kw_sig eσ_1 ?_
  refine kw_aload_n C (kdec dc_Oracle_tryTruths 3 rfl) rfl 6 rfl rfl ?_
  refine kw_iconst C (kdec dc_Oracle_tryTruths 4 rfl) 7 rfl rfl ⟨by decide, by decide⟩ ?_
  obtain ⟨σ_2, eσ_2, h⟩ := klet_h h
  refine kw_putI C (kdec dc_Oracle_tryTruths 5 rfl) 10 rfl fp_C_Oracle_22_57 ?_
  refine kw_sig eσ_2 ?_
  refine kw_iconst C (kdec dc_Oracle_tryTruths 6 rfl) 11 rfl rfl ⟨by decide, by decide⟩ ?_
  refine kw_istore_n (L' := [some (kr 57), some (ki x1), some (ki 0), none, none, none, none, none]) C (kdec dc_Oracle_tryTruths 7 rfl) rfl 12 rfl (by decide) rfl rfl ?_
  obtain ⟨ex_6, hl_7, h⟩ := kbind_h h
  refine lp_pf_Oracle_tryTruths_57_l12 C x1 ?_ kFuel σ_2 0 hl_7
  · intro σ_8 e
    subst ex_6
    try dsimp only at h
    refine kw_iconst C (kdec dc_Oracle_tryTruths 20 rfl) 35 rfl rfl ⟨by decide, by decide⟩ ?_
    refine kw_istore_n (L' := [some (kr 57), some (ki x1), some (ki 0), none, none, none, none, none]) C (kdec dc_Oracle_tryTruths 21 rfl) rfl 36 rfl (by decide) rfl rfl ?_
    obtain ⟨ex_33, hl_34, h⟩ := kbind_h h
    refine lp_pf_Oracle_tryTruths_57_l36 C x1 ?_ kFuel σ_8 0 hl_34
    · intro σ_35 e
      subst ex_33
      try dsimp only at h
      obtain rfl := Option.some.inj h
      exact kw_Q (hR _ rfl) (kw_return C (kdec dc_Oracle_tryTruths 97 rfl))
theorem mt_pf_Oracle_tryTruths_57 (l0 : Launch) {σ : kM} {x1 : Int} {τ : kM} (h : pf_Oracle_tryTruths_57 σ x1 = some τ) : kMet l0 ky_Oracle_tryTruths prog_5_method_10_code 8 none R0_pf_Oracle_tryTruths_57 kcl yC σ [kr 57, ki x1] none τ := kMet.of' [some (kr 57), some (ki x1), none, none, none, none, none, none] (by decide) (Nat.le_of_ble_eq_true rfl) ⟨rfl, rfl, trivial⟩ (fun x C => bd_pf_Oracle_tryTruths_57 C σ x1 h (fun τ e => by subst e; rfl))
def R0_pf_P_truths_0 : Room := ({ frames := 7, cells := 1, slots := 6, locals := 172 } : Room)
def pf_P_truths_0 (σ : kM) (x1 : Int) : Option ((String ⊕ Int) × kM) :=
  (pf_P_needWhat_0 σ x1 2).bind fun q_11 => match q_11 with
  | (.inl E_3, σ_1) => some (.inl E_3, σ_1)
  | (.inr _, σ_1) =>
    (pf_Chronicle_lastFelt_29 σ_1).bind fun r_4 =>
    if x1 = 2 then
      (pf_Oracle_allFelt_57 σ_1 r_4).bind fun (r_7, σ_8) =>
      if r_7 = 0 then
        some ((.inr 0, σ_8))
      else
        some ((.inr 1, σ_8))
    else
      (pf_Oracle_tryTruths_57 σ_1 r_4).bind fun σ_5 =>
      if x1 = 0 then
        some ((.inr (σ_5 57 2), σ_5))
      else
        some ((.inr (σ_5 57 3), σ_5))
set_option maxHeartbeats 4000000 in
theorem bd_pf_P_truths_0 {x : kX} {l0 : Launch} {Q : State → Prop} (C : kCx x prog_1_method_29_code "PoetFines" (some .int) kcl yC 3 l0 R0_pf_P_truths_0) (hT : kTb x) (hfl : l0.stackTraces = false) (σ : kM) (x1 : Int) {out : (String ⊕ Int) × kM} (h : pf_P_truths_0 σ x1 = some out) (hR : ∀ (r : Int) (τ : kM), out = (.inr r, τ) → Q = kQX x (.inr (some (ki r))) τ 1 6) (hE : ∀ (E : String) (τ : kM), out = (.inl E, τ) → Q = kQX x (.inl E) τ 1 6) : KW x 0 0 Q σ 0 [some (kr 0), some (ki x1), none] [] := by
  unfold pf_P_truths_0 at h
  refine kw_aload_n C (kdec dc_P_truths 0 rfl) rfl 1 rfl rfl ?_
  refine kw_iload_n C (kdec dc_P_truths 1 rfl) rfl 2 rfl rfl ?_
  refine kw_iconst C (kdec dc_P_truths 2 rfl) 3 rfl rfl ⟨by decide, by decide⟩ ?_
  obtain ⟨⟨q_11, σ_1⟩, hg_2, h⟩ := kbind_h h
  rcases q_11 with E_3 | _
  · dsimp only at h
    obtain rfl := Option.some.inj h
    exact kw_Q (hE _ _ rfl) (kw_callVX_t (As := [ki x1, ki 2]) C hT (kdec dc_P_truths 3 rfl) cv_P_154 rfl rfl (me_pf_P_needWhat_0 l0 hfl hg_2) ⟨rfl, rfl⟩ ⟨Nat.le_of_ble_eq_true rfl, Nat.le_of_ble_eq_true rfl⟩ ⟨Nat.le_of_ble_eq_true rfl, Nat.le_of_ble_eq_true rfl⟩ rfl (Nat.le_of_ble_eq_true rfl) (Nat.le_of_ble_eq_true rfl) (Nat.le_of_ble_eq_true rfl))
  · dsimp only at h
    refine kw_callVX (As := [ki x1, ki 2]) C (kdec dc_P_truths 3 rfl) 6 rfl cv_P_154 rfl rfl (mx_pf_P_needWhat_0 l0 hfl hg_2) ⟨rfl, rfl⟩ ⟨Nat.le_of_ble_eq_true rfl, Nat.le_of_ble_eq_true rfl⟩ ⟨Nat.le_of_ble_eq_true rfl, Nat.le_of_ble_eq_true rfl⟩ rfl (Nat.le_of_ble_eq_true rfl) ?_
    change KW x 1 6 Q σ_1 6 [some (kr 0), some (ki x1), none] []
    refine kw_aload_n C (kdec dc_P_truths 4 rfl) rfl 7 rfl rfl ?_
    refine kw_getR C (kdec dc_P_truths 5 rfl) 10 rfl fd_C_P_43_0 ?_
    obtain ⟨r_4, hg_10, h⟩ := kbind_h h
    refine kw_callV (As := []) C (kdec dc_P_truths 6 rfl) 13 rfl cv_P_287 rfl rfl (mt_pf_Chronicle_lastFelt_29 l0 hg_10) ⟨rfl, rfl⟩ ⟨Nat.le_of_ble_eq_true rfl, Nat.le_of_ble_eq_true rfl⟩ ⟨Nat.le_of_ble_eq_true rfl, Nat.le_of_ble_eq_true rfl⟩ rfl (Nat.le_of_ble_eq_true rfl) ?_
    change KW x 1 6 Q σ_1 13 [some (kr 0), some (ki x1), none] [ki r_4]
    refine kw_istore_n (L' := [some (kr 0), some (ki x1), some (ki r_4)]) C (kdec dc_P_truths 7 rfl) rfl 14 rfl (by decide) rfl rfl ?_
    refine kw_iload_n C (kdec dc_P_truths 8 rfl) rfl 15 rfl rfl ?_
    refine kw_iconst C (kdec dc_P_truths 9 rfl) 16 rfl rfl ⟨by decide, by decide⟩ ?_
    refine kw_icmp_ne C (kdec dc_P_truths 10 rfl) 36 19 (by decide) rfl (fun hc16 => ?_) (fun hc16 => ?_)
    · rw [if_neg hc16] at h
      refine kw_aload_n C (kdec dc_P_truths 20 rfl) rfl 37 rfl rfl ?_
      refine kw_getR C (kdec dc_P_truths 21 rfl) 40 rfl fd_C_P_81_0 ?_
      refine kw_iload_n C (kdec dc_P_truths 22 rfl) rfl 41 rfl rfl ?_
      obtain ⟨σ_5, hg_6, h⟩ := kbind_h h
      refine kw_callV (As := [ki r_4]) C (kdec dc_P_truths 23 rfl) 44 rfl cv_P_294 rfl rfl (mt_pf_Oracle_tryTruths_57 l0 hg_6) ⟨rfl, rfl⟩ ⟨Nat.le_of_ble_eq_true rfl, Nat.le_of_ble_eq_true rfl⟩ ⟨Nat.le_of_ble_eq_true rfl, Nat.le_of_ble_eq_true rfl⟩ rfl (Nat.le_of_ble_eq_true rfl) ?_
      change KW x 1 6 Q σ_5 44 [some (kr 0), some (ki x1), some (ki r_4)] []
      refine kw_iload_n C (kdec dc_P_truths 24 rfl) rfl 45 rfl rfl ?_
      refine kw_if_ne C (kdec dc_P_truths 25 rfl) 58 48 (by decide) rfl (fun hc45 => ?_) (fun hc45 => ?_)
      · rw [if_neg hc45] at h
        refine kw_aload_n C (kdec dc_P_truths 30 rfl) rfl 59 rfl rfl ?_
        refine kw_getR C (kdec dc_P_truths 31 rfl) 62 rfl fd_C_P_81_0 ?_
        refine kw_getI C (kdec dc_P_truths 32 rfl) 65 rfl fd_C_P_300_57 ?_
        obtain rfl := Option.some.inj h
        exact kw_Q (hR _ _ rfl) (kw_xret (by decide) (by decide) (kw_ireturn C (kdec dc_P_truths 33 rfl)))
      · rw [if_pos hc45] at h
        refine kw_aload_n C (kdec dc_P_truths 26 rfl) rfl 49 rfl rfl ?_
        refine kw_getR C (kdec dc_P_truths 27 rfl) 52 rfl fd_C_P_81_0 ?_
        refine kw_getI C (kdec dc_P_truths 28 rfl) 55 rfl fd_C_P_297_57 ?_
        refine kw_goto C (kdec dc_P_truths 29 rfl) 65 (by decide) ?_
        obtain rfl := Option.some.inj h
        exact kw_Q (hR _ _ rfl) (kw_xret (by decide) (by decide) (kw_ireturn C (kdec dc_P_truths 33 rfl)))
    · rw [if_pos hc16] at h
      refine kw_aload_n C (kdec dc_P_truths 11 rfl) rfl 20 rfl rfl ?_
      refine kw_getR C (kdec dc_P_truths 12 rfl) 23 rfl fd_C_P_81_0 ?_
      refine kw_iload_n C (kdec dc_P_truths 13 rfl) rfl 24 rfl rfl ?_
      obtain ⟨⟨r_7, σ_8⟩, hg_9, h⟩ := kbind_h h
      dsimp only at h
      refine kw_callV (As := [ki r_4]) C (kdec dc_P_truths 14 rfl) 27 rfl cv_P_290 rfl rfl (mt_pf_Oracle_allFelt_57 l0 hg_9) ⟨rfl, rfl⟩ ⟨Nat.le_of_ble_eq_true rfl, Nat.le_of_ble_eq_true rfl⟩ ⟨Nat.le_of_ble_eq_true rfl, Nat.le_of_ble_eq_true rfl⟩ rfl (Nat.le_of_ble_eq_true rfl) ?_
      change KW x 1 6 Q σ_8 27 [some (kr 0), some (ki x1), some (ki r_4)] [ki r_7]
      refine kw_if_eq C (kdec dc_P_truths 15 rfl) 34 30 (by decide) rfl (fun hc27 => ?_) (fun hc27 => ?_)
      · rw [if_pos hc27] at h
        refine kw_iconst C (kdec dc_P_truths 18 rfl) 35 rfl rfl ⟨by decide, by decide⟩ ?_
        obtain rfl := Option.some.inj h
        exact kw_Q (hR _ _ rfl) (kw_xret (by decide) (by decide) (kw_ireturn C (kdec dc_P_truths 19 rfl)))
      · rw [if_neg hc27] at h
        refine kw_iconst C (kdec dc_P_truths 16 rfl) 31 rfl rfl ⟨by decide, by decide⟩ ?_
        refine kw_goto C (kdec dc_P_truths 17 rfl) 35 (by decide) ?_
        obtain rfl := Option.some.inj h
        exact kw_Q (hR _ _ rfl) (kw_xret (by decide) (by decide) (kw_ireturn C (kdec dc_P_truths 19 rfl)))
theorem mx_pf_P_truths_0 (l0 : Launch) (hfl : l0.stackTraces = false) {σ : kM} {x1 : Int} {r : Int} {τ : kM} (h : pf_P_truths_0 σ x1 = some (.inr r, τ)) : kXet l0 ky_P_truths prog_1_method_29_code 3 (some .int) R0_pf_P_truths_0 kcl yC σ [kr 0, ki x1] (.inr (some (ki r))) τ 1 6 := kXet.of [some (kr 0), some (ki x1), none] (by decide) (Nat.le_of_ble_eq_true rfl) ⟨rfl, rfl, trivial⟩ (fun x C hT => bd_pf_P_truths_0 C hT hfl σ x1 h (fun r τ e => by cases e; rfl) (fun E τ e => by cases e))
theorem me_pf_P_truths_0 (l0 : Launch) (hfl : l0.stackTraces = false) {σ : kM} {x1 : Int} {E : String} {τ : kM} (h : pf_P_truths_0 σ x1 = some (.inl E, τ)) : kXet l0 ky_P_truths prog_1_method_29_code 3 (some .int) R0_pf_P_truths_0 kcl yC σ [kr 0, ki x1] (.inl E) τ 1 6 := kXet.of [some (kr 0), some (ki x1), none] (by decide) (Nat.le_of_ble_eq_true rfl) ⟨rfl, rfl, trivial⟩ (fun x C hT => bd_pf_P_truths_0 C hT hfl σ x1 h (fun r τ e => by cases e) (fun E τ e => by cases e; rfl))
def R0_pf_Long_bitCount_95d88 : Room := ({ frames := 0, cells := 0, slots := 0, locals := 0 } : Room)
def pf_Long_bitCount_95d88 (σ : kM) (x0 : Int) : Option (Int) :=
  klet (klsub x0 (kland (klushr x0 1) 6148914691236517205)) fun x0_1 =>
  klet (kladd (kland x0_1 3689348814741910323) (kland (klushr x0_1 2) 3689348814741910323)) fun x0_2 =>
  klet (kland (kladd x0_2 (klushr x0_2 4)) 1085102592571150095) fun x0_3 =>
  klet (kladd x0_3 (klushr x0_3 8)) fun x0_4 =>
  klet (kladd x0_4 (klushr x0_4 16)) fun x0_5 =>
  klet (kladd x0_5 (klushr x0_5 32)) fun x0_6 =>
  some (kand (kl2i x0_6) 127)
set_option maxHeartbeats 4000000 in
theorem bd_pf_Long_bitCount_95d88 {x : kX} {l0 : Launch} {Q : State → Prop} (C : kCx x prog_23_method_50_code "java/lang/Long" (some .int) kcl yC 2 l0 R0_pf_Long_bitCount_95d88) (σ : kM) (x0 : Int) {out : Int} (h : pf_Long_bitCount_95d88 σ x0 = some out) (hR : ∀ (r : Int), out = r → Q = kQ x (some (ki r)) σ 0 0) : KW x 0 0 Q σ 0 [some (kl x0), none] [] := by
  unfold pf_Long_bitCount_95d88 at h
  refine kw_lload_n C (kdec dc_Long_bitCount_95d88 0 rfl) rfl 1 rfl rfl ?_
  refine kw_lload_n C (kdec dc_Long_bitCount_95d88 1 rfl) rfl 2 rfl rfl ?_
  refine kw_iconst C (kdec dc_Long_bitCount_95d88 2 rfl) 3 rfl rfl ⟨by decide, by decide⟩ ?_
  refine kw_lushr C (kdec dc_Long_bitCount_95d88 3 rfl) 4 rfl ?_
  refine kw_ldc2 (v := 6148914691236517205) C (kdec dc_Long_bitCount_95d88 4 rfl) 7 rfl wd_1462 ⟨by decide, by decide⟩ ?_
  refine kw_land C (kdec dc_Long_bitCount_95d88 5 rfl) 8 rfl ?_
  refine kw_lsub C (kdec dc_Long_bitCount_95d88 6 rfl) 9 rfl ?_
  obtain ⟨x0_1, ex0_1, h⟩ := klet_h h
  refine kw_topl ex0_1 ?_
  refine kw_lstore_n (L' := [some (kl x0_1), none]) C (kdec dc_Long_bitCount_95d88 7 rfl) rfl 10 rfl (by decide) rfl rfl ?_
  refine kw_lload_n C (kdec dc_Long_bitCount_95d88 8 rfl) rfl 11 rfl rfl ?_
  refine kw_ldc2 (v := 3689348814741910323) C (kdec dc_Long_bitCount_95d88 9 rfl) 14 rfl wd_1463 ⟨by decide, by decide⟩ ?_
  refine kw_land C (kdec dc_Long_bitCount_95d88 10 rfl) 15 rfl ?_
  refine kw_lload_n C (kdec dc_Long_bitCount_95d88 11 rfl) rfl 16 rfl rfl ?_
  refine kw_iconst C (kdec dc_Long_bitCount_95d88 12 rfl) 17 rfl rfl ⟨by decide, by decide⟩ ?_
  refine kw_lushr C (kdec dc_Long_bitCount_95d88 13 rfl) 18 rfl ?_
  refine kw_ldc2 (v := 3689348814741910323) C (kdec dc_Long_bitCount_95d88 14 rfl) 21 rfl wd_1463 ⟨by decide, by decide⟩ ?_
  refine kw_land C (kdec dc_Long_bitCount_95d88 15 rfl) 22 rfl ?_
  refine kw_ladd C (kdec dc_Long_bitCount_95d88 16 rfl) 23 rfl ?_
  obtain ⟨x0_2, ex0_2, h⟩ := klet_h h
  refine kw_topl ex0_2 ?_
  refine kw_lstore_n (L' := [some (kl x0_2), none]) C (kdec dc_Long_bitCount_95d88 17 rfl) rfl 24 rfl (by decide) rfl rfl ?_
  refine kw_lload_n C (kdec dc_Long_bitCount_95d88 18 rfl) rfl 25 rfl rfl ?_
  refine kw_lload_n C (kdec dc_Long_bitCount_95d88 19 rfl) rfl 26 rfl rfl ?_
  refine kw_iconst C (kdec dc_Long_bitCount_95d88 20 rfl) 27 rfl rfl ⟨by decide, by decide⟩ ?_
  refine kw_lushr C (kdec dc_Long_bitCount_95d88 21 rfl) 28 rfl ?_
  refine kw_ladd C (kdec dc_Long_bitCount_95d88 22 rfl) 29 rfl ?_
  refine kw_ldc2 (v := 1085102592571150095) C (kdec dc_Long_bitCount_95d88 23 rfl) 32 rfl wd_1464 ⟨by decide, by decide⟩ ?_
  refine kw_land C (kdec dc_Long_bitCount_95d88 24 rfl) 33 rfl ?_
  obtain ⟨x0_3, ex0_3, h⟩ := klet_h h
  refine kw_topl ex0_3 ?_
  refine kw_lstore_n (L' := [some (kl x0_3), none]) C (kdec dc_Long_bitCount_95d88 25 rfl) rfl 34 rfl (by decide) rfl rfl ?_
  refine kw_lload_n C (kdec dc_Long_bitCount_95d88 26 rfl) rfl 35 rfl rfl ?_
  refine kw_lload_n C (kdec dc_Long_bitCount_95d88 27 rfl) rfl 36 rfl rfl ?_
  refine kw_bipush (v := 8) C (kdec dc_Long_bitCount_95d88 28 rfl) 38 rfl (by decide) ⟨by decide, by decide⟩ ?_
  refine kw_lushr C (kdec dc_Long_bitCount_95d88 29 rfl) 39 rfl ?_
  refine kw_ladd C (kdec dc_Long_bitCount_95d88 30 rfl) 40 rfl ?_
  obtain ⟨x0_4, ex0_4, h⟩ := klet_h h
  refine kw_topl ex0_4 ?_
  refine kw_lstore_n (L' := [some (kl x0_4), none]) C (kdec dc_Long_bitCount_95d88 31 rfl) rfl 41 rfl (by decide) rfl rfl ?_
  refine kw_lload_n C (kdec dc_Long_bitCount_95d88 32 rfl) rfl 42 rfl rfl ?_
  refine kw_lload_n C (kdec dc_Long_bitCount_95d88 33 rfl) rfl 43 rfl rfl ?_
  refine kw_bipush (v := 16) C (kdec dc_Long_bitCount_95d88 34 rfl) 45 rfl (by decide) ⟨by decide, by decide⟩ ?_
  refine kw_lushr C (kdec dc_Long_bitCount_95d88 35 rfl) 46 rfl ?_
  refine kw_ladd C (kdec dc_Long_bitCount_95d88 36 rfl) 47 rfl ?_
  obtain ⟨x0_5, ex0_5, h⟩ := klet_h h
  refine kw_topl ex0_5 ?_
  refine kw_lstore_n (L' := [some (kl x0_5), none]) C (kdec dc_Long_bitCount_95d88 37 rfl) rfl 48 rfl (by decide) rfl rfl ?_
  refine kw_lload_n C (kdec dc_Long_bitCount_95d88 38 rfl) rfl 49 rfl rfl ?_
  refine kw_lload_n C (kdec dc_Long_bitCount_95d88 39 rfl) rfl 50 rfl rfl ?_
  refine kw_bipush (v := 32) C (kdec dc_Long_bitCount_95d88 40 rfl) 52 rfl (by decide) ⟨by decide, by decide⟩ ?_
  refine kw_lushr C (kdec dc_Long_bitCount_95d88 41 rfl) 53 rfl ?_
  refine kw_ladd C (kdec dc_Long_bitCount_95d88 42 rfl) 54 rfl ?_
  obtain ⟨x0_6, ex0_6, h⟩ := klet_h h
  refine kw_topl ex0_6 ?_
  refine kw_lstore_n (L' := [some (kl x0_6), none]) C (kdec dc_Long_bitCount_95d88 43 rfl) rfl 55 rfl (by decide) rfl rfl ?_
  refine kw_lload_n C (kdec dc_Long_bitCount_95d88 44 rfl) rfl 56 rfl rfl ?_
  refine kw_l2i C (kdec dc_Long_bitCount_95d88 45 rfl) 57 rfl ?_
  refine kw_bipush (v := 127) C (kdec dc_Long_bitCount_95d88 46 rfl) 59 rfl (by decide) ⟨by decide, by decide⟩ ?_
  refine kw_iand C (kdec dc_Long_bitCount_95d88 47 rfl) 60 rfl ?_
  obtain rfl := Option.some.inj h
  exact kw_Q (hR _ rfl) (kw_ireturn C (kdec dc_Long_bitCount_95d88 48 rfl))
theorem mt_pf_Long_bitCount_95d88 (l0 : Launch) {σ : kM} {x0 : Int} {r : Int} (h : pf_Long_bitCount_95d88 σ x0 = some r) : kMet l0 ky_Long_bitCount_95d88 prog_23_method_50_code 2 (some .int) R0_pf_Long_bitCount_95d88 kcl yC σ [kl x0] (some (ki r)) σ := kMet.of' [some (kl x0), none] (by decide) (Nat.le_of_ble_eq_true rfl) ⟨rfl, trivial⟩ (fun x C => bd_pf_Long_bitCount_95d88 C σ x0 h (fun r e => by subst e; rfl))
def R0_pf_Oracle_unlikeScars_57 : Room := ({ frames := 1, cells := 0, slots := 0, locals := 21 } : Room)
def pf_Oracle_unlikeScars_57 (σ : kM) (x1 : Int) : Option (Int) :=
  kchk (0 ≤ (w32 (x1 * 2)) ∧ (w32 (x1 * 2)) < 16) <|
  (pf_Long_bitCount_95d88 σ (σ 61 (w32 (x1 * 2)).toNat)).bind fun r_2 =>
  kchk (0 ≤ (w32 ((w32 (x1 * 2)) + 1)) ∧ (w32 ((w32 (x1 * 2)) + 1)) < 16) <|
  (pf_Long_bitCount_95d88 σ (σ 61 (w32 ((w32 (x1 * 2)) + 1)).toNat)).bind fun r_4 =>
  some (w32 (r_2 + r_4))
set_option maxHeartbeats 4000000 in
theorem bd_pf_Oracle_unlikeScars_57 {x : kX} {l0 : Launch} {Q : State → Prop} (C : kCx x prog_5_method_13_code "PoetFines$Oracle" (some .int) kcl yC 2 l0 R0_pf_Oracle_unlikeScars_57) (σ : kM) (x1 : Int) {out : Int} (h : pf_Oracle_unlikeScars_57 σ x1 = some out) (hR : ∀ (r : Int), out = r → Q = kQ x (some (ki r)) σ 0 0) : KW x 0 0 Q σ 0 [some (kr 57), some (ki x1)] [] := by
  unfold pf_Oracle_unlikeScars_57 at h
  refine kw_aload_n C (kdec dc_Oracle_unlikeScars 0 rfl) rfl 1 rfl rfl ?_
  refine kw_getR C (kdec dc_Oracle_unlikeScars 1 rfl) 4 rfl fd_C_Oracle_29_57 ?_
  refine kw_iload_n C (kdec dc_Oracle_unlikeScars 2 rfl) rfl 5 rfl rfl ?_
  refine kw_iconst C (kdec dc_Oracle_unlikeScars 3 rfl) 6 rfl rfl ⟨by decide, by decide⟩ ?_
  refine kw_imul C (kdec dc_Oracle_unlikeScars 4 rfl) 7 rfl ?_
  obtain ⟨hc_1, h⟩ := kchk_h h
  refine kw_lald C (kdec dc_Oracle_unlikeScars 5 rfl) 8 rfl rfl hc_1.1 hc_1.2 ?_
  obtain ⟨r_2, hg_6, h⟩ := kbind_h h
  refine kw_callS (As := [kl (σ 61 (w32 (x1 * 2)).toNat)]) C (kdec dc_Oracle_unlikeScars 6 rfl) 11 rfl cs_Oracle_148 (mt_pf_Long_bitCount_95d88 l0 hg_6) ⟨rfl, rfl⟩ ⟨Nat.le_of_ble_eq_true rfl, Nat.le_of_ble_eq_true rfl⟩ ⟨Nat.zero_le _, Nat.zero_le _⟩ rfl (Nat.le_of_ble_eq_true rfl) ?_
  change KW x 0 0 Q σ 11 [some (kr 57), some (ki x1)] [ki r_2]
  refine kw_aload_n C (kdec dc_Oracle_unlikeScars 7 rfl) rfl 12 rfl rfl ?_
  refine kw_getR C (kdec dc_Oracle_unlikeScars 8 rfl) 15 rfl fd_C_Oracle_29_57 ?_
  refine kw_iload_n C (kdec dc_Oracle_unlikeScars 9 rfl) rfl 16 rfl rfl ?_
  refine kw_iconst C (kdec dc_Oracle_unlikeScars 10 rfl) 17 rfl rfl ⟨by decide, by decide⟩ ?_
  refine kw_imul C (kdec dc_Oracle_unlikeScars 11 rfl) 18 rfl ?_
  refine kw_iconst C (kdec dc_Oracle_unlikeScars 12 rfl) 19 rfl rfl ⟨by decide, by decide⟩ ?_
  refine kw_iadd C (kdec dc_Oracle_unlikeScars 13 rfl) 20 rfl ?_
  obtain ⟨hc_3, h⟩ := kchk_h h
  refine kw_lald C (kdec dc_Oracle_unlikeScars 14 rfl) 21 rfl rfl hc_3.1 hc_3.2 ?_
  obtain ⟨r_4, hg_5, h⟩ := kbind_h h
  refine kw_callS (As := [kl (σ 61 (w32 ((w32 (x1 * 2)) + 1)).toNat)]) C (kdec dc_Oracle_unlikeScars 15 rfl) 24 rfl cs_Oracle_148 (mt_pf_Long_bitCount_95d88 l0 hg_5) ⟨rfl, rfl⟩ ⟨Nat.le_of_ble_eq_true rfl, Nat.le_of_ble_eq_true rfl⟩ ⟨Nat.zero_le _, Nat.zero_le _⟩ rfl (Nat.le_of_ble_eq_true rfl) ?_
  change KW x 0 0 Q σ 24 [some (kr 57), some (ki x1)] [ki r_4, ki r_2]
  refine kw_iadd C (kdec dc_Oracle_unlikeScars 16 rfl) 25 rfl ?_
  obtain rfl := Option.some.inj h
  exact kw_Q (hR _ rfl) (kw_ireturn C (kdec dc_Oracle_unlikeScars 17 rfl))
theorem mt_pf_Oracle_unlikeScars_57 (l0 : Launch) {σ : kM} {x1 : Int} {r : Int} (h : pf_Oracle_unlikeScars_57 σ x1 = some r) : kMet l0 ky_Oracle_unlikeScars prog_5_method_13_code 2 (some .int) R0_pf_Oracle_unlikeScars_57 kcl yC σ [kr 57, ki x1] (some (ki r)) σ := kMet.of' [some (kr 57), some (ki x1)] (by decide) (Nat.le_of_ble_eq_true rfl) ⟨rfl, rfl, trivial⟩ (fun x C => bd_pf_Oracle_unlikeScars_57 C σ x1 h (fun r e => by subst e; rfl))
def R0_pf_Oracle_mostUnlike_57 : Room := ({ frames := 2, cells := 0, slots := 0, locals := 42 } : Room)
def pf_Oracle_mostUnlike_57_l6_j35 (σ : kM) (x1 : Int) (x2 : Int) (x3 : Int) : Option ((Int × Int × Int) ⊕ ((Int))) :=
  klet (w32 (x3 + 1)) fun x3_3 =>
  some (Sum.inl (x1, x2, x3_3))
set_option maxHeartbeats 4000000 in
theorem bd_pf_Oracle_mostUnlike_57_l6_j35 {x : kX} {l0 : Launch} {Q : State → Prop} (C : kCx x prog_5_method_14_code "PoetFines$Oracle" (some .int) kcl yC 5 l0 R0_pf_Oracle_mostUnlike_57) (σ : kM) (x1 : Int) (x2 : Int) (x3 : Int) {out : (Int × Int × Int) ⊕ ((Int))} (h : pf_Oracle_mostUnlike_57_l6_j35 σ x1 x2 x3 = some out) (hC : ∀ (x1' : Int) (x2' : Int) (x3' : Int), out = Sum.inl (x1', x2', x3') → KW x 0 0 Q σ 6 [some (kr 57), some (ki x1'), some (ki x2'), some (ki x3'), none] []) (hX41 : ∀ (x1' : Int), out = Sum.inr x1' → KW x 0 0 Q σ 41 [none, some (ki x1'), none, none, none] []) : KW x 0 0 Q σ 35 [some (kr 57), some (ki x1), some (ki x2), some (ki x3), none] [] := by
  unfold pf_Oracle_mostUnlike_57_l6_j35 at h
  obtain ⟨x3_3, ex3_3, h⟩ := klet_h h
  refine kw_iinc (L' := [some (kr 57), some (ki x1), some (ki x2), some (ki x3_3), none]) C (kdec dc_Oracle_mostUnlike 22 rfl) 38 rfl rfl (by decide) rfl (by rw [ex3_3]; rfl) ?_
  refine kw_goto C (kdec dc_Oracle_mostUnlike 23 rfl) 6 (by decide) ?_
  obtain rfl := Option.some.inj h
  exact (hC _ _ _ rfl)
def pf_Oracle_mostUnlike_57_l6 (σ : kM) (x1 : Int) (x2 : Int) (x3 : Int) : Option ((Int × Int × Int) ⊕ ((Int))) :=
  if (σ 3 1) ≤ x3 then
    some (Sum.inr x1)
  else
    (pf_Oracle_unlikeScars_57 σ x3).bind fun r_2 =>
    if r_2 ≤ x2 then
      pf_Oracle_mostUnlike_57_l6_j35 σ x1 x2 x3
    else
      pf_Oracle_mostUnlike_57_l6_j35 σ x3 r_2 x3
set_option maxHeartbeats 4000000 in
theorem bd_pf_Oracle_mostUnlike_57_l6 {x : kX} {l0 : Launch} {Q : State → Prop} (C : kCx x prog_5_method_14_code "PoetFines$Oracle" (some .int) kcl yC 5 l0 R0_pf_Oracle_mostUnlike_57) (σ : kM) (x1 : Int) (x2 : Int) (x3 : Int) {out : (Int × Int × Int) ⊕ ((Int))} (h : pf_Oracle_mostUnlike_57_l6 σ x1 x2 x3 = some out) (hC : ∀ (x1' : Int) (x2' : Int) (x3' : Int), out = Sum.inl (x1', x2', x3') → KW x 0 0 Q σ 6 [some (kr 57), some (ki x1'), some (ki x2'), some (ki x3'), none] []) (hX41 : ∀ (x1' : Int), out = Sum.inr x1' → KW x 0 0 Q σ 41 [none, some (ki x1'), none, none, none] []) : KW x 0 0 Q σ 6 [some (kr 57), some (ki x1), some (ki x2), some (ki x3), none] [] := by
  unfold pf_Oracle_mostUnlike_57_l6 at h
  refine kw_iload_n C (kdec dc_Oracle_mostUnlike 6 rfl) rfl 7 rfl rfl ?_
  refine kw_aload_n C (kdec dc_Oracle_mostUnlike 7 rfl) rfl 8 rfl rfl ?_
  refine kw_getR C (kdec dc_Oracle_mostUnlike 8 rfl) 11 rfl fd_C_Oracle_42_57 ?_
  refine kw_getI C (kdec dc_Oracle_mostUnlike 9 rfl) 14 rfl fd_C_Oracle_79_3 ?_
  refine kw_icmp_ge C (kdec dc_Oracle_mostUnlike 10 rfl) 41 17 (by decide) rfl (fun hc14 => ?_) (fun hc14 => ?_)
  · rw [if_pos hc14] at h
    obtain rfl := Option.some.inj h
    exact kw_sub (L' := [none, some (ki x1), none, none, none]) ⟨rfl, trivial⟩ (hX41 _ rfl)
  · rw [if_neg hc14] at h
    refine kw_aload_n C (kdec dc_Oracle_mostUnlike 11 rfl) rfl 18 rfl rfl ?_
    refine kw_iload_n C (kdec dc_Oracle_mostUnlike 12 rfl) rfl 19 rfl rfl ?_
    obtain ⟨r_2, hg_4, h⟩ := kbind_h h
    refine kw_callV (As := [ki x3]) C (kdec dc_Oracle_mostUnlike 13 rfl) 22 rfl cv_Oracle_154 rfl rfl (mt_pf_Oracle_unlikeScars_57 l0 hg_4) ⟨rfl, rfl⟩ ⟨Nat.le_of_ble_eq_true rfl, Nat.le_of_ble_eq_true rfl⟩ ⟨Nat.zero_le _, Nat.zero_le _⟩ rfl (Nat.le_of_ble_eq_true rfl) ?_
    change KW x 0 0 Q σ 22 [some (kr 57), some (ki x1), some (ki x2), some (ki x3), none] [ki r_2]
    refine kw_istore (L' := [some (kr 57), some (ki x1), some (ki x2), some (ki x3), some (ki r_2)]) C (kdec dc_Oracle_mostUnlike 14 rfl) 24 rfl (by decide) rfl rfl ?_
    refine kw_iload C (kdec dc_Oracle_mostUnlike 15 rfl) 26 rfl rfl ?_
    refine kw_iload_n C (kdec dc_Oracle_mostUnlike 16 rfl) rfl 27 rfl rfl ?_
    refine kw_icmp_le C (kdec dc_Oracle_mostUnlike 17 rfl) 35 30 (by decide) rfl (fun hc27 => ?_) (fun hc27 => ?_)
    · rw [if_pos hc27] at h
      exact kw_sub (L' := [some (kr 57), some (ki x1), some (ki x2), some (ki x3), none]) ⟨rfl, rfl, rfl, rfl, trivial⟩ (bd_pf_Oracle_mostUnlike_57_l6_j35 C σ x1 x2 x3 h hC hX41)
    · rw [if_neg hc27] at h
      refine kw_iload_n C (kdec dc_Oracle_mostUnlike 18 rfl) rfl 31 rfl rfl ?_
      refine kw_istore_n (L' := [some (kr 57), some (ki x3), some (ki x2), some (ki x3), some (ki r_2)]) C (kdec dc_Oracle_mostUnlike 19 rfl) rfl 32 rfl (by decide) rfl rfl ?_
      refine kw_iload C (kdec dc_Oracle_mostUnlike 20 rfl) 34 rfl rfl ?_
      refine kw_istore_n (L' := [some (kr 57), some (ki x3), some (ki r_2), some (ki x3), some (ki r_2)]) C (kdec dc_Oracle_mostUnlike 21 rfl) rfl 35 rfl (by decide) rfl rfl ?_
      exact kw_sub (L' := [some (kr 57), some (ki x3), some (ki r_2), some (ki x3), none]) ⟨rfl, rfl, rfl, rfl, trivial⟩ (bd_pf_Oracle_mostUnlike_57_l6_j35 C σ x3 r_2 x3 h hC hX41)
theorem lp_pf_Oracle_mostUnlike_57_l6 {x : kX} {l0 : Launch} {Q : State → Prop} (C : kCx x prog_5_method_14_code "PoetFines$Oracle" (some .int) kcl yC 5 l0 R0_pf_Oracle_mostUnlike_57) (σ : kM) {ex : (Int)} (hX41 : ∀ (x1' : Int), ex = x1' → KW x 0 0 Q σ 41 [none, some (ki x1'), none, none, none] []) (n : Nat) (x1 : Int) (x2 : Int) (x3 : Int) (h : kloop (fun st => pf_Oracle_mostUnlike_57_l6 σ st.1 st.2.1 st.2.2) n (x1, x2, x3) = some ex) : KW x 0 0 Q σ 6 [some (kr 57), some (ki x1), some (ki x2), some (ki x3), none] [] :=
  kloop_ind (P := (fun st : Int × Int × Int => KW x 0 0 Q σ 6 [some (kr 57), some (ki (st.1)), some (ki (st.2.1)), some (ki (st.2.2)), none] [])) (fun st out hb hc hx => bd_pf_Oracle_mostUnlike_57_l6 C σ st.1 st.2.1 st.2.2 hb (fun a0 a1 a2 e => hc _ e) (fun a0 e => hX41 _ ((hx _ e).symm))) n (x1, x2, x3) h
def pf_Oracle_mostUnlike_57 (σ : kM) : Option (Int) :=
  klet ((-1)) fun x1_1 =>
  (kloop (fun st => pf_Oracle_mostUnlike_57_l6 σ st.1 st.2.1 st.2.2) kFuel (x1_1, 0, 0)).bind fun x1_7 =>
  some x1_7
set_option maxHeartbeats 4000000 in
theorem bd_pf_Oracle_mostUnlike_57 {x : kX} {l0 : Launch} {Q : State → Prop} (C : kCx x prog_5_method_14_code "PoetFines$Oracle" (some .int) kcl yC 5 l0 R0_pf_Oracle_mostUnlike_57) (σ : kM) {out : Int} (h : pf_Oracle_mostUnlike_57 σ = some out) (hR : ∀ (r : Int), out = r → Q = kQ x (some (ki r)) σ 0 0) : KW x 0 0 Q σ 0 [some (kr 57), none, none, none, none] [] := by
  unfold pf_Oracle_mostUnlike_57 at h
  refine kw_iconst C (kdec dc_Oracle_mostUnlike 0 rfl) 1 rfl rfl ⟨by decide, by decide⟩ ?_
  obtain ⟨x1_1, ex1_1, h⟩ := klet_h h
  refine kw_top ex1_1 ?_
  refine kw_istore_n (L' := [some (kr 57), some (ki x1_1), none, none, none]) C (kdec dc_Oracle_mostUnlike 1 rfl) rfl 2 rfl (by decide) rfl rfl ?_
  refine kw_iconst C (kdec dc_Oracle_mostUnlike 2 rfl) 3 rfl rfl ⟨by decide, by decide⟩ ?_
  refine kw_istore_n (L' := [some (kr 57), some (ki x1_1), some (ki 0), none, none]) C (kdec dc_Oracle_mostUnlike 3 rfl) rfl 4 rfl (by decide) rfl rfl ?_
  refine kw_iconst C (kdec dc_Oracle_mostUnlike 4 rfl) 5 rfl rfl ⟨by decide, by decide⟩ ?_
  refine kw_istore_n (L' := [some (kr 57), some (ki x1_1), some (ki 0), some (ki 0), none]) C (kdec dc_Oracle_mostUnlike 5 rfl) rfl 6 rfl (by decide) rfl rfl ?_
  obtain ⟨ex_5, hl_6, h⟩ := kbind_h h
  refine lp_pf_Oracle_mostUnlike_57_l6 C σ ?_ kFuel x1_1 0 0 hl_6
  · intro x1_7 e
    subst ex_5
    try dsimp only at h
    refine kw_iload_n C (kdec dc_Oracle_mostUnlike 24 rfl) rfl 42 rfl rfl ?_
    obtain rfl := Option.some.inj h
    exact kw_Q (hR _ rfl) (kw_ireturn C (kdec dc_Oracle_mostUnlike 25 rfl))
theorem mt_pf_Oracle_mostUnlike_57 (l0 : Launch) {σ : kM} {r : Int} (h : pf_Oracle_mostUnlike_57 σ = some r) : kMet l0 ky_Oracle_mostUnlike prog_5_method_14_code 5 (some .int) R0_pf_Oracle_mostUnlike_57 kcl yC σ [kr 57] (some (ki r)) σ := kMet.of' [some (kr 57), none, none, none, none] (by decide) (Nat.le_of_ble_eq_true rfl) ⟨rfl, trivial⟩ (fun x C => bd_pf_Oracle_mostUnlike_57 C σ h (fun r e => by subst e; rfl))
def R0_pf_P_listen_0 : Room := ({ frames := 7, cells := 1, slots := 6, locals := 172 } : Room)
def pf_P_listen_0 (σ : kM) (x1 : Int) : Option ((String ⊕ Int) × kM) :=
  (pf_P_needWhat_0 σ x1 1).bind fun q_12 => match q_12 with
  | (.inl E_3, σ_1) => some (.inl E_3, σ_1)
  | (.inr _, σ_1) =>
    (pf_Chronicle_lastFelt_29 σ_1).bind fun r_4 =>
    (pf_Oracle_tryTruths_57 σ_1 (max r_4 5)).bind fun σ_5 =>
    (pf_Oracle_mostUnlike_57 σ_5).bind fun r_6 =>
    if x1 = 0 then
      some ((.inr r_6, σ_5))
    else
      if r_6 = ((-1)) then
        some ((.inr 0, σ_5))
      else
        (pf_Oracle_unlikeScars_57 σ_5 r_6).bind fun r_7 =>
        some ((.inr r_7, σ_5))
set_option maxHeartbeats 4000000 in
theorem bd_pf_P_listen_0 {x : kX} {l0 : Launch} {Q : State → Prop} (C : kCx x prog_1_method_30_code "PoetFines" (some .int) kcl yC 3 l0 R0_pf_P_listen_0) (hT : kTb x) (hfl : l0.stackTraces = false) (σ : kM) (x1 : Int) {out : (String ⊕ Int) × kM} (h : pf_P_listen_0 σ x1 = some out) (hR : ∀ (r : Int) (τ : kM), out = (.inr r, τ) → Q = kQX x (.inr (some (ki r))) τ 1 6) (hE : ∀ (E : String) (τ : kM), out = (.inl E, τ) → Q = kQX x (.inl E) τ 1 6) : KW x 0 0 Q σ 0 [some (kr 0), some (ki x1), none] [] := by
  unfold pf_P_listen_0 at h
  refine kw_aload_n C (kdec dc_P_listen 0 rfl) rfl 1 rfl rfl ?_
  refine kw_iload_n C (kdec dc_P_listen 1 rfl) rfl 2 rfl rfl ?_
  refine kw_iconst C (kdec dc_P_listen 2 rfl) 3 rfl rfl ⟨by decide, by decide⟩ ?_
  obtain ⟨⟨q_12, σ_1⟩, hg_2, h⟩ := kbind_h h
  rcases q_12 with E_3 | _
  · dsimp only at h
    obtain rfl := Option.some.inj h
    exact kw_Q (hE _ _ rfl) (kw_callVX_t (As := [ki x1, ki 1]) C hT (kdec dc_P_listen 3 rfl) cv_P_154 rfl rfl (me_pf_P_needWhat_0 l0 hfl hg_2) ⟨rfl, rfl⟩ ⟨Nat.le_of_ble_eq_true rfl, Nat.le_of_ble_eq_true rfl⟩ ⟨Nat.le_of_ble_eq_true rfl, Nat.le_of_ble_eq_true rfl⟩ rfl (Nat.le_of_ble_eq_true rfl) (Nat.le_of_ble_eq_true rfl) (Nat.le_of_ble_eq_true rfl))
  · dsimp only at h
    refine kw_callVX (As := [ki x1, ki 1]) C (kdec dc_P_listen 3 rfl) 6 rfl cv_P_154 rfl rfl (mx_pf_P_needWhat_0 l0 hfl hg_2) ⟨rfl, rfl⟩ ⟨Nat.le_of_ble_eq_true rfl, Nat.le_of_ble_eq_true rfl⟩ ⟨Nat.le_of_ble_eq_true rfl, Nat.le_of_ble_eq_true rfl⟩ rfl (Nat.le_of_ble_eq_true rfl) ?_
    change KW x 1 6 Q σ_1 6 [some (kr 0), some (ki x1), none] []
    refine kw_aload_n C (kdec dc_P_listen 4 rfl) rfl 7 rfl rfl ?_
    refine kw_getR C (kdec dc_P_listen 5 rfl) 10 rfl fd_C_P_81_0 ?_
    refine kw_aload_n C (kdec dc_P_listen 6 rfl) rfl 11 rfl rfl ?_
    refine kw_getR C (kdec dc_P_listen 7 rfl) 14 rfl fd_C_P_43_0 ?_
    obtain ⟨r_4, hg_11, h⟩ := kbind_h h
    refine kw_callV (As := []) C (kdec dc_P_listen 8 rfl) 17 rfl cv_P_287 rfl rfl (mt_pf_Chronicle_lastFelt_29 l0 hg_11) ⟨rfl, rfl⟩ ⟨Nat.le_of_ble_eq_true rfl, Nat.le_of_ble_eq_true rfl⟩ ⟨Nat.le_of_ble_eq_true rfl, Nat.le_of_ble_eq_true rfl⟩ rfl (Nat.le_of_ble_eq_true rfl) ?_
    change KW x 1 6 Q σ_1 17 [some (kr 0), some (ki x1), none] [ki r_4, kr 57]
    refine kw_iconst C (kdec dc_P_listen 9 rfl) 18 rfl rfl ⟨by decide, by decide⟩ ?_
    refine kw_max C (kdec dc_P_listen 10 rfl) 21 rfl cm_P_303 ⟨Nat.le_of_ble_eq_true rfl, Nat.le_of_ble_eq_true rfl⟩ ⟨Nat.le_of_ble_eq_true rfl, Nat.le_of_ble_eq_true rfl⟩ (Nat.le_of_ble_eq_true rfl) ?_
    obtain ⟨σ_5, hg_10, h⟩ := kbind_h h
    refine kw_callV (As := [ki (max r_4 5)]) C (kdec dc_P_listen 11 rfl) 24 rfl cv_P_294 rfl rfl (mt_pf_Oracle_tryTruths_57 l0 hg_10) ⟨rfl, rfl⟩ ⟨Nat.le_of_ble_eq_true rfl, Nat.le_of_ble_eq_true rfl⟩ ⟨Nat.le_of_ble_eq_true rfl, Nat.le_of_ble_eq_true rfl⟩ rfl (Nat.le_of_ble_eq_true rfl) ?_
    change KW x 1 6 Q σ_5 24 [some (kr 0), some (ki x1), none] []
    refine kw_aload_n C (kdec dc_P_listen 12 rfl) rfl 25 rfl rfl ?_
    refine kw_getR C (kdec dc_P_listen 13 rfl) 28 rfl fd_C_P_81_0 ?_
    obtain ⟨r_6, hg_9, h⟩ := kbind_h h
    refine kw_callV (As := []) C (kdec dc_P_listen 14 rfl) 31 rfl cv_P_308 rfl rfl (mt_pf_Oracle_mostUnlike_57 l0 hg_9) ⟨rfl, rfl⟩ ⟨Nat.le_of_ble_eq_true rfl, Nat.le_of_ble_eq_true rfl⟩ ⟨Nat.le_of_ble_eq_true rfl, Nat.le_of_ble_eq_true rfl⟩ rfl (Nat.le_of_ble_eq_true rfl) ?_
    change KW x 1 6 Q σ_5 31 [some (kr 0), some (ki x1), none] [ki r_6]
    refine kw_istore_n (L' := [some (kr 0), some (ki x1), some (ki r_6)]) C (kdec dc_P_listen 15 rfl) rfl 32 rfl (by decide) rfl rfl ?_
    refine kw_iload_n C (kdec dc_P_listen 16 rfl) rfl 33 rfl rfl ?_
    refine kw_if_ne C (kdec dc_P_listen 17 rfl) 38 36 (by decide) rfl (fun hc33 => ?_) (fun hc33 => ?_)
    · rw [if_neg hc33] at h
      refine kw_iload_n C (kdec dc_P_listen 20 rfl) rfl 39 rfl rfl ?_
      refine kw_iconst C (kdec dc_P_listen 21 rfl) 40 rfl rfl ⟨by decide, by decide⟩ ?_
      refine kw_icmp_ne C (kdec dc_P_listen 22 rfl) 47 43 (by decide) rfl (fun hc40 => ?_) (fun hc40 => ?_)
      · rw [if_neg hc40] at h
        refine kw_aload_n C (kdec dc_P_listen 25 rfl) rfl 48 rfl rfl ?_
        refine kw_getR C (kdec dc_P_listen 26 rfl) 51 rfl fd_C_P_81_0 ?_
        refine kw_iload_n C (kdec dc_P_listen 27 rfl) rfl 52 rfl rfl ?_
        obtain ⟨r_7, hg_8, h⟩ := kbind_h h
        refine kw_callV (As := [ki r_6]) C (kdec dc_P_listen 28 rfl) 55 rfl cv_P_311 rfl rfl (mt_pf_Oracle_unlikeScars_57 l0 hg_8) ⟨rfl, rfl⟩ ⟨Nat.le_of_ble_eq_true rfl, Nat.le_of_ble_eq_true rfl⟩ ⟨Nat.le_of_ble_eq_true rfl, Nat.le_of_ble_eq_true rfl⟩ rfl (Nat.le_of_ble_eq_true rfl) ?_
        change KW x 1 6 Q σ_5 55 [some (kr 0), some (ki x1), some (ki r_6)] [ki r_7]
        obtain rfl := Option.some.inj h
        exact kw_Q (hR _ _ rfl) (kw_xret (by decide) (by decide) (kw_ireturn C (kdec dc_P_listen 29 rfl)))
      · rw [if_pos hc40] at h
        refine kw_iconst C (kdec dc_P_listen 23 rfl) 44 rfl rfl ⟨by decide, by decide⟩ ?_
        refine kw_goto C (kdec dc_P_listen 24 rfl) 55 (by decide) ?_
        obtain rfl := Option.some.inj h
        exact kw_Q (hR _ _ rfl) (kw_xret (by decide) (by decide) (kw_ireturn C (kdec dc_P_listen 29 rfl)))
    · rw [if_pos hc33] at h
      refine kw_iload_n C (kdec dc_P_listen 18 rfl) rfl 37 rfl rfl ?_
      obtain rfl := Option.some.inj h
      exact kw_Q (hR _ _ rfl) (kw_xret (by decide) (by decide) (kw_ireturn C (kdec dc_P_listen 19 rfl)))
theorem mx_pf_P_listen_0 (l0 : Launch) (hfl : l0.stackTraces = false) {σ : kM} {x1 : Int} {r : Int} {τ : kM} (h : pf_P_listen_0 σ x1 = some (.inr r, τ)) : kXet l0 ky_P_listen prog_1_method_30_code 3 (some .int) R0_pf_P_listen_0 kcl yC σ [kr 0, ki x1] (.inr (some (ki r))) τ 1 6 := kXet.of [some (kr 0), some (ki x1), none] (by decide) (Nat.le_of_ble_eq_true rfl) ⟨rfl, rfl, trivial⟩ (fun x C hT => bd_pf_P_listen_0 C hT hfl σ x1 h (fun r τ e => by cases e; rfl) (fun E τ e => by cases e))
theorem me_pf_P_listen_0 (l0 : Launch) (hfl : l0.stackTraces = false) {σ : kM} {x1 : Int} {E : String} {τ : kM} (h : pf_P_listen_0 σ x1 = some (.inl E, τ)) : kXet l0 ky_P_listen prog_1_method_30_code 3 (some .int) R0_pf_P_listen_0 kcl yC σ [kr 0, ki x1] (.inl E) τ 1 6 := kXet.of [some (kr 0), some (ki x1), none] (by decide) (Nat.le_of_ble_eq_true rfl) ⟨rfl, rfl, trivial⟩ (fun x C hT => bd_pf_P_listen_0 C hT hfl σ x1 h (fun r τ e => by cases e) (fun E τ e => by cases e; rfl))
def R0_pf_Oracle_staysWhole_57 : Room := ({ frames := 5, cells := 0, slots := 0, locals := 123 } : Room)
def pf_Oracle_staysWhole_57_l7_j32 (σ : kM) (x1 : Int) (x2 : Int) (x3 : Int) (x4 : Int) (s0 : Int) : Option ((kM × Int) ⊕ ((kM))) :=
  (pf_Stage_passYear_64 σ s0).bind fun σ_2 =>
  klet (w32 (x4 + 1)) fun x4_3 =>
  some (Sum.inl (σ_2, x4_3))
set_option maxHeartbeats 4000000 in
theorem bd_pf_Oracle_staysWhole_57_l7_j32 {x : kX} {l0 : Launch} {Q : State → Prop} (C : kCx x prog_5_method_16_code "PoetFines$Oracle" (some .boolean) kcl yC 5 l0 R0_pf_Oracle_staysWhole_57) (σ : kM) (x1 : Int) (x2 : Int) (x3 : Int) (x4 : Int) (s0 : Int) {out : (kM × Int) ⊕ ((kM))} (h : pf_Oracle_staysWhole_57_l7_j32 σ x1 x2 x3 x4 s0 = some out) (hC : ∀ (σ' : kM) (x4' : Int), out = Sum.inl (σ', x4') → KW x 0 0 Q σ' 7 [some (kr 57), some (ki x1), some (ki x2), some (ki x3), some (ki x4')] []) (hX41 : ∀ (σ' : kM), out = Sum.inr σ' → KW x 0 0 Q σ' 41 [some (kr 57), some (ki x1), none, none, none] []) : KW x 0 0 Q σ 32 [some (kr 57), some (ki x1), some (ki x2), some (ki x3), some (ki x4)] [ki s0, kr 64] := by
  unfold pf_Oracle_staysWhole_57_l7_j32 at h
  obtain ⟨σ_2, hg_4, h⟩ := kbind_h h
  refine kw_callV (As := [ki s0]) C (kdec dc_Oracle_staysWhole 19 rfl) 35 rfl cv_Oracle_75 rfl rfl (mt_pf_Stage_passYear_64 l0 hg_4) ⟨rfl, rfl⟩ ⟨Nat.le_of_ble_eq_true rfl, Nat.le_of_ble_eq_true rfl⟩ ⟨Nat.zero_le _, Nat.zero_le _⟩ rfl (Nat.le_of_ble_eq_true rfl) ?_
  change KW x 0 0 Q σ_2 35 [some (kr 57), some (ki x1), some (ki x2), some (ki x3), some (ki x4)] []
  obtain ⟨x4_3, ex4_3, h⟩ := klet_h h
  refine kw_iinc (L' := [some (kr 57), some (ki x1), some (ki x2), some (ki x3), some (ki x4_3)]) C (kdec dc_Oracle_staysWhole 20 rfl) 38 rfl rfl (by decide) rfl (by rw [ex4_3]; rfl) ?_
  refine kw_goto C (kdec dc_Oracle_staysWhole 21 rfl) 7 (by decide) ?_
  obtain rfl := Option.some.inj h
  exact (hC _ _ rfl)
def pf_Oracle_staysWhole_57_l7 (σ : kM) (x1 : Int) (x2 : Int) (x3 : Int) (x4 : Int) : Option ((kM × Int) ⊕ ((kM))) :=
  if x2 ≤ x4 then
    some (Sum.inr σ)
  else
    if (kand (kshr x3 x4) 1) = 1 then
      pf_Oracle_staysWhole_57_l7_j32 σ x1 x2 x3 x4 1
    else
      pf_Oracle_staysWhole_57_l7_j32 σ x1 x2 x3 x4 0
set_option maxHeartbeats 4000000 in
theorem bd_pf_Oracle_staysWhole_57_l7 {x : kX} {l0 : Launch} {Q : State → Prop} (C : kCx x prog_5_method_16_code "PoetFines$Oracle" (some .boolean) kcl yC 5 l0 R0_pf_Oracle_staysWhole_57) (σ : kM) (x1 : Int) (x2 : Int) (x3 : Int) (x4 : Int) {out : (kM × Int) ⊕ ((kM))} (h : pf_Oracle_staysWhole_57_l7 σ x1 x2 x3 x4 = some out) (hC : ∀ (σ' : kM) (x4' : Int), out = Sum.inl (σ', x4') → KW x 0 0 Q σ' 7 [some (kr 57), some (ki x1), some (ki x2), some (ki x3), some (ki x4')] []) (hX41 : ∀ (σ' : kM), out = Sum.inr σ' → KW x 0 0 Q σ' 41 [some (kr 57), some (ki x1), none, none, none] []) : KW x 0 0 Q σ 7 [some (kr 57), some (ki x1), some (ki x2), some (ki x3), some (ki x4)] [] := by
  unfold pf_Oracle_staysWhole_57_l7 at h
  refine kw_iload C (kdec dc_Oracle_staysWhole 4 rfl) 9 rfl rfl ?_
  refine kw_iload_n C (kdec dc_Oracle_staysWhole 5 rfl) rfl 10 rfl rfl ?_
  refine kw_icmp_ge C (kdec dc_Oracle_staysWhole 6 rfl) 41 13 (by decide) rfl (fun hc10 => ?_) (fun hc10 => ?_)
  · rw [if_pos hc10] at h
    obtain rfl := Option.some.inj h
    exact kw_sub (L' := [some (kr 57), some (ki x1), none, none, none]) ⟨rfl, rfl, trivial⟩ (hX41 _ rfl)
  · rw [if_neg hc10] at h
    refine kw_aload_n C (kdec dc_Oracle_staysWhole 7 rfl) rfl 14 rfl rfl ?_
    refine kw_getR C (kdec dc_Oracle_staysWhole 8 rfl) 17 rfl fd_C_Oracle_55_57 ?_
    refine kw_iload_n C (kdec dc_Oracle_staysWhole 9 rfl) rfl 18 rfl rfl ?_
    refine kw_iload C (kdec dc_Oracle_staysWhole 10 rfl) 20 rfl rfl ?_
    refine kw_ishr C (kdec dc_Oracle_staysWhole 11 rfl) 21 rfl ?_
    refine kw_iconst C (kdec dc_Oracle_staysWhole 12 rfl) 22 rfl rfl ⟨by decide, by decide⟩ ?_
    refine kw_iand C (kdec dc_Oracle_staysWhole 13 rfl) 23 rfl ?_
    refine kw_iconst C (kdec dc_Oracle_staysWhole 14 rfl) 24 rfl rfl ⟨by decide, by decide⟩ ?_
    refine kw_icmp_ne C (kdec dc_Oracle_staysWhole 15 rfl) 31 27 (by decide) rfl (fun hc24 => ?_) (fun hc24 => ?_)
    · rw [if_neg hc24] at h
      refine kw_iconst C (kdec dc_Oracle_staysWhole 18 rfl) 32 rfl rfl ⟨by decide, by decide⟩ ?_
      exact bd_pf_Oracle_staysWhole_57_l7_j32 C σ x1 x2 x3 x4 0 h hC hX41
    · rw [if_pos hc24] at h
      refine kw_iconst C (kdec dc_Oracle_staysWhole 16 rfl) 28 rfl rfl ⟨by decide, by decide⟩ ?_
      refine kw_goto C (kdec dc_Oracle_staysWhole 17 rfl) 32 (by decide) ?_
      exact bd_pf_Oracle_staysWhole_57_l7_j32 C σ x1 x2 x3 x4 1 h hC hX41
theorem lp_pf_Oracle_staysWhole_57_l7 {x : kX} {l0 : Launch} {Q : State → Prop} (C : kCx x prog_5_method_16_code "PoetFines$Oracle" (some .boolean) kcl yC 5 l0 R0_pf_Oracle_staysWhole_57) (x1 : Int) (x2 : Int) (x3 : Int) {ex : (kM)} (hX41 : ∀ (σ' : kM), ex = σ' → KW x 0 0 Q σ' 41 [some (kr 57), some (ki x1), none, none, none] []) (n : Nat) (σ : kM) (x4 : Int) (h : kloop (fun st => pf_Oracle_staysWhole_57_l7 st.1 x1 x2 x3 st.2) n (σ, x4) = some ex) : KW x 0 0 Q σ 7 [some (kr 57), some (ki x1), some (ki x2), some (ki x3), some (ki x4)] [] :=
  kloop_ind (P := (fun st : kM × Int => KW x 0 0 Q st.1 7 [some (kr 57), some (ki x1), some (ki x2), some (ki x3), some (ki (st.2))] [])) (fun st out hb hc hx => bd_pf_Oracle_staysWhole_57_l7 C st.1 x1 x2 x3 st.2 hb (fun a0 a1 e => hc _ e) (fun a0 e => hX41 _ ((hx _ e).symm))) n (σ, x4) h
def pf_Oracle_staysWhole_57 (σ : kM) (x1 : Int) (x2 : Int) (x3 : Int) : Option (Int × kM) :=
  (pf_Oracle_begin_57 σ).bind fun σ_1 =>
  (kloop (fun st => pf_Oracle_staysWhole_57_l7 st.1 x1 x2 x3 st.2) kFuel (σ_1, 0)).bind fun σ_7 =>
  kchk (0 ≤ (w32 (9 + x1)) ∧ (w32 (9 + x1)) < 85) <|
  if (σ_7 59 (w32 (9 + x1)).toNat) = 0 then
    some ((1, σ_7))
  else
    some ((0, σ_7))
set_option maxHeartbeats 4000000 in
theorem bd_pf_Oracle_staysWhole_57 {x : kX} {l0 : Launch} {Q : State → Prop} (C : kCx x prog_5_method_16_code "PoetFines$Oracle" (some .boolean) kcl yC 5 l0 R0_pf_Oracle_staysWhole_57) (σ : kM) (x1 : Int) (x2 : Int) (x3 : Int) {out : Int × kM} (h : pf_Oracle_staysWhole_57 σ x1 x2 x3 = some out) (hR : ∀ (r : Int) (τ : kM), out = (r, τ) → Q = kQ x (some (ki r)) τ 0 0) : KW x 0 0 Q σ 0 [some (kr 57), some (ki x1), some (ki x2), some (ki x3), none] [] := by
  unfold pf_Oracle_staysWhole_57 at h
  refine kw_aload_n C (kdec dc_Oracle_staysWhole 0 rfl) rfl 1 rfl rfl ?_
  obtain ⟨σ_1, hg_9, h⟩ := kbind_h h
  refine kw_callV (As := []) C (kdec dc_Oracle_staysWhole 1 rfl) 4 rfl cv_Oracle_64 rfl rfl (mt_pf_Oracle_begin_57 l0 hg_9) ⟨rfl, rfl⟩ ⟨Nat.le_of_ble_eq_true rfl, Nat.le_of_ble_eq_true rfl⟩ ⟨Nat.zero_le _, Nat.zero_le _⟩ rfl (Nat.le_of_ble_eq_true rfl) ?_
  change KW x 0 0 Q σ_1 4 [some (kr 57), some (ki x1), some (ki x2), some (ki x3), none] []
  refine kw_iconst C (kdec dc_Oracle_staysWhole 2 rfl) 5 rfl rfl ⟨by decide, by decide⟩ ?_
  refine kw_istore (L' := [some (kr 57), some (ki x1), some (ki x2), some (ki x3), some (ki 0)]) C (kdec dc_Oracle_staysWhole 3 rfl) 7 rfl (by decide) rfl rfl ?_
  obtain ⟨ex_5, hl_6, h⟩ := kbind_h h
  refine lp_pf_Oracle_staysWhole_57_l7 C x1 x2 x3 ?_ kFuel σ_1 0 hl_6
  · intro σ_7 e
    subst ex_5
    try dsimp only at h
    refine kw_aload_n C (kdec dc_Oracle_staysWhole 22 rfl) rfl 42 rfl rfl ?_
    refine kw_getR C (kdec dc_Oracle_staysWhole 23 rfl) 45 rfl fd_C_Oracle_12_57 ?_
    refine kw_getR C (kdec dc_Oracle_staysWhole 24 rfl) 48 rfl fd_C_Oracle_84_58 ?_
    refine kw_bipush (v := 9) C (kdec dc_Oracle_staysWhole 25 rfl) 50 rfl (by decide) ⟨by decide, by decide⟩ ?_
    refine kw_iload_n C (kdec dc_Oracle_staysWhole 26 rfl) rfl 51 rfl rfl ?_
    refine kw_iadd C (kdec dc_Oracle_staysWhole 27 rfl) 52 rfl ?_
    obtain ⟨hc_8, h⟩ := kchk_h h
    refine kw_iald C (kdec dc_Oracle_staysWhole 28 rfl) 53 rfl rfl hc_8.1 hc_8.2 ?_
    refine kw_if_ne C (kdec dc_Oracle_staysWhole 29 rfl) 60 56 (by decide) rfl (fun hc53 => ?_) (fun hc53 => ?_)
    · rw [if_neg hc53] at h
      refine kw_iconst C (kdec dc_Oracle_staysWhole 32 rfl) 61 rfl rfl ⟨by decide, by decide⟩ ?_
      obtain rfl := Option.some.inj h
      exact kw_Q (hR _ _ rfl) (kw_zreturn C (kdec dc_Oracle_staysWhole 33 rfl) (by decide))
    · rw [if_pos hc53] at h
      refine kw_iconst C (kdec dc_Oracle_staysWhole 30 rfl) 57 rfl rfl ⟨by decide, by decide⟩ ?_
      refine kw_goto C (kdec dc_Oracle_staysWhole 31 rfl) 61 (by decide) ?_
      obtain rfl := Option.some.inj h
      exact kw_Q (hR _ _ rfl) (kw_zreturn C (kdec dc_Oracle_staysWhole 33 rfl) (by decide))
theorem mt_pf_Oracle_staysWhole_57 (l0 : Launch) {σ : kM} {x1 : Int} {x2 : Int} {x3 : Int} {r : Int} {τ : kM} (h : pf_Oracle_staysWhole_57 σ x1 x2 x3 = some (r, τ)) : kMet l0 ky_Oracle_staysWhole prog_5_method_16_code 5 (some .boolean) R0_pf_Oracle_staysWhole_57 kcl yC σ [kr 57, ki x1, ki x2, ki x3] (some (ki r)) τ := kMet.of' [some (kr 57), some (ki x1), some (ki x2), some (ki x3), none] (by decide) (Nat.le_of_ble_eq_true rfl) ⟨rfl, rfl, rfl, rfl, trivial⟩ (fun x C => bd_pf_Oracle_staysWhole_57 C σ x1 x2 x3 h (fun r τ e => by cases e; rfl))
def R0_pf_Oracle_chanceWhole_57 : Room := ({ frames := 6, cells := 0, slots := 0, locals := 147 } : Room)
def pf_Oracle_chanceWhole_57_l20_j47 (σ : kM) (x1 : Int) (x2 : Int) (x3 : Int) (x4 : Int) (x5 : Int) (x7 : Int) (s0 : Int) (s1 : Int) : Option ((Int × Int) ⊕ ((Int))) :=
  klet (w32 (s1 * s0)) fun x6_1 =>
  klet (w32 (x7 + 1)) fun x7_2 =>
  some (Sum.inl (x6_1, x7_2))
set_option maxHeartbeats 4000000 in
theorem bd_pf_Oracle_chanceWhole_57_l20_j47 {x : kX} {l0 : Launch} {Q : State → Prop} (C : kCx x prog_5_method_15_code "PoetFines$Oracle" (some .int) kcl yC 8 l0 R0_pf_Oracle_chanceWhole_57) (σ : kM) (x1 : Int) (x2 : Int) (x3 : Int) (x4 : Int) (x5 : Int) (x7 : Int) (s0 : Int) (s1 : Int) {out : (Int × Int) ⊕ ((Int))} (h : pf_Oracle_chanceWhole_57_l20_j47 σ x1 x2 x3 x4 x5 x7 s0 s1 = some out) (hC : ∀ (x6' : Int) (x7' : Int), out = Sum.inl (x6', x7') → KW x 0 0 Q σ 20 [some (kr 57), some (ki x1), some (ki x2), some (ki x3), some (ki x4), some (ki x5), some (ki x6'), some (ki x7')] []) (hX56 : ∀ (x6' : Int), out = Sum.inr x6' → KW x 0 0 Q σ 56 [some (kr 57), some (ki x1), some (ki x2), some (ki x3), some (ki x4), some (ki x5), some (ki x6'), none] []) : KW x 0 0 Q σ 47 [some (kr 57), some (ki x1), some (ki x2), some (ki x3), some (ki x4), some (ki x5), none, some (ki x7)] [ki s0, ki s1] := by
  unfold pf_Oracle_chanceWhole_57_l20_j47 at h
  refine kw_imul C (kdec dc_Oracle_chanceWhole 29 rfl) 48 rfl ?_
  obtain ⟨x6_1, ex6_1, h⟩ := klet_h h
  refine kw_top ex6_1 ?_
  refine kw_istore (L' := [some (kr 57), some (ki x1), some (ki x2), some (ki x3), some (ki x4), some (ki x5), some (ki x6_1), some (ki x7)]) C (kdec dc_Oracle_chanceWhole 30 rfl) 50 rfl (by decide) rfl rfl ?_
  obtain ⟨x7_2, ex7_2, h⟩ := klet_h h
  refine kw_iinc (L' := [some (kr 57), some (ki x1), some (ki x2), some (ki x3), some (ki x4), some (ki x5), some (ki x6_1), some (ki x7_2)]) C (kdec dc_Oracle_chanceWhole 31 rfl) 53 rfl rfl (by decide) rfl (by rw [ex7_2]; rfl) ?_
  refine kw_goto C (kdec dc_Oracle_chanceWhole 32 rfl) 20 (by decide) ?_
  obtain rfl := Option.some.inj h
  exact (hC _ _ rfl)
def pf_Oracle_chanceWhole_57_l20 (σ : kM) (x1 : Int) (x2 : Int) (x3 : Int) (x4 : Int) (x5 : Int) (x6 : Int) (x7 : Int) : Option ((Int × Int) ⊕ ((Int))) :=
  if x2 ≤ x7 then
    some (Sum.inr x6)
  else
    if (kand (kshr x5 x7) 1) = 1 then
      pf_Oracle_chanceWhole_57_l20_j47 σ x1 x2 x3 x4 x5 x7 x3 x6
    else
      pf_Oracle_chanceWhole_57_l20_j47 σ x1 x2 x3 x4 x5 x7 (w32 (10 - x3)) x6
set_option maxHeartbeats 4000000 in
theorem bd_pf_Oracle_chanceWhole_57_l20 {x : kX} {l0 : Launch} {Q : State → Prop} (C : kCx x prog_5_method_15_code "PoetFines$Oracle" (some .int) kcl yC 8 l0 R0_pf_Oracle_chanceWhole_57) (σ : kM) (x1 : Int) (x2 : Int) (x3 : Int) (x4 : Int) (x5 : Int) (x6 : Int) (x7 : Int) {out : (Int × Int) ⊕ ((Int))} (h : pf_Oracle_chanceWhole_57_l20 σ x1 x2 x3 x4 x5 x6 x7 = some out) (hC : ∀ (x6' : Int) (x7' : Int), out = Sum.inl (x6', x7') → KW x 0 0 Q σ 20 [some (kr 57), some (ki x1), some (ki x2), some (ki x3), some (ki x4), some (ki x5), some (ki x6'), some (ki x7')] []) (hX56 : ∀ (x6' : Int), out = Sum.inr x6' → KW x 0 0 Q σ 56 [some (kr 57), some (ki x1), some (ki x2), some (ki x3), some (ki x4), some (ki x5), some (ki x6'), none] []) : KW x 0 0 Q σ 20 [some (kr 57), some (ki x1), some (ki x2), some (ki x3), some (ki x4), some (ki x5), some (ki x6), some (ki x7)] [] := by
  unfold pf_Oracle_chanceWhole_57_l20 at h
  refine kw_iload C (kdec dc_Oracle_chanceWhole 13 rfl) 22 rfl rfl ?_
  refine kw_iload_n C (kdec dc_Oracle_chanceWhole 14 rfl) rfl 23 rfl rfl ?_
  refine kw_icmp_ge C (kdec dc_Oracle_chanceWhole 15 rfl) 56 26 (by decide) rfl (fun hc23 => ?_) (fun hc23 => ?_)
  · rw [if_pos hc23] at h
    obtain rfl := Option.some.inj h
    exact kw_sub (L' := [some (kr 57), some (ki x1), some (ki x2), some (ki x3), some (ki x4), some (ki x5), some (ki x6), none]) ⟨rfl, rfl, rfl, rfl, rfl, rfl, rfl, trivial⟩ (hX56 _ rfl)
  · rw [if_neg hc23] at h
    refine kw_iload C (kdec dc_Oracle_chanceWhole 16 rfl) 28 rfl rfl ?_
    refine kw_iload C (kdec dc_Oracle_chanceWhole 17 rfl) 30 rfl rfl ?_
    refine kw_iload C (kdec dc_Oracle_chanceWhole 18 rfl) 32 rfl rfl ?_
    refine kw_ishr C (kdec dc_Oracle_chanceWhole 19 rfl) 33 rfl ?_
    refine kw_iconst C (kdec dc_Oracle_chanceWhole 20 rfl) 34 rfl rfl ⟨by decide, by decide⟩ ?_
    refine kw_iand C (kdec dc_Oracle_chanceWhole 21 rfl) 35 rfl ?_
    refine kw_iconst C (kdec dc_Oracle_chanceWhole 22 rfl) 36 rfl rfl ⟨by decide, by decide⟩ ?_
    refine kw_icmp_ne C (kdec dc_Oracle_chanceWhole 23 rfl) 43 39 (by decide) rfl (fun hc36 => ?_) (fun hc36 => ?_)
    · rw [if_neg hc36] at h
      refine kw_bipush (v := 10) C (kdec dc_Oracle_chanceWhole 26 rfl) 45 rfl (by decide) ⟨by decide, by decide⟩ ?_
      refine kw_iload_n C (kdec dc_Oracle_chanceWhole 27 rfl) rfl 46 rfl rfl ?_
      refine kw_isub C (kdec dc_Oracle_chanceWhole 28 rfl) 47 rfl ?_
      exact kw_sub (L' := [some (kr 57), some (ki x1), some (ki x2), some (ki x3), some (ki x4), some (ki x5), none, some (ki x7)]) ⟨rfl, rfl, rfl, rfl, rfl, rfl, rfl, trivial⟩ (bd_pf_Oracle_chanceWhole_57_l20_j47 C σ x1 x2 x3 x4 x5 x7 (w32 (10 - x3)) x6 h hC hX56)
    · rw [if_pos hc36] at h
      refine kw_iload_n C (kdec dc_Oracle_chanceWhole 24 rfl) rfl 40 rfl rfl ?_
      refine kw_goto C (kdec dc_Oracle_chanceWhole 25 rfl) 47 (by decide) ?_
      exact kw_sub (L' := [some (kr 57), some (ki x1), some (ki x2), some (ki x3), some (ki x4), some (ki x5), none, some (ki x7)]) ⟨rfl, rfl, rfl, rfl, rfl, rfl, rfl, trivial⟩ (bd_pf_Oracle_chanceWhole_57_l20_j47 C σ x1 x2 x3 x4 x5 x7 x3 x6 h hC hX56)
theorem lp_pf_Oracle_chanceWhole_57_l20 {x : kX} {l0 : Launch} {Q : State → Prop} (C : kCx x prog_5_method_15_code "PoetFines$Oracle" (some .int) kcl yC 8 l0 R0_pf_Oracle_chanceWhole_57) (σ : kM) (x1 : Int) (x2 : Int) (x3 : Int) (x4 : Int) (x5 : Int) {ex : (Int)} (hX56 : ∀ (x6' : Int), ex = x6' → KW x 0 0 Q σ 56 [some (kr 57), some (ki x1), some (ki x2), some (ki x3), some (ki x4), some (ki x5), some (ki x6'), none] []) (n : Nat) (x6 : Int) (x7 : Int) (h : kloop (fun st => pf_Oracle_chanceWhole_57_l20 σ x1 x2 x3 x4 x5 st.1 st.2) n (x6, x7) = some ex) : KW x 0 0 Q σ 20 [some (kr 57), some (ki x1), some (ki x2), some (ki x3), some (ki x4), some (ki x5), some (ki x6), some (ki x7)] [] :=
  kloop_ind (P := (fun st : Int × Int => KW x 0 0 Q σ 20 [some (kr 57), some (ki x1), some (ki x2), some (ki x3), some (ki x4), some (ki x5), some (ki (st.1)), some (ki (st.2))] [])) (fun st out hb hc hx => bd_pf_Oracle_chanceWhole_57_l20 C σ x1 x2 x3 x4 x5 st.1 st.2 hb (fun a0 a1 e => hc _ e) (fun a0 e => hX56 _ ((hx _ e).symm))) n (x6, x7) h
def pf_Oracle_chanceWhole_57_l6_j79 (σ : kM) (x1 : Int) (x2 : Int) (x3 : Int) (x4 : Int) (x5 : Int) : Option ((kM × Int × Int) ⊕ ((kM × Int))) :=
  klet (w32 (x5 + 1)) fun x5_6 =>
  some (Sum.inl (σ, x4, x5_6))
set_option maxHeartbeats 4000000 in
theorem bd_pf_Oracle_chanceWhole_57_l6_j79 {x : kX} {l0 : Launch} {Q : State → Prop} (C : kCx x prog_5_method_15_code "PoetFines$Oracle" (some .int) kcl yC 8 l0 R0_pf_Oracle_chanceWhole_57) (σ : kM) (x1 : Int) (x2 : Int) (x3 : Int) (x4 : Int) (x5 : Int) {out : (kM × Int × Int) ⊕ ((kM × Int))} (h : pf_Oracle_chanceWhole_57_l6_j79 σ x1 x2 x3 x4 x5 = some out) (hC : ∀ (σ' : kM) (x4' : Int) (x5' : Int), out = Sum.inl (σ', x4', x5') → KW x 0 0 Q σ' 6 [some (kr 57), some (ki x1), some (ki x2), some (ki x3), some (ki x4'), some (ki x5'), none, none] []) (hX85 : ∀ (σ' : kM) (x4' : Int), out = Sum.inr (σ', x4') → KW x 0 0 Q σ' 85 [none, none, none, none, some (ki x4'), none, none, none] []) : KW x 0 0 Q σ 79 [some (kr 57), some (ki x1), some (ki x2), some (ki x3), some (ki x4), some (ki x5), none, none] [] := by
  unfold pf_Oracle_chanceWhole_57_l6_j79 at h
  obtain ⟨x5_6, ex5_6, h⟩ := klet_h h
  refine kw_iinc (L' := [some (kr 57), some (ki x1), some (ki x2), some (ki x3), some (ki x4), some (ki x5_6), none, none]) C (kdec dc_Oracle_chanceWhole 45 rfl) 82 rfl rfl (by decide) rfl (by rw [ex5_6]; rfl) ?_
  refine kw_goto C (kdec dc_Oracle_chanceWhole 46 rfl) 6 (by decide) ?_
  obtain rfl := Option.some.inj h
  exact (hC _ _ _ rfl)
def pf_Oracle_chanceWhole_57_l6 (σ : kM) (x1 : Int) (x2 : Int) (x3 : Int) (x4 : Int) (x5 : Int) : Option ((kM × Int × Int) ⊕ ((kM × Int))) :=
  if (kshl 1 x2) ≤ x5 then
    some (Sum.inr (σ, x4))
  else
    (kloop (fun st => pf_Oracle_chanceWhole_57_l20 σ x1 x2 x3 x4 x5 st.1 st.2) kFuel (1, 0)).bind fun x6_5 =>
    if x6_5 ≤ 0 then
      pf_Oracle_chanceWhole_57_l6_j79 σ x1 x2 x3 x4 x5
    else
      (pf_Oracle_staysWhole_57 σ x1 x2 x5).bind fun (r_7, σ_8) =>
      if r_7 = 0 then
        pf_Oracle_chanceWhole_57_l6_j79 σ_8 x1 x2 x3 x4 x5
      else
        klet (w32 (x4 + x6_5)) fun x4_9 =>
        pf_Oracle_chanceWhole_57_l6_j79 σ_8 x1 x2 x3 x4_9 x5
set_option maxHeartbeats 4000000 in
theorem bd_pf_Oracle_chanceWhole_57_l6 {x : kX} {l0 : Launch} {Q : State → Prop} (C : kCx x prog_5_method_15_code "PoetFines$Oracle" (some .int) kcl yC 8 l0 R0_pf_Oracle_chanceWhole_57) (σ : kM) (x1 : Int) (x2 : Int) (x3 : Int) (x4 : Int) (x5 : Int) {out : (kM × Int × Int) ⊕ ((kM × Int))} (h : pf_Oracle_chanceWhole_57_l6 σ x1 x2 x3 x4 x5 = some out) (hC : ∀ (σ' : kM) (x4' : Int) (x5' : Int), out = Sum.inl (σ', x4', x5') → KW x 0 0 Q σ' 6 [some (kr 57), some (ki x1), some (ki x2), some (ki x3), some (ki x4'), some (ki x5'), none, none] []) (hX85 : ∀ (σ' : kM) (x4' : Int), out = Sum.inr (σ', x4') → KW x 0 0 Q σ' 85 [none, none, none, none, some (ki x4'), none, none, none] []) : KW x 0 0 Q σ 6 [some (kr 57), some (ki x1), some (ki x2), some (ki x3), some (ki x4), some (ki x5), none, none] [] := by
  unfold pf_Oracle_chanceWhole_57_l6 at h
  refine kw_iload C (kdec dc_Oracle_chanceWhole 4 rfl) 8 rfl rfl ?_
  refine kw_iconst C (kdec dc_Oracle_chanceWhole 5 rfl) 9 rfl rfl ⟨by decide, by decide⟩ ?_
  refine kw_iload_n C (kdec dc_Oracle_chanceWhole 6 rfl) rfl 10 rfl rfl ?_
  refine kw_ishl C (kdec dc_Oracle_chanceWhole 7 rfl) 11 rfl ?_
  refine kw_icmp_ge C (kdec dc_Oracle_chanceWhole 8 rfl) 85 14 (by decide) rfl (fun hc11 => ?_) (fun hc11 => ?_)
  · rw [if_pos hc11] at h
    obtain rfl := Option.some.inj h
    exact kw_sub (L' := [none, none, none, none, some (ki x4), none, none, none]) ⟨rfl, trivial⟩ (hX85 _ _ rfl)
  · rw [if_neg hc11] at h
    refine kw_iconst C (kdec dc_Oracle_chanceWhole 9 rfl) 15 rfl rfl ⟨by decide, by decide⟩ ?_
    refine kw_istore (L' := [some (kr 57), some (ki x1), some (ki x2), some (ki x3), some (ki x4), some (ki x5), some (ki 1), none]) C (kdec dc_Oracle_chanceWhole 10 rfl) 17 rfl (by decide) rfl rfl ?_
    refine kw_iconst C (kdec dc_Oracle_chanceWhole 11 rfl) 18 rfl rfl ⟨by decide, by decide⟩ ?_
    refine kw_istore (L' := [some (kr 57), some (ki x1), some (ki x2), some (ki x3), some (ki x4), some (ki x5), some (ki 1), some (ki 0)]) C (kdec dc_Oracle_chanceWhole 12 rfl) 20 rfl (by decide) rfl rfl ?_
    obtain ⟨ex_3, hl_4, h⟩ := kbind_h h
    refine lp_pf_Oracle_chanceWhole_57_l20 C σ x1 x2 x3 x4 x5 ?_ kFuel 1 0 hl_4
    · intro x6_5 e
      subst ex_3
      try dsimp only at h
      refine kw_iload C (kdec dc_Oracle_chanceWhole 33 rfl) 58 rfl rfl ?_
      refine kw_if_le C (kdec dc_Oracle_chanceWhole 34 rfl) 79 61 (by decide) rfl (fun hc58 => ?_) (fun hc58 => ?_)
      · rw [if_pos hc58] at h
        exact kw_sub (L' := [some (kr 57), some (ki x1), some (ki x2), some (ki x3), some (ki x4), some (ki x5), none, none]) ⟨rfl, rfl, rfl, rfl, rfl, rfl, trivial⟩ (bd_pf_Oracle_chanceWhole_57_l6_j79 C σ x1 x2 x3 x4 x5 h hC hX85)
      · rw [if_neg hc58] at h
        refine kw_aload_n C (kdec dc_Oracle_chanceWhole 35 rfl) rfl 62 rfl rfl ?_
        refine kw_iload_n C (kdec dc_Oracle_chanceWhole 36 rfl) rfl 63 rfl rfl ?_
        refine kw_iload_n C (kdec dc_Oracle_chanceWhole 37 rfl) rfl 64 rfl rfl ?_
        refine kw_iload C (kdec dc_Oracle_chanceWhole 38 rfl) 66 rfl rfl ?_
        obtain ⟨⟨r_7, σ_8⟩, hg_10, h⟩ := kbind_h h
        dsimp only at h
        refine kw_callV (As := [ki x1, ki x2, ki x5]) C (kdec dc_Oracle_chanceWhole 39 rfl) 69 rfl cv_Oracle_158 rfl rfl (mt_pf_Oracle_staysWhole_57 l0 hg_10) ⟨rfl, rfl⟩ ⟨Nat.le_of_ble_eq_true rfl, Nat.le_of_ble_eq_true rfl⟩ ⟨Nat.zero_le _, Nat.zero_le _⟩ rfl (Nat.le_of_ble_eq_true rfl) ?_
        change KW x 0 0 Q σ_8 69 [some (kr 57), some (ki x1), some (ki x2), some (ki x3), some (ki x4), some (ki x5), some (ki x6_5), none] [ki r_7]
        refine kw_if_eq C (kdec dc_Oracle_chanceWhole 40 rfl) 79 72 (by decide) rfl (fun hc69 => ?_) (fun hc69 => ?_)
        · rw [if_pos hc69] at h
          exact kw_sub (L' := [some (kr 57), some (ki x1), some (ki x2), some (ki x3), some (ki x4), some (ki x5), none, none]) ⟨rfl, rfl, rfl, rfl, rfl, rfl, trivial⟩ (bd_pf_Oracle_chanceWhole_57_l6_j79 C σ_8 x1 x2 x3 x4 x5 h hC hX85)
        · rw [if_neg hc69] at h
          refine kw_iload C (kdec dc_Oracle_chanceWhole 41 rfl) 74 rfl rfl ?_
          refine kw_iload C (kdec dc_Oracle_chanceWhole 42 rfl) 76 rfl rfl ?_
          refine kw_iadd C (kdec dc_Oracle_chanceWhole 43 rfl) 77 rfl ?_
          obtain ⟨x4_9, ex4_9, h⟩ := klet_h h
          refine kw_top ex4_9 ?_
          refine kw_istore (L' := [some (kr 57), some (ki x1), some (ki x2), some (ki x3), some (ki x4_9), some (ki x5), some (ki x6_5), none]) C (kdec dc_Oracle_chanceWhole 44 rfl) 79 rfl (by decide) rfl rfl ?_
          exact kw_sub (L' := [some (kr 57), some (ki x1), some (ki x2), some (ki x3), some (ki x4_9), some (ki x5), none, none]) ⟨rfl, rfl, rfl, rfl, rfl, rfl, trivial⟩ (bd_pf_Oracle_chanceWhole_57_l6_j79 C σ_8 x1 x2 x3 x4_9 x5 h hC hX85)
theorem lp_pf_Oracle_chanceWhole_57_l6 {x : kX} {l0 : Launch} {Q : State → Prop} (C : kCx x prog_5_method_15_code "PoetFines$Oracle" (some .int) kcl yC 8 l0 R0_pf_Oracle_chanceWhole_57) (x1 : Int) (x2 : Int) (x3 : Int) {ex : (kM × Int)} (hX85 : ∀ (σ' : kM) (x4' : Int), ex = (σ', x4') → KW x 0 0 Q σ' 85 [none, none, none, none, some (ki x4'), none, none, none] []) (n : Nat) (σ : kM) (x4 : Int) (x5 : Int) (h : kloop (fun st => pf_Oracle_chanceWhole_57_l6 st.1 x1 x2 x3 st.2.1 st.2.2) n (σ, x4, x5) = some ex) : KW x 0 0 Q σ 6 [some (kr 57), some (ki x1), some (ki x2), some (ki x3), some (ki x4), some (ki x5), none, none] [] :=
  kloop_ind (P := (fun st : kM × Int × Int => KW x 0 0 Q st.1 6 [some (kr 57), some (ki x1), some (ki x2), some (ki x3), some (ki (st.2.1)), some (ki (st.2.2)), none, none] [])) (fun st out hb hc hx => bd_pf_Oracle_chanceWhole_57_l6 C st.1 x1 x2 x3 st.2.1 st.2.2 hb (fun a0 a1 a2 e => hc _ e) (fun a0 a1 e => hX85 _ _ ((hx _ e).symm))) n (σ, x4, x5) h
def pf_Oracle_chanceWhole_57 (σ : kM) (x1 : Int) (x2 : Int) (x3 : Int) : Option (Int × kM) :=
  (kloop (fun st => pf_Oracle_chanceWhole_57_l6 st.1 x1 x2 x3 st.2.1 st.2.2) kFuel (σ, 0, 0)).bind fun (σ_13, x4_14) =>
  some ((x4_14, σ_13))
set_option maxHeartbeats 4000000 in
theorem bd_pf_Oracle_chanceWhole_57 {x : kX} {l0 : Launch} {Q : State → Prop} (C : kCx x prog_5_method_15_code "PoetFines$Oracle" (some .int) kcl yC 8 l0 R0_pf_Oracle_chanceWhole_57) (σ : kM) (x1 : Int) (x2 : Int) (x3 : Int) {out : Int × kM} (h : pf_Oracle_chanceWhole_57 σ x1 x2 x3 = some out) (hR : ∀ (r : Int) (τ : kM), out = (r, τ) → Q = kQ x (some (ki r)) τ 0 0) : KW x 0 0 Q σ 0 [some (kr 57), some (ki x1), some (ki x2), some (ki x3), none, none, none, none] [] := by
  unfold pf_Oracle_chanceWhole_57 at h
  refine kw_iconst C (kdec dc_Oracle_chanceWhole 0 rfl) 1 rfl rfl ⟨by decide, by decide⟩ ?_
  refine kw_istore (L' := [some (kr 57), some (ki x1), some (ki x2), some (ki x3), some (ki 0), none, none, none]) C (kdec dc_Oracle_chanceWhole 1 rfl) 3 rfl (by decide) rfl rfl ?_
  refine kw_iconst C (kdec dc_Oracle_chanceWhole 2 rfl) 4 rfl rfl ⟨by decide, by decide⟩ ?_
  refine kw_istore (L' := [some (kr 57), some (ki x1), some (ki x2), some (ki x3), some (ki 0), some (ki 0), none, none]) C (kdec dc_Oracle_chanceWhole 3 rfl) 6 rfl (by decide) rfl rfl ?_
  obtain ⟨ex_11, hl_12, h⟩ := kbind_h h
  refine lp_pf_Oracle_chanceWhole_57_l6 C x1 x2 x3 ?_ kFuel σ 0 0 hl_12
  · intro σ_13 x4_14 e
    subst ex_11
    try dsimp only at h
    refine kw_iload C (kdec dc_Oracle_chanceWhole 47 rfl) 87 rfl rfl ?_
    obtain rfl := Option.some.inj h
    exact kw_Q (hR _ _ rfl) (kw_ireturn C (kdec dc_Oracle_chanceWhole 48 rfl))
theorem mt_pf_Oracle_chanceWhole_57 (l0 : Launch) {σ : kM} {x1 : Int} {x2 : Int} {x3 : Int} {r : Int} {τ : kM} (h : pf_Oracle_chanceWhole_57 σ x1 x2 x3 = some (r, τ)) : kMet l0 ky_Oracle_chanceWhole prog_5_method_15_code 8 (some .int) R0_pf_Oracle_chanceWhole_57 kcl yC σ [kr 57, ki x1, ki x2, ki x3] (some (ki r)) τ := kMet.of' [some (kr 57), some (ki x1), some (ki x2), some (ki x3), none, none, none, none] (by decide) (Nat.le_of_ble_eq_true rfl) ⟨rfl, rfl, rfl, rfl, trivial⟩ (fun x C => bd_pf_Oracle_chanceWhole_57 C σ x1 x2 x3 h (fun r τ e => by cases e; rfl))

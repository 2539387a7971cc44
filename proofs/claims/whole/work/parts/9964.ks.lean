/-! state: the reference's run through an expression, step by step -/
def KB (N : Nat) (μ : kM) : Option kM := kloop (fun st => mm_expression_l39 st.1 st.2) N (μ, 1)
def KO (N : Nat) (μ : kM) (fl : Int) : Option kM := kloop (fun st => mm_operand_l4 st.1 st.2.1 st.2.2) N (μ, fl, 1)
def KA (N1 N2 : Nat) (fl : Int) (μ : kM) : Option kM := (KO N1 μ fl).bind fun μ1 => (mm_part μ1).bind fun μ2 => KB N2 μ2
theorem wR_tab : ∀ w : Fin 18, (wR w.val = 14 ↔ w.val = 7) ∧ (wR w.val = 15 ↔ w.val = 6) ∧ (wR w.val = 16 ↔ w.val = 8) := by decide +kernel
theorem kloop_n {α β : Type} {body : α → Option (α ⊕ β)} {n : Nat} {a : α} (h : body a = none) : kloop body (n + 1) a = none := by
  show (match body a with | none => none | some (.inl a') => kloop body n a' | some (.inr b) => some b) = _
  rw [h]
section KSS
variable {T : Nat → Int} {n m : Nat} {KD ST LN VL : Nat → Int} {i : Nat} {μ μ1 μ0 : kM} {R W : List Int} {d : Nat} {tq : Nat → Int}
theorem kW_tab (hK : TKf T n m KD ST LN VL) (hi : i ≤ m) : (kW KD VL i = 14 ↔ WD KD VL i 7) ∧ (kW KD VL i = 15 ↔ WD KD VL i 6) ∧ (kW KD VL i = 16 ↔ WD KD VL i 8) := by
  unfold kW WD
  by_cases c : KD i = 2
  · obtain ⟨a, b⟩ := hK.wd hi c
    have h := wR_tab ⟨(VL i).toNat, by omega⟩
    obtain ⟨h1, h2, h3⟩ := h
    rw [if_pos c]
    exact ⟨h1.trans ⟨fun x => ⟨c, by have x : (VL i).toNat = 7 := x; omega⟩, fun x => by show (VL i).toNat = 7; omega⟩, h2.trans ⟨fun x => ⟨c, by have x : (VL i).toNat = 6 := x; omega⟩, fun x => by show (VL i).toNat = 6; omega⟩, h3.trans ⟨fun x => ⟨c, by have x : (VL i).toNat = 8 := x; omega⟩, fun x => by show (VL i).toNat = 8; omega⟩⟩
  · rw [if_neg c]
    exact ⟨⟨fun x => absurd x (by decide), fun x => absurd x.1 c⟩, ⟨fun x => absurd x (by decide), fun x => absurd x.1 c⟩, ⟨fun x => absurd x (by decide), fun x => absurd x.1 c⟩⟩
theorem KB_bad {N : Nat} (h : ¬ μ 0 10 = 0) : KB (N + 1) μ = some μ := by
  refine kloop_r ?_
  show mm_expression_l39 μ 1 = _
  unfold mm_expression_l39
  rw [if_neg (by decide), kbind_eq (m_isGood0 h), if_pos rfl]
theorem m_partF (h : ¬ μ 0 10 = 0) : mm_part μ = some μ := by
  unfold mm_part
  rw [kbind_eq (m_isGood0 h), if_pos rfl]
theorem KO_bad {N : Nat} {fl : Int} (h : ¬ μ 0 10 = 0) : KO (N + 1) μ fl = some μ := by
  refine kloop_r ?_
  show mm_operand_l4 μ fl 1 = _
  unfold mm_operand_l4
  rw [if_neg (by decide), kbind_eq (m_isGood0 h), if_pos rfl]
theorem KB_op {N : Nat} {fl : Int} (h : mm_expression_l39 μ 1 = (mm_operand μ1 fl).bind fun s => some (.inl (s, 1))) : KB (N + 1) μ = KA kFuel N fl μ1 := by
  have e : mm_operand μ1 fl = (KO kFuel μ1 fl).bind fun a => (mm_part a).bind fun b => some b := rfl
  rw [e] at h
  unfold KA
  cases h1 : KO kFuel μ1 fl with
  | none =>
    rw [h1] at h
    exact kloop_n h
  | some a =>
    rw [h1] at h
    have h : mm_expression_l39 μ 1 = ((mm_part a).bind fun b => some b).bind fun s => some (.inl (s, 1)) := h
    show _ = (mm_part a).bind fun μ2 => KB N μ2
    cases h2 : mm_part a with
    | none =>
      rw [h2] at h
      exact kloop_n h
    | some b =>
      rw [h2] at h
      exact kloop_l h
theorem m_tst (h : ME T n μ0 i R W d tq μ) (v : Int) : ME T n μ0 i R W d (kup tq d v) (kst μ 7 (kup (μ 7) d v)) := by
  have h1 := m_depth h (d' := d) (tq' := kup tq d v) (g := kup (μ 7) d v) (fun k hk => by
    by_cases c : k = d
    · rw [c, kup_eq, kup_eq]
    · rw [kup_ne c, kup_ne c]
      exact h.2.2.2.2.1.2 k hk)
  have e : kup (μ 0) 31 (d : Int) = μ 0 := by rw [← h.2.2.2.2.1.1, kup_id]
  rw [e, kst_id] at h1
  exact h1
theorem m_opstep (hK : TKf T n m KD ST LN VL) (hi : i ≤ m) {P : List Int} (h : ME T n μ0 i R (W ++ P.map rv_o) d tq μ) (hc : oC KD VL i ≠ -1) (hP : ∀ c ∈ P, -17 ≤ c ∧ c ≤ -9 ∧ lV (oC KD VL i) ≤ lV c) (hs : stp W (lV (oC KD VL i) + 1)) (h3 : lV (oC KD VL i) = 3 → tq d = 0) (hd : d ≤ 6) (h1 : R.length + P.length ≤ 1400) (h2 : W.length + P.length < 950) :
    ∃ (μ1 : kM) (tq' : Nat → Int), mm_expression_l39 μ 1 = (mm_operand μ1 (if lV (oC KD VL i) ≤ 1 then 1 else 0)).bind (fun s => some (.inl (s, 1))) ∧ ME T n μ0 (i + 1) (R ++ en P.reverse) (W ++ [rv_o (oC KD VL i)]) d tq' μ1 ∧ (∀ k : Nat, k ≠ d → tq' k = tq k) ∧ (lV (oC KD VL i) ≤ 1 → tq' d = 0) ∧ (lV (oC KD VL i) = 3 → tq' d = 1) ∧ (4 ≤ lV (oC KD VL i) → tq' d = tq d) := by
  obtain ⟨s0, s1, s2, s3, s4, s5, s6, s7, s8⟩ := oC_spec KD VL i
  have ht := h.1.ts hK hi
  obtain ⟨w1, w2, w3⟩ := kW_tab hK hi
  have hg := m_isGood1 h.2.1.1
  have hWP : W.length < 950 := by omega
  have hd9 : 0 ≤ (d : Int) ∧ (d : Int) < 9 := by omega
  have ho : oC KD VL i = -10 ∨ oC KD VL i = -11 ∨ oC KD VL i = -12 ∨ oC KD VL i = -13 ∨ oC KD VL i = -14 ∨ oC KD VL i = -15 ∨ oC KD VL i = -16 ∨ oC KD VL i = -17 := by
    clear s1 s2 s3 s4 s5 s6 s7 s8 w1 w2 w3
    omega
  -- dropping, waiting
  have key : ∀ s : Int, s = lV (oC KD VL i) + 1 → ∃ μa, mm_drops μ s = some μa ∧ ME T n μ0 i (R ++ en P.reverse) W d tq μa := fun s e => m_drops h hP (by rw [e]; exact hs) (Int.le_of_eq e) h1 (Nat.le_of_lt h2)
  have key2 : ∀ (μa : kM) (v : Int), ME T n μ0 i (R ++ en P.reverse) W d tq μa → v = rv_o (oC KD VL i) → ∃ μb μc, mm_waitsFor μa v = some μb ∧ ME T n μ0 i (R ++ en P.reverse) (W ++ [rv_o (oC KD VL i)]) d tq μb ∧ mm_goes μb = some μc ∧ ME T n μ0 (i + 1) (R ++ en P.reverse) (W ++ [rv_o (oC KD VL i)]) d tq μc := by
    intro μa v ha hv
    obtain ⟨μb, b1, b2⟩ := m_waits ha hWP v
    rw [hv] at b2
    obtain ⟨μc, c1, c2⟩ := b2.go hK
    exact ⟨μb, μc, b1, b2, c1, c2⟩
  have key3 : ∀ (μa : kM) (v t : Int), ME T n μ0 i (R ++ en P.reverse) W d tq μa → v = rv_o (oC KD VL i) → ∃ μb μc, mm_waitsFor μa v = some μb ∧ μb 0 31 = (d : Int) ∧ mm_goes (kst μb 7 (kup (μb 7) d t)) = some μc ∧ ME T n μ0 (i + 1) (R ++ en P.reverse) (W ++ [rv_o (oC KD VL i)]) d (kup tq d t) μc := by
    intro μa v t ha hv
    obtain ⟨μb, b1, b2⟩ := m_waits ha hWP v
    rw [hv] at b2
    obtain ⟨μc, c1, c2⟩ := (m_tst b2 t).go hK
    exact ⟨μb, μc, b1, b2.2.2.2.2.1.1, c1, c2⟩
  unfold mm_expression_l39
  rw [if_neg (by decide), kbind_eq hg, if_neg (by decide), kbind_eq ht.2.1]
  rcases ho with ho | ho | ho | ho | ho | ho | ho | ho
  · have hw := w2.mpr (s1.mp ho)
    obtain ⟨μa, a1, a2⟩ := key 1 (by rw [ho]; decide)
    obtain ⟨μb, μc, b1, b2, b3, b4⟩ := key3 μa 5 (kz1s 0) a2 (by rw [ho]; decide)
    refine ⟨μc, kup tq d (kz1s 0), ?_, b4, fun k hk => kup_ne hk, fun _ => by rw [kup_eq]; decide, fun x => absurd x (by rw [ho]; decide), fun x => absurd x (by rw [ho]; decide)⟩
    unfold mm_expression_l39_j70 mm_expression_l39_j83 mm_expression_l39_j99 mm_expression_l39_j337
    rw [hw, if_neg (by decide), if_pos rfl, if_neg (by decide), kbind_eq a1, if_neg (by decide), kbind_eq b1, b2, kchk_t hd9, klet_eq, Int.toNat_natCast, kbind_eq b3, if_pos (by rw [ho]; decide)]
  · have hw := w1.mpr (s2.mp ho)
    obtain ⟨μa, a1, a2⟩ := key 2 (by rw [ho]; decide)
    obtain ⟨μb, μc, b1, b2, b3, b4⟩ := key3 μa 4 (kz1s 0) a2 (by rw [ho]; decide)
    refine ⟨μc, kup tq d (kz1s 0), ?_, b4, fun k hk => kup_ne hk, fun _ => by rw [kup_eq]; decide, fun x => absurd x (by rw [ho]; decide), fun x => absurd x (by rw [ho]; decide)⟩
    unfold mm_expression_l39_j70 mm_expression_l39_j83 mm_expression_l39_j99 mm_expression_l39_j337
    rw [hw, if_pos rfl, if_pos rfl, kbind_eq a1, if_pos rfl, kbind_eq b1, b2, kchk_t hd9, klet_eq, Int.toNat_natCast, kbind_eq b3, if_pos (by rw [ho]; decide)]
  · have hsg := s3.mp ho
    have n14 : ¬ kW KD VL i = 14 := fun x => absurd (s2.mpr (w1.mp x)) (by rw [ho]; decide)
    have n15 : ¬ kW KD VL i = 15 := fun x => absurd (s1.mpr (w2.mp x)) (by rw [ho]; decide)
    have ht0 : μ 7 d = 0 := by rw [h.2.2.2.2.1.2 d (Nat.le_refl _)]; exact h3 (by rw [ho]; decide)
    obtain ⟨μa, a1, a2⟩ := key 4 (by rw [ho]; decide)
    obtain ⟨μb, μc, b1, b2, b3, b4⟩ := key3 μa 6 (kz1s 1) a2 (by rw [ho]; decide)
    refine ⟨μc, kup tq d (kz1s 1), ?_, b4, fun k hk => kup_ne hk, fun x => absurd x (by rw [ho]; decide), fun _ => by rw [kup_eq]; decide, fun x => absurd x (by rw [ho]; decide)⟩
    unfold mm_expression_l39_j142 mm_expression_l39_j176 mm_expression_l39_j337
    rw [if_neg n14, if_neg n15, kbind_eq (m_isSign1 ht hsg), if_neg (by decide), h.2.2.2.2.1.1, kchk_t hd9, Int.toNat_natCast, if_pos ht0, kbind_eq a1, kbind_eq (m_isSign1 (a2.1.ts hK hi) hsg), if_neg (by decide), kbind_eq b1, b2, kchk_t hd9, klet_eq, Int.toNat_natCast, kbind_eq b3, if_neg (by rw [ho]; decide)]
  · have hsg := s4.mp ho
    have hn : ¬ SG KD VL i 60 := fun x => absurd (s3.mpr x) (by rw [ho]; decide)
    have n14 : ¬ kW KD VL i = 14 := fun x => absurd (s2.mpr (w1.mp x)) (by rw [ho]; decide)
    have n15 : ¬ kW KD VL i = 15 := fun x => absurd (s1.mpr (w2.mp x)) (by rw [ho]; decide)
    have ht0 : μ 7 d = 0 := by rw [h.2.2.2.2.1.2 d (Nat.le_refl _)]; exact h3 (by rw [ho]; decide)
    obtain ⟨μa, a1, a2⟩ := key 4 (by rw [ho]; decide)
    obtain ⟨μb, μc, b1, b2, b3, b4⟩ := key3 μa 7 (kz1s 1) a2 (by rw [ho]; decide)
    refine ⟨μc, kup tq d (kz1s 1), ?_, b4, fun k hk => kup_ne hk, fun x => absurd x (by rw [ho]; decide), fun _ => by rw [kup_eq]; decide, fun x => absurd x (by rw [ho]; decide)⟩
    unfold mm_expression_l39_j142 mm_expression_l39_j176 mm_expression_l39_j337
    rw [if_neg n14, if_neg n15, kbind_eq (m_isSign0 hK hi ht hn), if_pos rfl, kbind_eq (m_isSign1 ht hsg), if_neg (by decide), h.2.2.2.2.1.1, kchk_t hd9, Int.toNat_natCast, if_pos ht0, kbind_eq a1, kbind_eq (m_isSign0 hK hi (a2.1.ts hK hi) hn), if_pos rfl, kbind_eq b1, b2, kchk_t hd9, klet_eq, Int.toNat_natCast, kbind_eq b3, if_neg (by rw [ho]; decide)]
  all_goals
    have n14 : ¬ kW KD VL i = 14 := fun x => absurd (s2.mpr (w1.mp x)) (by rw [ho]; decide)
    have n15 : ¬ kW KD VL i = 15 := fun x => absurd (s1.mpr (w2.mp x)) (by rw [ho]; decide)
    have g60 : mm_isSign μ 60 = some 0 := m_isSign0 hK hi ht (fun x => absurd (s3.mpr x) (by rw [ho]; decide))
    have g61 : mm_isSign μ 61 = some 0 := m_isSign0 hK hi ht (fun x => absurd (s4.mpr x) (by rw [ho]; decide))
    rw [if_neg n14, if_neg n15, kbind_eq g60, if_pos rfl, kbind_eq g61, if_pos rfl]
    unfold mm_expression_l39_j201
  · have hsg := s5.mp ho
    obtain ⟨μa, a1, a2⟩ := key 5 (by rw [ho]; decide)
    obtain ⟨μb, μc, b1, b2, b3, b4⟩ := key2 μa 8 a2 (by rw [ho]; decide)
    refine ⟨μc, tq, ?_, b4, fun k hk => rfl, fun x => absurd x (by rw [ho]; decide), fun x => absurd x (by rw [ho]; decide), fun _ => rfl⟩
    unfold mm_expression_l39_j219 mm_expression_l39_j241 mm_expression_l39_j337
    rw [kbind_eq (m_isSign1 ht hsg), if_neg (by decide), kbind_eq a1, kbind_eq (m_isSign1 (a2.1.ts hK hi) hsg), if_neg (by decide), kbind_eq b1, kbind_eq b3, if_neg (by rw [ho]; decide)]
  · have hsg := s6.mp ho
    have hn : ¬ SG KD VL i 43 := fun x => absurd (s5.mpr x) (by rw [ho]; decide)
    obtain ⟨μa, a1, a2⟩ := key 5 (by rw [ho]; decide)
    obtain ⟨μb, μc, b1, b2, b3, b4⟩ := key2 μa 9 a2 (by rw [ho]; decide)
    refine ⟨μc, tq, ?_, b4, fun k hk => rfl, fun x => absurd x (by rw [ho]; decide), fun x => absurd x (by rw [ho]; decide), fun _ => rfl⟩
    unfold mm_expression_l39_j219 mm_expression_l39_j241 mm_expression_l39_j337
    rw [kbind_eq (m_isSign0 hK hi ht hn), if_pos rfl, kbind_eq (m_isSign1 ht hsg), if_neg (by decide), kbind_eq a1, kbind_eq (m_isSign0 hK hi (a2.1.ts hK hi) hn), if_pos rfl, kbind_eq b1, kbind_eq b3, if_neg (by rw [ho]; decide)]
  · have hsg := s7.mp ho
    have hn : ¬ SG KD VL i 43 := fun x => absurd (s5.mpr x) (by rw [ho]; decide)
    have hn2 : ¬ SG KD VL i 45 := fun x => absurd (s6.mpr x) (by rw [ho]; decide)
    obtain ⟨μa, a1, a2⟩ := key 6 (by rw [ho]; decide)
    obtain ⟨μb, μc, b1, b2, b3, b4⟩ := key2 μa 10 a2 (by rw [ho]; decide)
    refine ⟨μc, tq, ?_, b4, fun k hk => rfl, fun x => absurd x (by rw [ho]; decide), fun x => absurd x (by rw [ho]; decide), fun _ => rfl⟩
    unfold mm_expression_l39_j274 mm_expression_l39_j297 mm_expression_l39_j337
    rw [kbind_eq (m_isSign0 hK hi ht hn), if_pos rfl, kbind_eq (m_isSign0 hK hi ht hn2), if_pos rfl, kbind_eq (m_isSign1 ht hsg), if_neg (by decide), kbind_eq a1, kbind_eq (m_isSign1 (a2.1.ts hK hi) hsg), if_neg (by decide), kbind_eq b1, kbind_eq b3, if_neg (by rw [ho]; decide)]
  · have hsg := s8.mp ho
    have hn : ¬ SG KD VL i 43 := fun x => absurd (s5.mpr x) (by rw [ho]; decide)
    have hn2 : ¬ SG KD VL i 45 := fun x => absurd (s6.mpr x) (by rw [ho]; decide)
    have hn3 : ¬ SG KD VL i 42 := fun x => absurd (s7.mpr x) (by rw [ho]; decide)
    obtain ⟨μa, a1, a2⟩ := key 6 (by rw [ho]; decide)
    obtain ⟨μb, μc, b1, b2, b3, b4⟩ := key2 μa 11 a2 (by rw [ho]; decide)
    refine ⟨μc, tq, ?_, b4, fun k hk => rfl, fun x => absurd x (by rw [ho]; decide), fun x => absurd x (by rw [ho]; decide), fun _ => rfl⟩
    unfold mm_expression_l39_j274 mm_expression_l39_j297 mm_expression_l39_j337
    rw [kbind_eq (m_isSign0 hK hi ht hn), if_pos rfl, kbind_eq (m_isSign0 hK hi ht hn2), if_pos rfl, kbind_eq (m_isSign0 hK hi ht hn3), if_pos rfl, kbind_eq (m_isSign1 ht hsg), if_neg (by decide), kbind_eq a1, kbind_eq (m_isSign0 hK hi (a2.1.ts hK hi) hn3), if_pos rfl, kbind_eq b1, kbind_eq b3, if_neg (by rw [ho]; decide)]
end KSS

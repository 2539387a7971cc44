/-! state: the reference's run, the ends and the operands -/
section OPN
variable {T : Nat → Int} {n m : Nat} {KD ST LN VL : Nat → Int} {i : Nat} {μ μ1 μ0 : kM} {R W : List Int} {d : Nat} {tq : Nat → Int}
theorem m_isOpen0 {a : Int} (h : a < 14) : mm_isOpen μ a = some 0 := by
  unfold mm_isOpen
  rw [if_pos h]
theorem m_isOpen1 {a : Int} (h : 14 ≤ a) : mm_isOpen μ a = some 1 := by
  unfold mm_isOpen
  rw [if_neg (by omega)]
theorem m_opd0 : ∀ (B : List Int) (fuel : Nat), B.length < fuel → B.length ≤ 950 → rv_at (μ 6) 0 B.reverse → (∀ b ∈ B, b < 14) → kloop (fun st => mm_isOpened_l7 μ st) fuel ((B.length : Int) - 1) = some (-1) := by
  intro B
  induction B with
  | nil =>
    intro fuel hf _ _ _
    obtain ⟨f, rfl, -⟩ := fu_s hf
    refine kloop_r ?_
    show mm_isOpened_l7 μ (((0 : Nat) : Int) - 1) = _
    unfold mm_isOpened_l7
    rw [if_pos (by decide)]
    rfl
  | cons b B ih =>
    intro fuel hf h9 h hb
    obtain ⟨f, rfl, hm⟩ := fu_s hf
    have hm := hm B.length (by rw [List.length_cons])
    rw [List.length_cons] at h9 ⊢
    rw [List.reverse_cons, rv_at_app, List.length_reverse, Nat.zero_add] at h
    have e2 := h.2.1
    have e1 : ((B.length + 1 : Nat) : Int) - 1 = (B.length : Int) := by omega
    rw [← ih f hm (by omega) h.1 (fun x hx => hb x (List.mem_cons_of_mem _ hx)), e1]
    refine kloop_l ?_
    show mm_isOpened_l7 μ (B.length : Int) = _
    have ew : w32 ((B.length : Int) + -1) = (B.length : Int) - 1 := by
      rw [w32_s (by omega) (by omega)]
      omega
    unfold mm_isOpened_l7
    rw [if_neg (by omega), kchk_t (by omega), Int.toNat_natCast, e2, kbind_eq (m_isOpen0 (hb b List.mem_cons_self)), if_pos rfl, klet_eq, ew]
theorem m_opd1 {V : List Int} : ∀ (B : List Int) (fuel : Nat), B.length < fuel → V.length + 1 + B.length ≤ 950 → rv_at (μ 6) 0 ((V ++ [14]) ++ B.reverse) → (∀ b ∈ B, b < 14) → kloop (fun st => mm_isOpened_l7 μ st) fuel ((V.length + B.length : Nat) : Int) = some (V.length : Int) := by
  intro B
  induction B with
  | nil =>
    intro fuel hf h9 h _
    obtain ⟨f, rfl, -⟩ := fu_s hf
    have h : rv_at (μ 6) 0 ((V ++ [14]) ++ []) := h
    rw [List.append_nil, rv_at_app, Nat.zero_add] at h
    have e2 := h.2.1
    refine kloop_r ?_
    show mm_isOpened_l7 μ (V.length : Int) = _
    unfold mm_isOpened_l7
    have h9 : V.length + 1 + 0 ≤ 950 := h9
    rw [if_neg (by omega), kchk_t (by omega), Int.toNat_natCast, e2, kbind_eq (m_isOpen1 (by decide)), if_neg (by decide)]
  | cons b B ih =>
    intro fuel hf h9 h hb
    obtain ⟨f, rfl, hm⟩ := fu_s hf
    have hm := hm B.length (by rw [List.length_cons])
    rw [List.length_cons] at h9 ⊢
    rw [List.reverse_cons, ← List.append_assoc, rv_at_app, List.length_append, List.length_append, List.length_singleton, List.length_reverse, Nat.zero_add] at h
    have e2 := h.2.1
    rw [← ih f hm (by omega) h.1 (fun x hx => hb x (List.mem_cons_of_mem _ hx)), show V.length + (B.length + 1) = V.length + 1 + B.length by omega]
    refine kloop_l ?_
    show mm_isOpened_l7 μ ((V.length + 1 + B.length : Nat) : Int) = _
    have ew : w32 (((V.length + 1 + B.length : Nat) : Int) + -1) = ((V.length + B.length : Nat) : Int) := by
      rw [w32_s (by omega) (by omega)]
      omega
    unfold mm_isOpened_l7
    rw [if_neg (by omega), kchk_t (by omega), Int.toNat_natCast, e2, kbind_eq (m_isOpen0 (hb b List.mem_cons_self)), if_pos rfl, klet_eq, ew]
theorem m_opened0 (h : ME T n μ0 i R W d tq μ) (hW : W.length ≤ 950) (hb : ∀ b ∈ W, b < 14) : mm_isOpened μ = some 0 := by
  have h1 := m_opd0 (μ := μ) W.reverse kFuel (kFuel_lt (by rw [List.length_reverse]; omega)) (by rw [List.length_reverse]; exact hW) (by rw [List.reverse_reverse]; exact h.2.2.2.1.2) (fun b x => hb b (List.mem_reverse.mp x))
  rw [List.length_reverse] at h1
  have ew : w32 ((W.length : Int) - 1) = (W.length : Int) - 1 := w32_s (by omega) (by omega)
  unfold mm_isOpened
  rw [h.2.2.2.1.1, klet_eq, ew, kbind_eq h1, if_pos (by decide)]
theorem m_opened1 {P : List Int} (h : ME T n μ0 i R ((W ++ [14]) ++ P.map rv_o) d tq μ) (hW : W.length + 1 + P.length ≤ 950) (hP : ∀ c ∈ P, -17 ≤ c ∧ c ≤ -9 ∧ (0 : Int) ≤ lV c) : mm_isOpened μ = some 1 := by
  have e : P.map rv_o = ((P.reverse).map rv_o).reverse := by rw [← List.map_reverse, List.reverse_reverse]
  have hl : ((P.reverse).map rv_o).length = P.length := by rw [List.length_map, List.length_reverse]
  have hr := h.2.2.2.1.2
  have hn := h.2.2.2.1.1
  rw [e] at hr
  have h1 := m_opd1 (μ := μ) (V := W) ((P.reverse).map rv_o) kFuel (kFuel_lt (by rw [hl]; omega)) (by rw [hl]; exact hW) hr (fun b hb => by
    obtain ⟨c, hc, rfl⟩ := List.mem_map.mp hb
    obtain ⟨c1, c2, -⟩ := hP c (List.mem_reverse.mp hc)
    exact (sTr_lV c1 c2).2)
  rw [hl] at h1
  rw [List.length_append, List.length_append, List.length_singleton, List.length_map] at hn
  have ew : w32 (((W.length + 1 + P.length : Nat) : Int) - 1) = ((W.length + P.length : Nat) : Int) := by
    rw [w32_s (by omega) (by omega)]
    omega
  unfold mm_isOpened
  rw [hn, klet_eq, ew, kbind_eq h1, if_neg (by omega)]
/-- signs that end an expression, as the reference sees them -/
theorem m_201 (hK : TKf T n m KD ST LN VL) (hi : i ≤ m) (h : TS m KD ST LN VL i μ) (ho : ¬ (4 ≤ lV (oC KD VL i) ∧ oC KD VL i ≠ -1)) : mm_expression_l39_j201 μ 1 = ((mm_isSign μ 41).bind fun r_46 => if r_46 = 0 then mm_expression_l39_j335 μ else (mm_isOpened μ).bind fun r_47 => if r_47 = 0 then mm_expression_l39_j335 μ else (mm_closes μ).bind fun σ_48 => mm_expression_l39_j337 σ_48 1) := by
  obtain ⟨s0, s1, s2, s3, s4, s5, s6, s7, s8⟩ := oC_spec KD VL i
  have n5 : ¬ SG KD VL i 43 := fun x => ho (by rw [s5.mpr x]; decide)
  have n6 : ¬ SG KD VL i 45 := fun x => ho (by rw [s6.mpr x]; decide)
  have n7 : ¬ SG KD VL i 42 := fun x => ho (by rw [s7.mpr x]; decide)
  have n8 : ¬ SG KD VL i 47 := fun x => ho (by rw [s8.mpr x]; decide)
  unfold mm_expression_l39_j201
  rw [kbind_eq (m_isSign0 hK hi h n5), if_pos rfl, kbind_eq (m_isSign0 hK hi h n6), if_pos rfl, kbind_eq (m_isSign0 hK hi h n7), if_pos rfl, kbind_eq (m_isSign0 hK hi h n8), if_pos rfl]
theorem m_39end (hK : TKf T n m KD ST LN VL) (hi : i ≤ m) (h : ME T n μ0 i R W d tq μ) (hd : d ≤ 6) (ho : oC KD VL i = -1 ∨ (lV (oC KD VL i) = 3 ∧ tq d = 1)) : mm_expression_l39 μ 1 = mm_expression_l39_j201 μ 1 := by
  obtain ⟨s0, s1, s2, s3, s4, s5, s6, s7, s8⟩ := oC_spec KD VL i
  obtain ⟨w1, w2, w3⟩ := kW_tab hK hi
  have ht := h.1.ts hK hi
  have n14 : ¬ kW KD VL i = 14 := fun x => by
    have y := s2.mpr (w1.mp x)
    rw [y] at ho
    rcases ho with z | ⟨z, -⟩
    · exact absurd z (by decide)
    · exact absurd z (by decide)
  have n15 : ¬ kW KD VL i = 15 := fun x => by
    have y := s1.mpr (w2.mp x)
    rw [y] at ho
    rcases ho with z | ⟨z, -⟩
    · exact absurd z (by decide)
    · exact absurd z (by decide)
  have hd9 : 0 ≤ (d : Int) ∧ (d : Int) < 9 := by omega
  have h7 : tq d = 1 → mm_expression_l39_j142 μ 1 = mm_expression_l39_j201 μ 1 := fun x => by
    unfold mm_expression_l39_j142
    rw [h.2.2.2.2.1.1, kchk_t hd9, Int.toNat_natCast, h.2.2.2.2.1.2 d (Nat.le_refl _), x, if_neg (by decide)]
  unfold mm_expression_l39
  rw [if_neg (by decide), kbind_eq (m_isGood1 h.2.1.1), if_neg (by decide), kbind_eq ht.2.1, if_neg n14, if_neg n15]
  rcases ho with ho | ⟨ho, hq⟩
  · have n3 : ¬ SG KD VL i 60 := fun x => absurd (s3.mpr x) (by rw [ho]; decide)
    have n4 : ¬ SG KD VL i 61 := fun x => absurd (s4.mpr x) (by rw [ho]; decide)
    rw [kbind_eq (m_isSign0 hK hi ht n3), if_pos rfl, kbind_eq (m_isSign0 hK hi ht n4), if_pos rfl]
  · rw [h7 hq]
    by_cases c : SG KD VL i 60
    · rw [kbind_eq (m_isSign1 ht c), if_neg (by decide)]
    · rw [kbind_eq (m_isSign0 hK hi ht c), if_pos rfl]
      by_cases c2 : SG KD VL i 61
      · rw [kbind_eq (m_isSign1 ht c2), if_neg (by decide)]
      · rw [kbind_eq (m_isSign0 hK hi ht c2), if_pos rfl]
theorem oC_41 (h : SG KD VL i 41) : oC KD VL i = -1 := by
  unfold oC
  rw [h.1, h.2]
  rfl
theorem KB_end {N : Nat} (hK : TKf T n m KD ST LN VL) (hi : i ≤ m) (h : ME T n μ0 i R W d tq μ) (hd : d ≤ 6) (ho : oC KD VL i = -1 ∨ (lV (oC KD VL i) = 3 ∧ tq d = 1)) (hc : ¬ SG KD VL i 41 ∨ (W.length ≤ 950 ∧ ∀ b ∈ W, b < 14)) : KB (N + 2) μ = some μ := by
  have ht := h.1.ts hK hi
  have e : mm_expression_l39 μ 1 = some (.inl (μ, 0)) := by
    rw [m_39end hK hi h hd ho, m_201 hK hi ht (by rcases ho with x | ⟨x, -⟩ <;> omega)]
    by_cases c : SG KD VL i 41
    · rcases hc with x | ⟨x, y⟩
      · exact absurd c x
      · rw [kbind_eq (m_isSign1 ht c), if_neg (by decide), kbind_eq (m_opened0 h x y), if_pos rfl]
        rfl
    · rw [kbind_eq (m_isSign0 hK hi ht c), if_pos rfl]
      rfl
  have e2 : KB (N + 2) μ = kloop (fun st => mm_expression_l39 st.1 st.2) (N + 1) (μ, 0) := kloop_l e
  rw [e2]
  refine kloop_r ?_
  show mm_expression_l39 μ 0 = _
  unfold mm_expression_l39
  rw [if_pos rfl]
theorem KB_close {N : Nat} (hK : TKf T n m KD ST LN VL) (hi : i < m) {P : List Int} (h : ME T n μ0 i R ((W ++ [14]) ++ P.map rv_o) (d + 1) tq μ) (hd : d + 1 ≤ 6) (hP : ∀ c ∈ P, -17 ≤ c ∧ c ≤ -9 ∧ (0 : Int) ≤ lV c) (hc : SG KD VL i 41) (h1 : R.length + P.length ≤ 1400) (h2 : W.length + 1 + P.length ≤ 950) : ∃ μ', KB (N + 1) μ = KB N μ' ∧ ME T n μ0 (i + 1) (R ++ en P.reverse) W d tq μ' := by
  have hi' := Nat.le_of_lt hi
  have ht := h.1.ts hK hi'
  have ho := oC_41 hc
  have hW : (W ++ [14]).length = W.length + 1 := by rw [List.length_append, List.length_singleton]
  obtain ⟨μa, a1, a2⟩ := m_drops (s := 0) (l := 0) h hP (Or.inr ⟨W, 14, rfl, Or.inl (by decide)⟩) (by decide) h1 (by rw [hW]; exact h2)
  have e30 := a2.2.2.2.1.1
  have e31 := a2.2.2.2.2.1.1
  rw [hW] at e30
  obtain ⟨-, b2⟩ := m_pop a2
  have ew : w32 (((W.length + 1 : Nat) : Int) - 1) = (W.length : Int) := by
    rw [w32_s (by omega) (by omega)]
    omega
  have ed : w32 (((d + 1 : Nat) : Int) - 1) = (d : Int) := by
    rw [w32_s (by omega) (by omega)]
    omega
  have b3 := m_depth b2 (d' := d) (tq' := tq) (g := μa 7) (fun k hk => a2.2.2.2.2.1.2 k (by omega))
  have e7 : kst (kst (kst μa 0 (kup (μa 0) 30 (W.length : Int))) 0 (kup (kst μa 0 (kup (μa 0) 30 (W.length : Int)) 0) 31 (d : Int))) 7 (μa 7) = kst μa 0 (kup (kup (μa 0) 30 (W.length : Int)) 31 (d : Int)) := by
    rw [kst_eq, kst_st, ← kst_comm (show (7 : Nat) ≠ 0 by decide), kst_id]
  rw [e7] at b3
  obtain ⟨μb, c1, c2⟩ := b3.go hK
  refine ⟨μb, ?_, c2⟩
  refine kloop_l ?_
  show mm_expression_l39 μ 1 = _
  have ecl : mm_closes μ = some μb := by
    unfold mm_closes
    rw [kbind_eq a1, klet_eq, klet_eq, e30, ew, kst_eq, kst_st, kup_ne (by decide), e31, ed, kbind_eq c1]
  rw [m_39end hK hi' h hd (Or.inl ho), m_201 hK hi' ht (by rw [ho]; decide), kbind_eq (m_isSign1 ht hc), if_neg (by decide), kbind_eq (m_opened1 h h2 hP), if_neg (by decide), kbind_eq ecl]
  rfl
/-! operands -/
theorem m_l18_0 {N : Nat} {fl : Int} (hK : TKf T n m KD ST LN VL) (hi : i ≤ m) (h : ME T n μ0 i R W d tq μ) (hf : fl = 0 ∨ ¬ WD KD VL i 8) (x : Int) : kloop (fun st => mm_operand_l18 st.1 fl st.2) (N + 1) (μ, x) = some μ := by
  refine kloop_r ?_
  show mm_operand_l18 μ fl x = _
  unfold mm_operand_l18
  rw [kbind_eq (m_isGood1 h.2.1.1), if_neg (by decide)]
  by_cases c : fl = 0
  · rw [if_pos c]
  · rw [if_neg c, kbind_eq (h.1.ts hK hi).2.1, if_neg (fun y => (hf.resolve_left c) ((kW_tab hK hi).2.2.mp y))]
theorem kFuel_s : ∃ k, kFuel = k + 1 := ⟨99999999, rfl⟩
theorem KO_part {N : Nat} {fl : Int} (hK : TKf T n m KD ST LN VL) (hi : i ≤ m) (h : ME T n μ0 i R W d tq μ) (hf : fl = 0 ∨ ¬ WD KD VL i 8) (hs : ¬ SG KD VL i 40) : KO (N + 2) μ fl = some μ := by
  obtain ⟨k, ek⟩ := kFuel_s
  have e : mm_operand_l4 μ fl 1 = some (.inl (μ, fl, 0)) := by
    unfold mm_operand_l4
    rw [if_neg (by decide), kbind_eq (m_isGood1 h.2.1.1), if_neg (by decide), ek, kbind_eq (m_l18_0 hK hi h hf 0), kbind_eq (m_isGood1 h.2.1.1), if_neg (by decide), kbind_eq (m_isSign0 hK hi (h.1.ts hK hi) hs), if_pos rfl]
    rfl
  have e2 : KO (N + 2) μ fl = kloop (fun st => mm_operand_l4 st.1 st.2.1 st.2.2) (N + 1) (μ, fl, 0) := kloop_l e
  rw [e2]
  refine kloop_r ?_
  show mm_operand_l4 μ fl 0 = _
  unfold mm_operand_l4
  rw [if_pos rfl]
theorem m_open {fl : Int} (hK : TKf T n m KD ST LN VL) (hi : i < m) (h : ME T n μ0 i R W d tq μ) (hf : fl = 0 ∨ ¬ WD KD VL i 8) (hs : SG KD VL i 40) (hW : W.length < 950) : ∃ μa μb, mm_operand_l4 μ fl 1 = (mm_deeper μb).bind (fun σ_21 => some (.inl (σ_21, 1, 1))) ∧ mm_waitsFor μ 14 = some μa ∧ ME T n μ0 (i + 1) R (W ++ [14]) d tq μb := by
  obtain ⟨k, ek⟩ := kFuel_s
  have hi' := Nat.le_of_lt hi
  obtain ⟨μa, a1, a2⟩ := m_waits h hW 14
  obtain ⟨μb, b1, b2⟩ := a2.go hK
  refine ⟨μa, μb, ?_, a1, b2⟩
  unfold mm_operand_l4 mm_operand_l4_j96 mm_operand_l4_j117
  rw [if_neg (by decide), kbind_eq (m_isGood1 h.2.1.1), if_neg (by decide), ek, kbind_eq (m_l18_0 hK hi' h hf 0), kbind_eq (m_isGood1 h.2.1.1), if_neg (by decide), kbind_eq (m_isSign1 (h.1.ts hK hi') hs), if_neg (by decide), if_neg (by decide), kbind_eq a1, kbind_eq b1]
theorem KO_open {N : Nat} {fl : Int} (hK : TKf T n m KD ST LN VL) (hi : i < m) (h : ME T n μ0 i R W d tq μ) (hf : fl = 0 ∨ ¬ WD KD VL i 8) (hs : SG KD VL i 40) (hW : W.length < 950) (hd : d < 6) : ∃ μ', KO (N + 1) μ fl = KO N μ' 1 ∧ ME T n μ0 (i + 1) R (W ++ [14]) (d + 1) (kup tq (d + 1) 0) μ' := by
  obtain ⟨μa, μb, e1, -, b2⟩ := m_open hK hi h hf hs hW
  have ew := kw_inc (i := d) (by omega)
  have b3 := m_depth b2 (d' := d + 1) (tq' := kup tq (d + 1) 0) (g := kup (μb 7) (d + 1) 0) (fun k hk => by
    by_cases c : k = d + 1
    · rw [c, kup_eq, kup_eq]
    · rw [kup_ne c, kup_ne c]
      exact b2.2.2.2.2.1.2 k (by omega))
  refine ⟨_, ?_, b3⟩
  refine kloop_l ?_
  show mm_operand_l4 μ fl 1 = _
  rw [e1]
  unfold mm_deeper
  rw [b2.2.2.2.2.1.1, if_neg (by omega), klet_eq, ew, kst_eq, kup_eq, kchk_t (by omega), klet_eq, Int.toNat_natCast, kst_ne (show (7 : Nat) ≠ 0 by decide), show kz1s 0 = 0 by decide]
  rfl
end OPN

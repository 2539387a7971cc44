/-! CALLS: state -/
section OPS
variable {σ μ : kM}
theorem m_copy51 : ∃ μ', mm_copies_0_5_1 μ = some μ' ∧ (∀ c : Nat, c ≠ 1 → μ' c = μ c) ∧ ∀ k : Nat, k < 1400 → μ' 1 k = μ 5 k := by
  obtain ⟨σ1, a1, a2, a3⟩ := kl_M (body := fun st => mm_copies_0_5_1_l2 st.1 st.2) (fun i σ1 => (∀ c : Nat, c ≠ 1 → σ1 c = μ c) ∧ ∀ k : Nat, k < i → σ1 1 k = μ 5 k) (fun i => (i : Int)) 1400 (by decide) (fun i σ1 hi hs => by
    have c1 : ¬ 1400 ≤ (i : Int) := by omega
    have c2 : 0 ≤ (i : Int) ∧ (i : Int) < 1400 := by omega
    refine ⟨kst σ1 1 (kup (σ1 1) i (μ 5 i)), ?_, fun c x => ?_, fun w hw => ?_⟩
    · show mm_copies_0_5_1_l2 σ1 (i : Int) = _
      unfold mm_copies_0_5_1_l2
      rw [if_neg c1, kchk_t c2, kchk_t c2, klet_eq, klet_eq, Int.toNat_natCast, kw_inc (i := i) (by omega), hs.1 5 (by decide)]
    · rw [kst_ne x]
      exact hs.1 c x
    · rw [kst_eq]
      by_cases e : w = i
      · rw [e, kup_eq]
      · rw [kup_ne e]
        exact hs.2 w (by omega)) (fun σ1 hs => by
    refine ⟨σ1, ?_, hs⟩
    show mm_copies_0_5_1_l2 σ1 ((1400 : Nat) : Int) = _
    unfold mm_copies_0_5_1_l2
    rw [if_pos (by decide)]) (σ := μ) ⟨fun c x => rfl, fun w hw => absurd hw (Nat.not_lt_zero w)⟩ (b0 := 0) rfl
  refine ⟨σ1, ?_, a2, a3⟩
  unfold mm_copies_0_5_1
  rw [kbind_eq a1]
theorem m_rowCopy : ∃ μ', kloop (fun st => mm_state_l256 st.1 st.2) kFuel (μ, 0) = some μ' ∧ (∀ c : Nat, c ≠ 8 → μ' c = μ c) ∧ ∀ k : Nat, k < 145 → μ' 8 k = μ 4 k := by
  obtain ⟨σ1, a1, a2, a3⟩ := kl_M (body := fun st => mm_state_l256 st.1 st.2) (fun i σ1 => (∀ c : Nat, c ≠ 8 → σ1 c = μ c) ∧ ∀ k : Nat, k < i → σ1 8 k = μ 4 k) (fun i => (i : Int)) 145 (by decide) (fun i σ1 hi hs => by
    have c1 : ¬ 145 ≤ (i : Int) := by omega
    have c2 : 0 ≤ (i : Int) ∧ (i : Int) < 145 := by omega
    have c3 : 0 ≤ (i : Int) ∧ (i : Int) < 290 := by omega
    refine ⟨kst σ1 8 (kup (σ1 8) i (μ 4 i)), ?_, fun c x => ?_, fun w hw => ?_⟩
    · show mm_state_l256 σ1 (i : Int) = _
      unfold mm_state_l256
      rw [if_neg c1, kchk_t c2, kchk_t c3, klet_eq, klet_eq, Int.toNat_natCast, kw_inc (i := i) (by omega), hs.1 4 (by decide)]
    · rw [kst_ne x]
      exact hs.1 c x
    · rw [kst_eq]
      by_cases e : w = i
      · rw [e, kup_eq]
      · rw [kup_ne e]
        exact hs.2 w (by omega)) (fun σ1 hs => by
    refine ⟨σ1, ?_, hs⟩
    show mm_state_l256 σ1 ((145 : Nat) : Int) = _
    unfold mm_state_l256
    rw [if_pos (by decide)]) (σ := μ) ⟨fun c x => rfl, fun w hw => absurd hw (Nat.not_lt_zero w)⟩ (b0 := 0) rfl
  exact ⟨σ1, a1, a2, a3⟩
/-- the reference's end -/
def m_fin (σ_60 : kM) : Option (Int × kM) := (mm_isGood σ_60).bind fun r_61 =>
  if r_61 = 0 then
    klet (kst σ_60 3 (kup (σ_60 3) ((0 : Int).toNat) (w32 ((σ_60 3 (0 : Int).toNat) + 1)))) fun σ_76 =>
    some ((σ_76 0 10, σ_76))
  else
    klet (kst σ_60 0 (kup (σ_60 0) 1 (σ_60 0 21))) fun σ_62 =>
    klet (kst σ_62 0 (kup (σ_62 0) 2 (σ_62 0 22))) fun σ_63 =>
    klet (kst σ_63 0 (kup (σ_63 0) 3 (σ_63 0 23))) fun σ_64 =>
    klet (kst σ_64 0 (kup (σ_64 0) 4 (σ_64 0 24))) fun σ_65 =>
    klet (kst σ_65 0 (kup (σ_65 0) 5 (σ_65 0 25))) fun σ_66 =>
    klet (kst σ_66 0 (kup (σ_66 0) 6 (σ_66 0 26))) fun σ_67 =>
    (mm_copies_0_5_1 σ_67).bind fun σ_68 =>
    (kloop (fun st => mm_state_l256 st.1 st.2) kFuel (σ_68, 0)).bind fun σ_71 =>
    klet (kst σ_71 0 (kup (σ_71 0) 38 0)) fun σ_72 =>
    klet (kst σ_72 0 (kup (σ_72 0) 53 0)) fun σ_73 =>
    klet (kst σ_73 0 (kup (σ_73 0) 58 0)) fun σ_74 =>
    some ((0, σ_74))
def m_body (σ_22 : kM) : Option (Int × kM) := (mm_knownWord σ_22).bind fun r_23 =>
  if r_23 = 8 then
    (mm_goes σ_22).bind fun σ_52 =>
    (mm_number σ_52 2 4).bind fun (r_53, σ_54) =>
    klet (kst σ_54 0 (kup (σ_54 0) 21 r_53)) fun σ_55 =>
    (mm_isSign σ_55 59).bind fun r_56 =>
    (mm_need σ_55 r_56).bind fun σ_57 =>
    (kloop (fun st => mm_state_l151 st) kFuel σ_57).bind fun σ_60 => m_fin σ_60
  else
    (kloop (fun st => mm_state_l151 st) kFuel σ_22).bind fun σ_30 => m_fin σ_30
theorem m_body_of {μ' : kM} (h : m_first μ = some μ') : m_body μ = m_fin μ' := by
  unfold m_first at h
  unfold m_body
  obtain ⟨r, e1, h⟩ := kbind_h h
  rw [kbind_eq e1]
  by_cases c : r = 8
  · rw [if_pos c] at h ⊢
    obtain ⟨σ52, e2, h⟩ := kbind_h h
    obtain ⟨⟨r53, σ54⟩, e3, h⟩ := kbind_h h
    have h : (mm_clause_j212 (kst σ54 0 (kup (σ54 0) 21 r53))).bind (fun σ_57 => kloop (fun st => mm_state_l151 st) kFuel σ_57) = some μ' := h
    obtain ⟨σ57, e4, h⟩ := kbind_h h
    unfold mm_clause_j212 at e4
    obtain ⟨r56, e5, e4⟩ := kbind_h e4
    obtain ⟨s, e6, e4⟩ := kbind_h e4
    have e4 : s = σ57 := Option.some.inj e4
    subst e4
    rw [kbind_eq e2, kbind_eq e3]
    show klet _ _ = _
    rw [klet_eq, kbind_eq e5, kbind_eq e6, kbind_eq h]
  · rw [if_neg c] at h ⊢
    rw [kbind_eq h]
/-- the reference's memory as it begins to read a text -/
def mS0 (μ : kM) (x : Int) : kM := kst μ 0 (kup (kup (kup (kup (kup (kup (kup (kup (kup (kup (kup (μ 0) 9 0) 11 (-1)) 10 0) 13 x) 14 0) 21 3) 22 0) 23 0) 24 (-1)) 25 (-1)) 26 (-1))
theorem m_state1 {x : Int} (h0 : μ 0 0 = 0) : mm_state_j23 μ x 1 = ((kloop (fun st => mm_state_l89 st.1 st.2) kFuel (mS0 μ x, 0)).bind fun σ_20 => klet (kst σ_20 0 (kup (σ_20 0) 27 0)) fun σ_21 => mm_goes σ_21).bind m_body := by
  unfold mm_state_j23
  rw [kbind_eq (m_right1 h0 (by decide))]
  show (if (1 : Int) = 0 then _ else _) = _
  rw [if_neg (by decide), klet_eq, klet_eq, kst_eq, kst_st, klet_eq, kst_eq, kst_st, klet_eq, kst_eq, kst_st, klet_eq, kst_eq, kst_st, klet_eq, kst_eq, kst_st, klet_eq, kst_eq, kst_st, klet_eq, kst_eq, kst_st, klet_eq, kst_eq, kst_st, klet_eq, kst_eq, kst_st, klet_eq, kst_eq, kst_st]
  show (kloop (fun st => mm_state_l89 st.1 st.2) kFuel (mS0 μ x, 0)).bind _ = _
  cases kloop (fun st => mm_state_l89 st.1 st.2) kFuel (mS0 μ x, 0) with
  | none => rfl
  | some a =>
    show (mm_goes (kst a 0 (kup (a 0) 27 0))).bind _ = (mm_goes (kst a 0 (kup (a 0) 27 0))).bind m_body
    rfl
end OPS

/-! YEARS THAT ARE TRIED -/
def trow (q : Nat → Int) : Nat → Int := fun k => if k < 145 then q k else 0
def RMw (μ : kM) (q : Nat → Int) : Prop := (∀ k : Nat, k < 4 → μ 10 k = q (145 + k) ∧ μ 11 k = q (149 + k) ∧ μ 12 k = q (153 + k) ∧ μ 13 k = q (157 + k)) ∧ (∀ k : Nat, k < 32 → μ 14 k = q (161 + k)) ∧ μ 0 44 = q 193 ∧ μ 0 45 = q 194
/-- what is said of the year that went by last -/
def TF (M : Int) (μ : kM) (q : Nat → Int) : Prop := μ 0 49 = q 195 ∧ μ 0 50 = q 196 ∧ ∀ w : Int, 0 ≤ w → w < M → μ 17 w.toNat = q (197 + w).toNat
def TC (N M tp : Int) (L : Nat → Int) (PH PF PB : List Int) (σ : kM) (q : Nat → Int) : Prop := EN N M tp L PH PF PB ∧ EC N M tp L PH PF PB σ ∧ RS N M tp L σ 59 65 66 67 68 69 q ∧ IV M tp L q
def TN (N M tp : Int) (L : Nat → Int) (PH PF PB : List Int) (μ : kM) (q : Nat → Int) : Prop := EN N M tp L PH PF PB ∧ EM N M tp PH PF PB μ ∧ RMr μ 145 q ∧ RMw μ q ∧ IV M tp L q
section TRY
variable {N M tp : Int} {L : Nat → Int} {PH PF PB : List Int} {σ σ' μ μ' : kM} {q q' : Nat → Int}
theorem RCr.move {W W' : Nat} (h : RCr N M tp L σ W q) (hW : 6 < W) (hW' : 6 < W') (e4 : σ' 4 = σ 4) (e5 : σ' 5 = σ 5) (e6 : σ' 6 = σ 6) (eW : ∀ j : Nat, j < 85 → σ' W' j = σ W j) : RCr N M tp L σ' W' q := by
  intro k hk ho
  rw [← h k hk ho]
  unfold vC
  rw [e4, e5, e6]
  by_cases c1 : k < 17
  · rw [if_pos c1, if_pos c1, eW k (by omega)]
  rw [if_neg c1, if_neg c1]
  by_cases c2 : k < 29
  · rw [if_pos c2, if_pos c2, eW (k + 32) (by omega)]
  rw [if_neg c2, if_neg c2]
  by_cases c3 : k < 61
  · rw [if_pos c3, if_pos c3, eW (k - 12) (by omega)]
  rw [if_neg c3, if_neg c3]
  by_cases c4 : k < 65
  · rw [if_pos c4, if_pos c4]
  rw [if_neg c4, if_neg c4]
  by_cases c5 : k < 89
  · rw [if_pos c5, if_pos c5]
  rw [if_neg c5, if_neg c5]
  by_cases c6 : k < 113
  · rw [if_pos c6, if_pos c6, eW (k - 28) (by omega)]
  rw [if_neg c6, if_neg c6]
theorem c_begin (h : CN N M tp L PH PF PB σ q) : ∃ σ', pf_Oracle_begin_57 σ = some σ' ∧ TC N M tp L PH PF PB σ' (trow q) ∧ fr64 σ σ' := by
  obtain ⟨hN, hE, hR, hI⟩ := h
  unfold pf_Oracle_begin_57
  have e1 : pf_World_copyFrom_58_30 σ = some (kst σ 59 (va_cpy (σ 31) (σ 59) 0 0 85)) := rfl
  rw [e1]
  simp only [Option.bind]
  have f1 : fr64 σ (kst σ 59 (va_cpy (σ 31) (σ 59) 0 0 85)) := frS.rfl.put (by decide)
  have g59 : ∀ j : Nat, j < 85 → kst σ 59 (va_cpy (σ 31) (σ 59) 0 0 85) 59 j = σ 31 j := fun j hj => by rw [kst_eq]; exact va0 hj
  generalize kst σ 59 (va_cpy (σ 31) (σ 59) 0 0 85) = σ1 at f1 g59
  unfold pf_Tally_clear_65
  obtain ⟨σ2, h1, h2, h3⟩ := kl_M (body := fun st => pf_Tally_clear_65_l2 st.1 st.2) (fun i σ2 => (∀ k : Nat, k < i → σ2 66 k = 0 ∧ σ2 67 k = 0 ∧ σ2 68 k = 0) ∧ ∀ c : Nat, c ≠ 66 → c ≠ 67 → c ≠ 68 → σ2 c = σ1 c) (fun i => (i : Int)) 4 (by decide) (fun i σ2 hi hs => by
    refine ⟨kst (kst (kst σ2 66 (kup (σ2 66) i 0)) 67 (kup (σ2 67) i 0)) 68 (kup (σ2 68) i 0), ?_, fun k hk => ?_, fun c h1 h2 h3 => ?_⟩
    · show pf_Tally_clear_65_l2 σ2 (i : Int) = _
      unfold pf_Tally_clear_65_l2
      simp only [klet]
      rw [if_neg (by omega), kchk_t (by omega), kchk_t (by omega), kchk_t (by omega), Int.toNat_natCast, w32_s (by omega) (by omega)]
      rfl
    · simp (disch := decide) only [kst_ne, kst_eq]
      by_cases e : k = i
      · subst e
        rw [kup_eq, kup_eq, kup_eq]
        exact ⟨rfl, rfl, rfl⟩
      · rw [kup_ne e, kup_ne e, kup_ne e]
        exact hs.1 k (by omega)
    · rw [kst_ne h3, kst_ne h2, kst_ne h1]
      exact hs.2 c h1 h2 h3) (fun σ2 hs => by
    refine ⟨σ2, ?_, hs⟩
    show pf_Tally_clear_65_l2 σ2 ((4 : Nat) : Int) = _
    unfold pf_Tally_clear_65_l2
    rw [if_pos (by decide)]) (σ := σ1) ⟨fun k hk => absurd hk (by omega), fun _ _ _ _ => rfl⟩ (b0 := 0) rfl
  rw [h1]
  simp only [Option.bind]
  obtain ⟨σ3, h4, h5, h6⟩ := kl_M (body := fun st => pf_Tally_clear_65_l36 st.1 st.2) (fun i σ3 => (∀ k : Nat, k < i → σ3 69 k = 0) ∧ ∀ c : Nat, c ≠ 69 → σ3 c = σ2 c) (fun i => (i : Int)) 32 (by decide) (fun i σ3 hi hs => by
    refine ⟨kst σ3 69 (kup (σ3 69) i 0), ?_, fun k hk => ?_, fun c h1 => ?_⟩
    · show pf_Tally_clear_65_l36 σ3 (i : Int) = _
      unfold pf_Tally_clear_65_l36
      rw [if_neg (by omega), kchk_t (by omega), Int.toNat_natCast, w32_s (by omega) (by omega)]
      rfl
    · rw [kst_eq]
      by_cases e : k = i
      · subst e
        rw [kup_eq]
      · rw [kup_ne e]
        exact hs.1 k (by omega)
    · rw [kst_ne h1]
      exact hs.2 c h1) (fun σ3 hs => by
    refine ⟨σ3, ?_, hs⟩
    show pf_Tally_clear_65_l36 σ3 ((32 : Nat) : Int) = _
    unfold pf_Tally_clear_65_l36
    rw [if_pos (by decide)]) (σ := σ2) ⟨fun k hk => absurd hk (by omega), fun _ _ => rfl⟩ (b0 := 0) rfl
  rw [h4]
  have key : ∃ σ4, (∀ c : Nat, c ≠ 65 → σ4 c = σ3 c) ∧ (∀ j : Nat, 4 ≤ j → j ≤ 9 → σ4 65 j = 0) ∧ (klet (kst σ3 65 (kup (σ3 65) 4 0)) fun σ_17 => klet (kst σ_17 65 (kup (σ_17 65) 5 0)) fun σ_18 => klet (kst σ_18 65 (kup (σ_18 65) 6 0)) fun σ_19 => klet (kst σ_19 65 (kup (σ_19 65) 7 0)) fun σ_20 => klet (kst σ_20 65 (kup (σ_20 65) 8 0)) fun σ_21 => klet (kst σ_21 65 (kup (σ_21 65) 9 0)) fun σ_22 => some σ_22) = some σ4 := by
    refine ⟨_, fun c hc => ?_, fun j h1 h2 => ?_, rfl⟩
    · rw [kst_ne hc, kst_ne hc, kst_ne hc, kst_ne hc, kst_ne hc, kst_ne hc]
    · simp only [kst_eq]
      have hj : j = 4 ∨ j = 5 ∨ j = 6 ∨ j = 7 ∨ j = 8 ∨ j = 9 := by omega
      rcases hj with rfl | rfl | rfl | rfl | rfl | rfl <;> rfl
  obtain ⟨σ4, k1, k2, k3⟩ := key
  refine ⟨σ4, ?_, ?_, ?_⟩
  · simp only
    rw [k3]
  · have hall : ∀ c : Nat, c < 65 → σ4 c = σ1 c := fun c hc => by rw [k1 c (by omega), h6 c (by omega), h3 c (by omega) (by omega) (by omega)]
    have hold : ∀ c : Nat, c < 59 → c ≠ 11 → σ4 c = σ c := fun c hc h11 => by rw [hall c (by omega)]; exact f1 c h11 (by omega) (by omega) (by omega) (by omega) (by omega) (by omega) (by omega)
    refine ⟨hN, hE.kept (hold _ (by decide) (by decide)) (hold _ (by decide) (by decide)) (hold _ (by decide) (by decide)) (hold _ (by decide) (by decide)) (hold _ (by decide) (by decide)), ⟨?_, ?_⟩, hI.congr (fun k hk => if_pos hk)⟩
    · refine (hR.congr (q' := trow q) (fun k hk => if_pos hk)).move (by decide) (by decide) (hold 4 (by decide) (by decide)) (hold 5 (by decide) (by decide)) (hold 6 (by decide) (by decide)) (fun j hj => ?_)
      rw [hall 59 (by decide)]
      exact g59 j hj
    · have hz : ∀ k : Nat, 145 ≤ k → trow q k = 0 := fun k hk => if_neg (by omega)
      refine ⟨fun k hk => ?_, fun k hk => ?_, ?_, ?_, ?_, ?_, ?_, ?_⟩
      · rw [hz _ (by omega), hz _ (by omega), hz _ (by omega), k1 66 (by decide), k1 67 (by decide), k1 68 (by decide), h6 66 (by decide), h6 67 (by decide), h6 68 (by decide)]
        exact h2 k hk
      · rw [hz _ (by omega), k1 69 (by decide)]
        exact h5 k hk
      all_goals rw [hz _ (by decide)]; exact k2 _ (by decide) (by decide)
  · intro c h11 a1 a2 a3 a4 a5 a6 a7
    rw [k1 c a2, h6 c a6, h3 c a3 a4 a5]
    exact f1 c h11 a1 a2 a3 a4 a5 a6 a7
theorem m_triesG (hN : EN N M tp L PH PF PB) (hE : EM N M tp PH PF PB μ) (hR : RMr μ 0 q) (hI : IV M tp L q) : ∃ μ', mm_tries μ = some μ' ∧ TN N M tp L PH PF PB μ' (trow q) ∧ frM 145 μ μ' := by
  unfold mm_tries
  obtain ⟨μ1, h1, h2⟩ := kl_M (body := fun st => mm_tries_l2 st.1 st.2) (fun i μ1 => μ1 = kst μ 8 (cpz (μ 8) 145 i (μ 8))) (fun i => (i : Int)) 145 (by decide) (fun i μ1 hi hs => by
    subst hs
    refine ⟨_, ?_, rfl⟩
    show mm_tries_l2 (kst μ 8 (cpz (μ 8) 145 i (μ 8))) (i : Int) = _
    unfold mm_tries_l2
    rw [kst_eq, kst_st, if_neg (by omega), kchk_t (by omega), w32_s (v := 145 + (i : Int)) (by omega) (by omega), kchk_t (by omega), Int.toNat_natCast, show (145 + (i : Int)).toNat = 145 + i by omega, show cpz (μ 8) 145 i (μ 8) i = μ 8 i by rw [cpz_at, if_neg (by omega)]]
    simp only [klet]
    rw [w32_s (by omega) (by omega)]
    rfl) (fun μ1 hs => by
    refine ⟨μ1, ?_, hs⟩
    show mm_tries_l2 μ1 ((145 : Nat) : Int) = _
    unfold mm_tries_l2
    rw [if_pos (by decide)]) (σ := μ) (by show μ = kst μ 8 (μ 8); rw [kst_id]) (b0 := 0) rfl
  rw [h1]
  simp only [Option.bind]
  have g8 : ∀ k : Nat, k < 145 → μ1 8 (145 + k) = μ 8 k ∧ μ1 8 k = μ 8 k := fun k hk => by
    rw [h2, kst_eq, cpz_at, cpz_at, if_pos (by omega), if_neg (by omega), show 145 + k - 145 = k by omega]
    exact ⟨rfl, rfl⟩
  have g8' : ∀ k : Nat, k < 145 ∨ 290 ≤ k → μ1 8 k = μ 8 k := fun k hk => by
    rw [h2, kst_eq, cpz_at, if_neg (by omega)]
  have gc : ∀ c : Nat, c ≠ 8 → μ1 c = μ c := fun c hc => by rw [h2, kst_ne hc]
  clear h2 h1
  unfold mm_clears
  obtain ⟨μ2, h1, h2, h3⟩ := kl_M (body := fun st => mm_clears_l2 st.1 st.2) (fun i μ2 => (∀ k : Nat, k < i → μ2 10 k = 0 ∧ μ2 11 k = 0 ∧ μ2 12 k = 0 ∧ μ2 13 k = 0) ∧ ∀ c : Nat, c ≠ 10 → c ≠ 11 → c ≠ 12 → c ≠ 13 → μ2 c = μ1 c) (fun i => (i : Int)) 4 (by decide) (fun i μ2 hi hs => by
    refine ⟨kst (kst (kst (kst μ2 10 (kup (μ2 10) i 0)) 11 (kup (μ2 11) i 0)) 12 (kup (μ2 12) i 0)) 13 (kup (μ2 13) i 0), ?_, fun k hk => ?_, fun c h1 h2 h3 h4 => ?_⟩
    · show mm_clears_l2 μ2 (i : Int) = _
      unfold mm_clears_l2
      simp only [klet]
      rw [if_neg (by omega), kchk_t (by omega), kchk_t (by omega), kchk_t (by omega), kchk_t (by omega), Int.toNat_natCast, w32_s (by omega) (by omega)]
      rfl
    · simp (disch := decide) only [kst_ne, kst_eq]
      by_cases e : k = i
      · subst e
        rw [kup_eq, kup_eq, kup_eq, kup_eq]
        exact ⟨rfl, rfl, rfl, rfl⟩
      · rw [kup_ne e, kup_ne e, kup_ne e, kup_ne e]
        exact hs.1 k (by omega)
    · rw [kst_ne h4, kst_ne h3, kst_ne h2, kst_ne h1]
      exact hs.2 c h1 h2 h3 h4) (fun μ2 hs => by
    refine ⟨μ2, ?_, hs⟩
    show mm_clears_l2 μ2 ((4 : Nat) : Int) = _
    unfold mm_clears_l2
    rw [if_pos (by decide)]) (σ := μ1) ⟨fun k hk => absurd hk (by omega), fun _ _ _ _ _ => rfl⟩ (b0 := 0) rfl
  rw [h1]
  simp only [Option.bind]
  obtain ⟨μ3, h4, h5, h6⟩ := kl_M (body := fun st => mm_clears_l43 st.1 st.2) (fun i μ3 => (∀ k : Nat, k < i → μ3 14 k = 0) ∧ ∀ c : Nat, c ≠ 14 → μ3 c = μ2 c) (fun i => (i : Int)) 32 (by decide) (fun i μ3 hi hs => by
    refine ⟨kst μ3 14 (kup (μ3 14) i 0), ?_, fun k hk => ?_, fun c h1 => ?_⟩
    · show mm_clears_l43 μ3 (i : Int) = _
      unfold mm_clears_l43
      rw [if_neg (by omega), kchk_t (by omega), Int.toNat_natCast, w32_s (by omega) (by omega)]
      rfl
    · rw [kst_eq]
      by_cases e : k = i
      · subst e
        rw [kup_eq]
      · rw [kup_ne e]
        exact hs.1 k (by omega)
    · rw [kst_ne h1]
      exact hs.2 c h1) (fun μ3 hs => by
    refine ⟨μ3, ?_, hs⟩
    show mm_clears_l43 μ3 ((32 : Nat) : Int) = _
    unfold mm_clears_l43
    rw [if_pos (by decide)]) (σ := μ2) ⟨fun k hk => absurd hk (by omega), fun _ _ => rfl⟩ (b0 := 0) rfl
  rw [h4]
  have hc : ∀ c : Nat, c ≠ 0 → c ≠ 8 → c < 10 ∨ 14 < c → μ3 c = μ c := fun c h0 h8 h1 => by rw [h6 c (by omega), h3 c (by omega) (by omega) (by omega) (by omega), gc c h8]
  have h30 : μ3 0 = μ 0 := by rw [h6 0 (by decide), h3 0 (by decide) (by decide) (by decide) (by decide), gc 0 (by decide)]
  have h38 : μ3 8 = μ1 8 := by rw [h6 8 (by decide), h3 8 (by decide) (by decide) (by decide) (by decide)]
  have h310 : ∀ k : Nat, k < 4 → μ3 10 k = 0 ∧ μ3 11 k = 0 ∧ μ3 12 k = 0 ∧ μ3 13 k = 0 := fun k hk => by
    rw [h6 10 (by decide), h6 11 (by decide), h6 12 (by decide), h6 13 (by decide)]
    exact h2 k hk
  refine ⟨kst (kst μ3 0 (kup (μ3 0) 44 0)) 0 (kup (kup (μ3 0) 44 0) 45 0), ?_, ?_, ?_⟩
  · simp only [klet]
    rw [kst_eq]
  · have hz : ∀ k : Nat, 145 ≤ k → trow q k = 0 := fun k hk => if_neg (by omega)
    rw [kst_st]
    refine ⟨hN, hE.kept (fun j h1 h2 => ?_) ?_, fun k hk => ?_, ⟨fun k hk => ?_, fun k hk => ?_, ?_, ?_⟩, hI.congr (fun k hk => if_pos hk)⟩
    · rw [kst_eq, kup_ne (by omega), kup_ne (by omega), h30]
    · rw [kst_ne (by decide)]
      exact hc 1 (by decide) (by decide) (by decide)
    · rw [kst_ne (by decide), h38, show trow q k = q k from if_pos hk]
      have h7 := hR k hk
      rw [show (0 : Int).toNat + k = k by omega] at h7
      rw [← h7]
      exact (g8 k hk).1
    · rw [hz _ (by omega), hz _ (by omega), hz _ (by omega), hz _ (by omega)]
      simp (disch := decide) only [kst_ne]
      exact h310 k hk
    · rw [hz _ (by omega), kst_ne (by decide)]
      exact h5 k hk
    · rw [hz _ (by decide), kst_eq, kup_ne (by decide), kup_eq]
    · rw [hz _ (by decide), kst_eq, kup_eq]
  · rw [kst_st]
    refine ⟨fun c h0 h8 h1 => ?_, fun j h1 h2 h3 h4 => ?_, fun k hk => ?_⟩
    · rw [kst_ne h0]
      exact hc c h0 h8 (by omega)
    · rw [kst_eq, kup_ne h2, kup_ne h1, h30]
    · rw [kst_ne (by decide), h38]
      exact g8' k (by have : (145 : Int).toNat = 145 := rfl; omega)
theorem m_tries (h : MN N M tp L PH PF PB μ q) : ∃ μ', mm_tries μ = some μ' ∧ TN N M tp L PH PF PB μ' (trow q) ∧ frM 145 μ μ' := m_triesG h.1 h.2.1 h.2.2.1 h.2.2.2.1
/-- a year of the reference's, whatever was said of the last one -/
theorem m_tstep (h : TN N M tp L PH PF PB μ q) {acc : Int} (ha : μ 0 48 = acc) : ∃ μ', mm_yearGoes μ 145 = some μ' ∧ TN N M tp L PH PF PB μ' (sp_year N M PH PF PB L acc q) ∧ TF M μ' (sp_year N M PH PF PB L acc q) ∧ frM 145 μ μ' := by
  obtain ⟨hN, hE, hR, hW, hI⟩ := h
  have hn2 := hN.2.1
  have q1 : ∀ k : Nat, k < 195 ∨ 201 ≤ k → (fun k => if k < 195 ∨ 201 ≤ k then q k else tvM μ q k) k = q k := fun k hk => if_pos hk
  have q2 : ∀ k : Nat, 195 ≤ k → k < 201 → (fun k => if k < 195 ∨ 201 ≤ k then q k else tvM μ q k) k = tvM μ q k := fun k h1 h2 => if_neg (by omega)
  generalize (fun k => if k < 195 ∨ 201 ≤ k then q k else tvM μ q k) = qM at q1 q2
  have hIM : IV M tp L qM := hI.congr (fun k hk => q1 k (by omega))
  have hRM : RM μ 145 qM := by
    have ht := tvM_RM μ q
    refine ⟨fun k hk => by rw [q1 k (by omega)]; exact hR k hk, fun k hk => ?_, fun k hk => ?_, ?_, ?_, ?_, ?_⟩
    · rw [q1 _ (by omega), q1 _ (by omega), q1 _ (by omega), q1 _ (by omega), q2 _ (by omega) (by omega)]
      have := hW.1 k hk
      exact ⟨this.1, this.2.1, this.2.2.1, this.2.2.2, (ht.1 k hk).2.2.2.2⟩
    · rw [q1 _ (by omega)]
      exact hW.2.1 k hk
    · rw [q1 _ (by decide)]
      exact hW.2.2.1
    · rw [q1 _ (by decide)]
      exact hW.2.2.2
    · rw [q2 _ (by decide) (by decide)]
      exact ht.2.2.2.2.1
    · rw [q2 _ (by decide) (by decide)]
      exact ht.2.2.2.2.2
  obtain ⟨μ1, h1, h2, h3⟩ := ms_year hE hN hRM hIM (by decide) (by decide) ha
  have hag : agr (fun k => k < 195 ∨ 201 ≤ k) q qM := fun k hk => (q1 k hk).symm
  have hy := hag.year (fun k hk => Or.inl (by omega)) hI hN acc
  have eq1 : ∀ k : Nat, k < 197 ∨ (197 ≤ k ∧ k < 197 + M.toNat) ∨ 201 ≤ k → sp_year N M PH PF PB L acc q k = sp_year N M PH PF PB L acc qM k := fun k hk => hy k (by
    by_cases c1 : k = 195
    · exact Or.inr (Or.inl c1)
    by_cases c2 : k = 196
    · exact Or.inr (Or.inr (Or.inl c2))
    by_cases c3 : 197 ≤ k ∧ k < 197 + M.toNat
    · exact Or.inr (Or.inr (Or.inr c3))
    · exact Or.inl (by omega))
  obtain ⟨r0, r1, r2, r3, r4, r5, r6⟩ := h2
  refine ⟨μ1, h1, ⟨hN, hE.fr h3, fun k hk => by rw [eq1 k (by omega)]; exact r0 k hk, ⟨fun k hk => ?_, fun k hk => by rw [eq1 _ (by omega)]; exact r2 k hk, by rw [eq1 _ (by omega)]; exact r3, by rw [eq1 _ (by omega)]; exact r4⟩, IV.year hI hN⟩, ⟨by rw [eq1 _ (by omega)]; exact r5, by rw [eq1 _ (by omega)]; exact r6, fun w hw0 hw => ?_⟩, h3⟩
  · rw [eq1 _ (by omega), eq1 _ (by omega), eq1 _ (by omega), eq1 _ (by omega)]
    have := r1 k hk
    exact ⟨this.1, this.2.1, this.2.2.1, this.2.2.2.1⟩
  · rw [eq1 _ (by omega), show (197 + w).toNat = 197 + w.toNat by omega]
    exact (r1 w.toNat (by omega)).2.2.2.2
theorem c_tstep (h : TC N M tp L PH PF PB σ q) (acc : Int) : ∃ σ', pf_Stage_passYear_64 σ acc = some σ' ∧ TC N M tp L PH PF PB σ' (sp_year N M PH PF PB L acc q) ∧ fr64 σ σ' := by
  obtain ⟨hN, hE, hR, hI⟩ := h
  obtain ⟨σ1, h1, h2, h3⟩ := cs_year64 hE hN hR hI acc
  exact ⟨σ1, h1, ⟨hN, EC64.fr hE h3, h2, IV.year hI hN⟩, h3⟩
theorem c_letGo (h : TC N M tp L PH PF PB σ q) {n : Int} (hn0 : 0 ≤ n) (hn : n ≤ 1000) : ∃ σ', pf_Oracle_letGoBy_57 σ n = some σ' ∧ TC N M tp L PH PF PB σ' (yrs N M PH PF PB L n.toNat q) ∧ fr64 σ σ' := by
  unfold pf_Oracle_letGoBy_57
  obtain ⟨σ1, h1, h2, h3⟩ := kl_M (body := fun st => pf_Oracle_letGoBy_57_l2 st.1 n st.2) (fun i σ1 => TC N M tp L PH PF PB σ1 (yrs N M PH PF PB L i q) ∧ fr64 σ σ1) (fun i => (i : Int)) n.toNat (by omega) (fun i σ1 hi hs => by
    obtain ⟨σ2, t1, t2, t3⟩ := c_tstep hs.1 0
    refine ⟨σ2, ?_, t2, hs.2.trans t3⟩
    show pf_Oracle_letGoBy_57_l2 σ1 n (i : Int) = _
    unfold pf_Oracle_letGoBy_57_l2
    rw [if_neg (by omega), t1]
    simp only [Option.bind, klet]
    rw [w32_s (by omega) (by omega)]
    rfl) (fun σ1 hs => by
    refine ⟨σ1, ?_, hs⟩
    show pf_Oracle_letGoBy_57_l2 σ1 n ((n.toNat : Nat) : Int) = _
    unfold pf_Oracle_letGoBy_57_l2
    rw [if_pos (by omega)]) (σ := σ) ⟨h, frS.rfl⟩ (b0 := 0) rfl
  rw [h1]
  exact ⟨σ1, rfl, h2, h3⟩
theorem c_foresee (h : CN N M tp L PH PF PB σ q) {n : Int} (hn0 : 0 ≤ n) (hn : n ≤ 1000) : ∃ σ', pf_Oracle_foresee_57 σ n = some σ' ∧ TC N M tp L PH PF PB σ' (yrs N M PH PF PB L n.toNat (trow q)) ∧ fr64 σ σ' := by
  unfold pf_Oracle_foresee_57
  obtain ⟨σ1, h1, h2, h3⟩ := c_begin h
  obtain ⟨σ2, h4, h5, h6⟩ := c_letGo h2 hn0 hn
  rw [h1]
  simp only [Option.bind]
  rw [h4]
  exact ⟨σ2, rfl, h5, h3.trans h6⟩
theorem m_goesTo (h : MN N M tp L PH PF PB μ q) {n : Int} (hn0 : 0 ≤ n) (hn : n ≤ 1000) : ∃ μ', mm_goesTo μ n = some μ' ∧ TN N M tp L PH PF PB μ' (yrs N M PH PF PB L n.toNat (trow q)) ∧ frM 145 μ μ' := by
  unfold mm_goesTo
  obtain ⟨μ1, h1, h2, h3⟩ := m_tries h
  rw [h1]
  simp only [Option.bind]
  obtain ⟨μ2, h4, h5, h6⟩ := kl_M (body := fun st => mm_goesTo_l6 st.1 n st.2) (fun i μ2 => TN N M tp L PH PF PB μ2 (yrs N M PH PF PB L i (trow q)) ∧ frM 145 μ μ2) (fun i => (i : Int)) n.toNat (by omega) (fun i μ2 hi hs => by
    obtain ⟨μ3, t1, t2, -, t3⟩ := m_tstep hs.1 (acc := 0) (by rw [hs.2.2.1 48 (by decide) (by decide) (by decide) (by decide)]; exact h.2.2.2.2)
    refine ⟨μ3, ?_, t2, hs.2.trans t3⟩
    show mm_goesTo_l6 μ2 n (i : Int) = _
    unfold mm_goesTo_l6
    rw [if_neg (by omega), t1]
    simp only [Option.bind, klet]
    rw [w32_s (by omega) (by omega)]
    rfl) (fun μ2 hs => by
    refine ⟨μ2, ?_, hs⟩
    show mm_goesTo_l6 μ2 n ((n.toNat : Nat) : Int) = _
    unfold mm_goesTo_l6
    rw [if_pos (by omega)]) (σ := μ1) ⟨h2, h3⟩ (b0 := 0) rfl
  rw [h4]
  exact ⟨μ2, rfl, h5, h6⟩
end TRY

/-! CALLS: count, person, poet, line, probe, safe, plaintiff, fault -/
section OPS1
variable {N M tp : Int} {L : Nat → Int} {PH PF PB : List Int} {σ σ' μ μ' : kM} {q : Nat → Int}
theorem mTj {j : Nat} (hj : j ≠ 0) : mT μ 0 j = μ 0 j := by
  show kst μ 0 (kup (μ 0) 0 0) 0 j = μ 0 j
  rw [kst_eq, kup_ne hj]
theorem mTc {c : Nat} (hc : c ≠ 0) : mT μ c = μ c := kst_ne hc
theorem scr0 (h : scrM (mT μ) μ') : μ' 0 0 = 0 := by
  rw [h 0 (by decide) (by decide)]
  exact mT0
theorem op_count (h : RE N M tp L PH PF PB σ μ) (x : Int) : OC N M tp L PH PF PB thN (pf_P_count_0 σ x) (mm_count μ x) := by
  have hn1 := h.1.1
  have hn2 := h.1.2.1
  have hC := h.cn
  have hM := h.mn
  obtain ⟨hN, hE, hR, hI⟩ := hC
  obtain ⟨-, hEM, hRM, -, -⟩ := hM
  obtain ⟨a1, a2, a3, a4, a5, a6, a7, a8, a9, a10⟩ := h
  have h : RE N M tp L PH PF PB σ μ := ⟨a1, a2, a3, a4, a5, a6, a7, a8, a9, a10⟩
  by_cases hx : 0 ≤ x ∧ x ≤ 14
  · have hc : x = 0 ∨ x = 1 ∨ x = 2 ∨ x = 3 ∨ x = 4 ∨ x = 5 ∨ x = 6 ∨ x = 7 ∨ x = 8 ∨ x = 9 ∨ x = 10 ∨ x = 11 ∨ x = 12 ∨ x = 13 ∨ x = 14 := by omega
    rcases hc with rfl | rfl | rfl | rfl | rfl | rfl | rfl | rfl | rfl | rfl | rfl | rfl | rfl | rfl | rfl
    · refine OC.ok h (b := tp) (σ' := σ) (μ' := mT μ) ?_ ?_ kpC.rfl kpM.th mT0
      · show some ((Sum.inr (σ 3 0) : String ⊕ Int), σ) = _
        rw [hE.1]
      · unfold mm_count
        simp only [klet]
        rw [m_within, if_pos (by decide)]
        simp only [Option.bind]
        rw [m_right1 mT0 (by decide)]
        show some (mT μ 0 1, mT μ) = _
        rw [hEM.1]
    · refine OC.ok h (b := N) (σ' := σ) (μ' := mT μ) ?_ ?_ kpC.rfl kpM.th mT0
      · show some ((Sum.inr (σ 3 1) : String ⊕ Int), σ) = _
        rw [hE.2.1]
      · unfold mm_count
        simp only [klet]
        rw [m_within, if_pos (by decide)]
        simp only [Option.bind]
        rw [m_right1 mT0 (by decide)]
        show some (mT μ 0 2, mT μ) = _
        rw [hEM.2.1]
    · refine OC.ok h (b := M) (σ' := σ) (μ' := mT μ) ?_ ?_ kpC.rfl kpM.th mT0
      · show some ((Sum.inr (σ 3 2) : String ⊕ Int), σ) = _
        rw [hE.2.2.1]
      · unfold mm_count
        simp only [klet]
        rw [m_within, if_pos (by decide)]
        simp only [Option.bind]
        rw [m_right1 mT0 (by decide)]
        show some (mT μ 0 3, mT μ) = _
        rw [hEM.2.2.1]
    · refine OC.ok h (b := μ 8 0) (σ' := σ) (μ' := mT μ) ?_ ?_ kpC.rfl kpM.th mT0
      · show some ((Sum.inr (σ 31 0) : String ⊕ Int), σ) = _
        rw [hR.year]
      · unfold mm_count
        simp only [klet]
        rw [m_within, if_pos (by decide)]
        simp only [Option.bind]
        rw [m_right1 mT0 (by decide)]
        show some (mT μ 8 0, mT μ) = _
        rw [mTc (by decide)]
    · refine OC.ok h (b := sSum (μ 8) 1 N.toNat) (σ' := σ) (μ' := mT μ) ?_ ?_ kpC.rfl kpM.th mT0
      · show (pf_World_total_30 σ 1 (σ 3 1)).bind (fun r => some ((Sum.inr r : String ⊕ Int), σ)) = _
        rw [hE.2.1, c_total30 (q := μ 8) (a' := 1) hn1.1 (by decide) (by omega) (fun i h0 h1 => hR.money h0 (by omega))]
        rfl
      · unfold mm_count
        simp only [klet]
        rw [m_within, if_pos (by decide)]
        simp only [Option.bind]
        rw [m_right1 mT0 (by decide)]
        show (mm_sumOf (mT μ) 0 1 (mT μ 0 2)).bind (fun r => some (r, mT μ)) = _
        rw [hEM.2.1, m_sumOf hRM (by decide) (by decide) hn1.1 (by decide) (by omega)]
        rfl
    · refine OC.ok h (b := sSum (μ 8) 17 M.toNat) (σ' := σ) (μ' := mT μ) ?_ ?_ kpC.rfl kpM.th mT0
      · show (pf_World_total_30 σ 49 (σ 3 2)).bind (fun r => some ((Sum.inr r : String ⊕ Int), σ)) = _
        rw [hE.2.2.1, c_total30 (q := μ 8) (a' := 17) hn2.1 (by decide) (by omega) (fun i h0 h1 => hR.pence h0 (by omega))]
        rfl
      · unfold mm_count
        simp only [klet]
        rw [m_within, if_pos (by decide)]
        simp only [Option.bind]
        rw [m_right1 mT0 (by decide)]
        show (mm_sumOf (mT μ) 0 17 (mT μ 0 3)).bind (fun r => some (r, mT μ)) = _
        rw [hEM.2.2.1, m_sumOf hRM (by decide) (by decide) hn2.1 (by decide) (by omega)]
        rfl
    · refine OC.ok h (b := sSum (μ 8) 9 N.toNat) (σ' := σ) (μ' := mT μ) ?_ ?_ kpC.rfl kpM.th mT0
      · show (pf_World_total_30 σ 9 (σ 3 1)).bind (fun r => some ((Sum.inr r : String ⊕ Int), σ)) = _
        rw [hE.2.1, c_total30 (q := μ 8) (a' := 9) hn1.1 (by decide) (by omega) (fun i h0 h1 => hR.scars h0 (by omega))]
        rfl
      · unfold mm_count
        simp only [klet]
        rw [m_within, if_pos (by decide)]
        simp only [Option.bind]
        rw [m_right1 mT0 (by decide)]
        show (mm_sumOf (mT μ) 0 9 (mT μ 0 2)).bind (fun r => some (r, mT μ)) = _
        rw [hEM.2.1, m_sumOf hRM (by decide) (by decide) hn1.1 (by decide) (by omega)]
        rfl
    · refine OC.ok h (b := sWh (μ 8) N.toNat) (σ' := σ) (μ' := mT μ) ?_ ?_ kpC.rfl kpM.th mT0
      · show (pf_World_unscarred_30 σ (σ 3 1)).bind (fun r => some ((Sum.inr r : String ⊕ Int), σ)) = _
        rw [hE.2.1, c_unscarred30 hR hn1.1 hn1.2]
        rfl
      · unfold mm_count
        simp only [klet]
        rw [m_within, if_pos (by decide)]
        simp only [Option.bind]
        rw [m_right1 mT0 (by decide)]
        show (mm_wholeOnes (mT μ) 0).bind (fun r => some (r, mT μ)) = _
        rw [m_wholeOnes hRM (by decide) (by decide) hEM.2.1 hn1.1 hn1.2]
        rfl
    · refine OC.ok h (b := sSi (μ 8) M.toNat) (σ' := σ) (μ' := mT μ) ?_ ?_ kpC.rfl kpM.th mT0
      · show (pf_World_sitting_30 σ (σ 3 2)).bind (fun r => some ((Sum.inr r : String ⊕ Int), σ)) = _
        rw [hE.2.2.1, c_sitting30 hR hn2.1 hn2.2]
        rfl
      · unfold mm_count
        simp only [klet]
        rw [m_within, if_pos (by decide)]
        simp only [Option.bind]
        rw [m_right1 mT0 (by decide)]
        show (mm_sitting (mT μ) 0).bind (fun r => some (r, mT μ)) = _
        rw [m_sitting hRM (by decide) (by decide) hEM.2.2.1 hn2.1 hn2.2]
        rfl
    · refine OC.ok h (b := μ 0 38) (σ' := σ) (μ' := mT μ) ?_ ?_ kpC.rfl kpM.th mT0
      · show some ((Sum.inr (σ 29 1) : String ⊕ Int), σ) = _
        rw [a5.2.2.1]
      · unfold mm_count
        simp only [klet]
        rw [m_within, if_pos (by decide)]
        simp only [Option.bind]
        rw [m_right1 mT0 (by decide)]
        show some (mT μ 0 38, mT μ) = _
        rw [mTj (by decide)]
    · refine OC.ok h (b := μ 0 53) (σ' := σ) (μ' := mT μ) ?_ ?_ kpC.rfl kpM.th mT0
      · show some ((Sum.inr (σ 29 4) : String ⊕ Int), σ) = _
        rw [a5.2.2.2.2.2.1]
      · unfold mm_count
        simp only [klet]
        rw [m_within, if_pos (by decide)]
        simp only [Option.bind]
        rw [m_right1 mT0 (by decide)]
        show some (mT μ 0 53, mT μ) = _
        rw [mTj (by decide)]
    · refine OC.ok h (b := μ 0 9) (σ' := σ) (μ' := mT μ) ?_ ?_ kpC.rfl kpM.th mT0
      · show some ((Sum.inr (σ 0 1) : String ⊕ Int), σ) = _
        rw [a6.1]
      · unfold mm_count
        simp only [klet]
        rw [m_within, if_pos (by decide)]
        simp only [Option.bind]
        rw [m_right1 mT0 (by decide)]
        show some (mT μ 0 9, mT μ) = _
        rw [mTj (by decide)]
    · refine OC.ok h (b := μ 3 0) (σ' := σ) (μ' := mT μ) ?_ ?_ kpC.rfl kpM.th mT0
      · show some ((Sum.inr (σ 2 0) : String ⊕ Int), σ) = _
        rw [a8 0 (by decide)]
      · unfold mm_count
        simp only [klet]
        rw [m_within, if_pos (by decide)]
        simp only [Option.bind]
        rw [m_right1 mT0 (by decide)]
        show kchk (0 ≤ (w32 (12 - 12)) ∧ (w32 (12 - 12)) < 3) (some (mT μ 3 (w32 (12 - 12)).toNat, mT μ)) = _
        rw [kchk_t (by decide), mTc (by decide)]
        rfl
    · refine OC.ok h (b := μ 3 1) (σ' := σ) (μ' := mT μ) ?_ ?_ kpC.rfl kpM.th mT0
      · show some ((Sum.inr (σ 2 1) : String ⊕ Int), σ) = _
        rw [a8 1 (by decide)]
      · unfold mm_count
        simp only [klet]
        rw [m_within, if_pos (by decide)]
        simp only [Option.bind]
        rw [m_right1 mT0 (by decide)]
        show kchk (0 ≤ (w32 (13 - 12)) ∧ (w32 (13 - 12)) < 3) (some (mT μ 3 (w32 (13 - 12)).toNat, mT μ)) = _
        rw [kchk_t (by decide), mTc (by decide)]
        rfl
    · refine OC.ok h (b := μ 3 2) (σ' := σ) (μ' := mT μ) ?_ ?_ kpC.rfl kpM.th mT0
      · show some ((Sum.inr (σ 2 2) : String ⊕ Int), σ) = _
        rw [a8 2 (by decide)]
      · unfold mm_count
        simp only [klet]
        rw [m_within, if_pos (by decide)]
        simp only [Option.bind]
        rw [m_right1 mT0 (by decide)]
        show kchk (0 ≤ (w32 (14 - 12)) ∧ (w32 (14 - 12)) < 3) (some (mT μ 3 (w32 (14 - 12)).toNat, mT μ)) = _
        rw [kchk_t (by decide), mTc (by decide)]
        rfl
  · refine OC.no h (b := 0) (E := "java/util/NoSuchElementException") (σ' := σ) (μ' := mR (mT μ) 1) ?_ ?_ kpC.rfl (kpM.th.trans kpM.th) ⟨rfl, mR0⟩
    · unfold pf_P_count_0
      rw [if_neg (by omega), if_neg (by omega), if_neg (by omega), if_neg (by omega), if_neg (by omega), if_neg (by omega), if_neg (by omega), if_neg (by omega), if_neg (by omega), if_neg (by omega), if_neg (by omega), if_neg (by omega), if_neg (by omega), if_neg (by omega), if_neg (by omega)]
    · unfold mm_count
      simp only [klet]
      rw [m_within, if_neg hx]
      simp only [Option.bind]
      rw [m_right0 mT0 (by decide)]
      rfl
/-- the class's and the reference's ways to refuse -/
theorem op_person (h : RE N M tp L PH PF PB σ μ) (p x : Int) (hx : kR32 x) : OC N M tp L PH PF PB thN (pf_P_person_0 σ p x) (mm_person μ p x) := by
  have hn1 := h.1.1
  have hn2 := h.1.2.1
  have hn3 := h.1.2.2.1
  obtain ⟨hN, hE, hR, hI⟩ := h.cn
  obtain ⟨-, hEM, hRM, -, -⟩ := h.mn
  obtain ⟨hx1, hx2⟩ := hx
  unfold pf_P_person_0 mm_person
  simp only [klet]
  by_cases hp : 0 ≤ p ∧ p < N
  · rw [c_person1 (by rw [hE.2.1]; exact hp), m_isPerson1 mT0 (by rw [hEM.2.1]; exact hp)]
    simp only [Option.bind]
    rw [if_neg (show ¬ (1 : Int) = 0 by decide), m_within, m_within, hE.1, hEM.1, w32_s (v := 9 + tp) (by omega) (by omega)]
    simp only
    unfold mm_person_j39 mm_person_j44
    by_cases h3 : 0 ≤ x ∧ x ≤ 2
    · rw [if_pos h3, if_neg (show ¬ (1 : Int) = 0 by decide), m_right1 mT0 (by decide), if_pos (by omega)]
      unfold pf_P_person_0_j38
      rw [c_what1 h3]
      simp only [Option.bind]
      rw [c_ofPerson30 hR (by rw [hE.2.2.1]; exact hn2.1) (by rw [hE.2.2.1]; exact hn2.2) hp.1 (by omega), hE.2.2.1, if_neg (show ¬ (1 : Int) = 0 by decide), w32_s (v := 1 + p) (by omega) (by omega), kchk_t (by omega), w32_s (v := 9 + p) (by omega) (by omega), kchk_t (by omega), m_hitsOf hRM (by decide) (by decide) hEM.2.2.1 hn2.1 hn2.2 hp.1 (by omega), mTc (by decide)]
      have hc : x = 0 ∨ x = 1 ∨ x = 2 := by omega
      rcases hc with rfl | rfl | rfl
      · exact OC.ok h rfl rfl kpC.rfl kpM.th mT0
      · exact OC.ok h rfl rfl kpC.rfl kpM.th mT0
      · exact OC.ok h rfl rfl kpC.rfl kpM.th mT0
    · rw [if_neg h3, if_pos rfl]
      by_cases h4 : 10 ≤ x ∧ x ≤ 9 + tp
      · rw [if_pos h4, if_neg (show ¬ (1 : Int) = 0 by decide), m_right1 mT0 (by decide), if_neg (by omega), w32_s (v := x - 10) (by omega) (by omega), if_neg (by omega)]
        simp only [Option.bind]
        rw [if_neg (show ¬ (1 : Int) = 0 by decide), if_neg (by omega), if_neg (by omega), if_neg (by omega), w32_s (v := 4 * p) (by omega) (by omega), w32_s (v := 113 + 4 * p) (by omega) (by omega), w32_s (v := 113 + 4 * p + x) (by omega) (by omega), w32_s (v := 113 + 4 * p + x - 10) (by omega) (by omega), kchk_t (by omega), cs_tr43 hR hN hp.1 hp.2 (t := x - 10) (by omega) (by omega), hRM.at (i := 113 + 4 * p + (x - 10)) (by omega) (by omega) (by decide) (by omega)]
        exact OC.ok h rfl rfl kpC.rfl kpM.th mT0
      · rw [if_neg h4, if_pos rfl, m_right0 mT0 (by decide)]
        have hcl : (if x < 10 then pf_P_person_0_j38 σ p x else if tp ≤ w32 (x - 10) then pf_P_person_0_j38 σ p x else (pf_Law_truthOf_3 σ p (w32 (x - 10))).bind fun r_10 => some (Sum.inr r_10, σ)) = some (.inl "java/util/NoSuchElementException", σ) := by
          have hj : pf_P_person_0_j38 σ p x = some (.inl "java/util/NoSuchElementException", σ) := by
            unfold pf_P_person_0_j38
            rw [c_what0 h3]
            rfl
          by_cases h5 : x < 10
          · rw [if_pos h5, hj]
          · rw [if_neg h5, w32_s (v := x - 10) (by omega) (by omega), if_pos (by omega), hj]
        exact OC.no h (b := 0) (μ' := mR (mT μ) 1) hcl rfl kpC.rfl (kpM.th.trans kpM.th) ⟨rfl, mR0⟩
  · rw [c_person0 (by rw [hE.2.1]; exact hp), m_isPerson0 mT0 (by rw [hEM.2.1]; exact hp)]
    exact OC.no h (b := 0) (μ' := mR (mT μ) 1) rfl rfl kpC.rfl (kpM.th.trans kpM.th) ⟨rfl, mR0⟩
theorem op_poet (h : RE N M tp L PH PF PB σ μ) (w x : Int) : OC N M tp L PH PF PB thN (pf_P_poet_0 σ w x) (mm_poet μ w x) := by
  have hn1 := h.1.1
  have hn2 := h.1.2.1
  have hCN := h.cn
  have hMN := h.mn
  obtain ⟨hN, hE, hR, hI⟩ := h.cn
  obtain ⟨-, hEM, hRM, -, -⟩ := h.mn
  unfold pf_P_poet_0 mm_poet
  simp only [klet]
  by_cases hp : 0 ≤ w ∧ w < M
  · rw [c_poet1 (by rw [hE.2.2.1]; exact hp), m_isPoet1 mT0 (by rw [hEM.2.2.1]; exact hp)]
    simp only [Option.bind]
    rw [if_neg (show ¬ (1 : Int) = 0 by decide)]
    by_cases h3 : 0 ≤ x ∧ x ≤ 4
    · rw [c_what1 h3, m_isWhat1 mT0 h3]
      simp only
      rw [if_neg (show ¬ (1 : Int) = 0 by decide)]
      simp (disch := omega) only [w32_s, kchk_t]
      rw [hR.pence hp.1 (by omega), hR.next hp.1 (by omega), hR.sits hp.1 (by omega), hE.2.2.2.1 w hp.1 hp.2, hRM.at (i := 17 + w) (by omega) (by omega) (by decide) (by omega), hRM.at (i := 61 + w) (by omega) (by omega) (by decide) (by omega), hRM.at (i := 21 + w) (by omega) (by omega) (by decide) (by omega), hRM.at (i := 25 + w) (by omega) (by omega) (by decide) (by omega), hI.many hp.1 (by omega)]
      have hc : x = 0 ∨ x = 1 ∨ x = 2 ∨ x = 3 ∨ x = 4 := by omega
      rcases hc with rfl | rfl | rfl | rfl | rfl
      · exact OC.ok h rfl rfl kpC.rfl kpM.th mT0
      · exact OC.ok h rfl rfl kpC.rfl kpM.th mT0
      · exact OC.ok h rfl rfl kpC.rfl kpM.th mT0
      · exact OC.ok h rfl rfl kpC.rfl kpM.th mT0
      · obtain ⟨σ1, h4, h5⟩ := c_nextHits hCN hp.1 hp.2
        obtain ⟨μ1, h6, h7⟩ := m_nextHits hMN hp.1 hp.2
        rw [h4, h6]
        exact OC.ok h rfl rfl (kpC.scr h5) (kpM.th.trans (kpM.scr h7)) (scr0 h7)
    · rw [c_what0 h3, m_isWhat0 mT0 h3]
      exact OC.no h (b := 0) (μ' := mR (mT μ) 1) rfl rfl kpC.rfl (kpM.th.trans kpM.th) ⟨rfl, mR0⟩
  · rw [c_poet0 (by rw [hE.2.2.1]; exact hp), m_isPoet0 mT0 (by rw [hEM.2.2.1]; exact hp)]
    exact OC.no h (b := 0) (μ' := mR (mT μ) 1) rfl rfl kpC.rfl (kpM.th.trans kpM.th) ⟨rfl, mR0⟩
theorem c_line1 {w l : Int} (hE : EC N M tp L PH PF PB σ) (hN : EN N M tp L PH PF PB) (hw : 0 ≤ w ∧ w < M) (hl : 0 ≤ l ∧ l < L w.toNat) : pf_P_needLine_0 σ w l = some (.inr (), σ) := by
  have hn2 := hN.2.1
  unfold pf_P_needLine_0
  rw [c_poet1 (by rw [hE.2.2.1]; exact hw)]
  simp only [Option.bind]
  rw [if_neg (by omega), kchk_t (by omega), hE.2.2.2.1 w hw.1 hw.2, if_pos hl.2]
theorem c_line0 {w l : Int} (hE : EC N M tp L PH PF PB σ) (hN : EN N M tp L PH PF PB) (hl : ¬ ((0 ≤ w ∧ w < M) ∧ (0 ≤ l ∧ l < L w.toNat))) : pf_P_needLine_0 σ w l = some (.inl "java/util/NoSuchElementException", σ) := by
  have hn2 := hN.2.1
  unfold pf_P_needLine_0
  by_cases hw : 0 ≤ w ∧ w < M
  · rw [c_poet1 (by rw [hE.2.2.1]; exact hw)]
    simp only [Option.bind]
    rw [kchk_t (by omega), hE.2.2.2.1 w hw.1 hw.2]
    by_cases h : l < 0
    · rw [if_pos h]
    · rw [if_neg h, if_neg (fun h2 => hl ⟨hw, by omega, h2⟩)]
  · rw [c_poet0 (by rw [hE.2.2.1]; exact hw)]
    rfl
theorem m_line1 {w l : Int} (hM : MN N M tp L PH PF PB μ q) (h0 : μ 0 0 = 0) (hw : 0 ≤ w ∧ w < M) (hl : 0 ≤ l ∧ l < L w.toNat) : mm_isLine μ w l = some (1, μ) := by
  obtain ⟨hN, hEM, hRM, hI, -⟩ := hM
  have hn2 := hN.2.1
  unfold mm_isLine mm_isLine_j31
  rw [m_isPoet1 h0 (by rw [hEM.2.2.1]; exact hw)]
  simp only [Option.bind]
  rw [if_neg (show ¬ (1 : Int) = 0 by decide), if_neg (by omega), w32_s (v := 61 + w) (by omega) (by omega), kchk_t (by omega), hRM.at (i := 61 + w) (by omega) (by omega) (by decide) (by omega), hI.many hw.1 (by omega), if_neg (by omega), m_right1 h0 (by decide)]
  rfl
theorem m_line0 {w l : Int} (hM : MN N M tp L PH PF PB μ q) (h0 : μ 0 0 = 0) (hl : ¬ ((0 ≤ w ∧ w < M) ∧ (0 ≤ l ∧ l < L w.toNat))) : mm_isLine μ w l = some (0, mR μ 1) := by
  obtain ⟨hN, hEM, hRM, hI, -⟩ := hM
  have hn2 := hN.2.1
  unfold mm_isLine mm_isLine_j30 mm_isLine_j31
  by_cases hw : 0 ≤ w ∧ w < M
  · rw [m_isPoet1 h0 (by rw [hEM.2.2.1]; exact hw)]
    simp only [Option.bind]
    rw [if_neg (show ¬ (1 : Int) = 0 by decide), w32_s (v := 61 + w) (by omega) (by omega), kchk_t (by omega), hRM.at (i := 61 + w) (by omega) (by omega) (by decide) (by omega), hI.many hw.1 (by omega), m_right0 h0 (by decide)]
    by_cases h : l < 0
    · rw [if_pos h]
      rfl
    · have h2 : L w.toNat ≤ l := by
        by_cases h3 : l < L w.toNat
        · exact absurd ⟨hw, by omega, h3⟩ hl
        · omega
      rw [if_neg h, if_pos h2]
      rfl
  · rw [m_isPoet0 h0 (by rw [hEM.2.2.1]; exact hw)]
    rfl
theorem op_line (h : RE N M tp L PH PF PB σ μ) (w l x : Int) : OC N M tp L PH PF PB thN (pf_P_line_0 σ w l x) (mm_line μ w l x) := by
  have hn1 := h.1.1
  have hn2 := h.1.2.1
  have hCN := h.cn
  have hMN := h.mn
  obtain ⟨hN, hE, hR, hI⟩ := h.cn
  obtain ⟨-, hEM, hRM, -, -⟩ := h.mn
  unfold pf_P_line_0 mm_line
  simp only [klet]
  by_cases hl : (0 ≤ w ∧ w < M) ∧ (0 ≤ l ∧ l < L w.toNat)
  · obtain ⟨hw, hl⟩ := hl
    have hL := hN.2.2.2.1 w hw.1 hw.2
    rw [c_line1 hE hN hw hl, m_line1 hMN mT0 hw hl]
    simp only [Option.bind]
    rw [if_neg (show ¬ (1 : Int) = 0 by decide)]
    by_cases h3 : 0 ≤ x ∧ x ≤ 4
    · rw [c_what1 h3, m_isWhat1 mT0 h3]
      simp only
      rw [if_neg (show ¬ (1 : Int) = 0 by decide)]
      have hc : x = 0 ∨ x = 1 ∨ x = 2 ∨ x = 3 ∨ x = 4 := by omega
      rcases hc with rfl | rfl | rfl | rfl | rfl
      · rw [cs_to43 hR hN hw.1 hw.2 hl.1 hl.2, w32_s (v := 6 * w) (by omega) (by omega), w32_s (v := 65 + 6 * w) (by omega) (by omega), w32_s (v := 65 + 6 * w + l) (by omega) (by omega), kchk_t (by omega), hRM.at (i := 65 + 6 * w + l) (by omega) (by omega) (by decide) (by omega)]
        exact OC.ok h rfl rfl kpC.rfl kpM.th mT0
      · unfold pf_World_depthOf_30 mm_depthOf
        simp (disch := omega) only [w32_s, kchk_t]
        rw [hR.depth hw.1 (by omega) hl.1 (by omega), hRM.at (j := (0 + 89 + 6 * w + l).toNat) (i := 89 + 6 * w + l) (by omega) (by omega) (by decide) (by omega)]
        exact OC.ok h rfl rfl kpC.rfl kpM.th mT0
      · rw [cs_rh43 hR hN (hE.2.2.2.1 w hw.1 hw.2) hw.1 hw.2 hl.1 hl.2, ms_rh hN hRM hI (by decide) (by decide) hw.1 hw.2 hl.1 hl.2]
        rcases sp_rh_01 (L := L) (q := μ 8) (w := w) (l := l) with h4 | h4
        · rw [h4]
          exact OC.ok h rfl rfl kpC.rfl kpM.th mT0
        · rw [h4]
          exact OC.ok h rfl rfl kpC.rfl kpM.th mT0
      · obtain ⟨σ1, h4, h5⟩ := c_fineOf hCN hw.1 hw.2 hl.1 hl.2
        obtain ⟨μ1, h6, h7⟩ := m_fineOf hMN hw.1 hw.2 hl.1 hl.2
        rw [h4, h6]
        exact OC.ok h rfl rfl (kpC.scr h5) (kpM.th.trans (kpM.scr h7)) (scr0 h7)
      · obtain ⟨σ1, h4, h5⟩ := c_inchOf hCN hw.1 hw.2 hl.1 hl.2
        obtain ⟨μ1, h6, h7⟩ := m_inchOf hMN hw.1 hw.2 hl.1 hl.2
        rw [h4, h6]
        exact OC.ok h rfl rfl (kpC.scr h5) (kpM.th.trans (kpM.scr h7)) (scr0 h7)
    · rw [c_what0 h3, m_isWhat0 mT0 h3]
      exact OC.no h (b := 0) (μ' := mR (mT μ) 1) rfl rfl kpC.rfl (kpM.th.trans kpM.th) ⟨rfl, mR0⟩
  · rw [c_line0 hE hN hl, m_line0 hMN mT0 hl]
    exact OC.no h (b := 0) (μ' := mR (mT μ) 1) rfl rfl kpC.rfl (kpM.th.trans kpM.th) ⟨rfl, mR0⟩
theorem op_probe (h : RE N M tp L PH PF PB σ μ) (w p t d : Int) : OC N M tp L PH PF PB thB (pf_P_probe_0 σ w p t d) (mm_probe μ w p t d) := by
  have hn1 := h.1.1
  have hn2 := h.1.2.1
  have hn3 := h.1.2.2.1
  obtain ⟨hN, hE, hR, hI⟩ := h.cn
  obtain ⟨-, hEM, hRM, -, -⟩ := h.mn
  unfold pf_P_probe_0 mm_probe
  simp only [klet]
  by_cases hw : 0 ≤ w ∧ w < M
  · rw [c_poet1 (by rw [hE.2.2.1]; exact hw), m_isPoet1 mT0 (by rw [hEM.2.2.1]; exact hw)]
    simp only [Option.bind]
    rw [if_neg (show ¬ (1 : Int) = 0 by decide)]
    by_cases hp : 0 ≤ p ∧ p < N
    · rw [c_person1 (by rw [hE.2.1]; exact hp), m_isPerson1 mT0 (by rw [hEM.2.1]; exact hp)]
      simp only
      rw [if_neg (show ¬ (1 : Int) = 0 by decide), m_within, m_within, hE.1, hEM.1, w32_s (v := tp - 1) (by omega) (by omega)]
      simp only
      unfold mm_probe_j51 mm_probe_j52
      by_cases ht : 0 ≤ t ∧ t ≤ tp - 1
      · rw [c_within1 ht, if_pos ht, if_neg (show ¬ (1 : Int) = 0 by decide)]
        simp only
        by_cases hd : 0 ≤ d ∧ d ≤ 9
        · rw [c_within1 hd, if_pos hd, if_neg (show ¬ (1 : Int) = 0 by decide), m_right1 mT0 (by decide)]
          simp only [Option.bind]
          rw [if_neg (show ¬ (1 : Int) = 0 by decide)]
          obtain ⟨σ1, h4, h5⟩ := cs_in43 (d := d) hE hN hR hw.1 hw.2 hp.1 hp.2 ht.1 (by omega)
          obtain ⟨μ1, h6, h7⟩ := ms_in (d := d) hEM hN hRM (by decide) (by decide) hw.1 hw.2 hp.1 hp.2 ht.1 (by omega)
          rw [h4, h6]
          exact OC.ok h rfl rfl (kpC.scr h5) (kpM.th.trans (kpM.scr h7)) (scr0 h7)
        · rw [c_within0 hd, if_neg hd, if_pos rfl, m_right0 mT0 (by decide)]
          exact OC.no h (b := 0) (μ' := mR (mT μ) 2) rfl rfl kpC.rfl (kpM.th.trans kpM.th) (Or.inr ⟨rfl, mR0⟩)
      · rw [c_within0 ht, if_neg ht, if_pos rfl, m_right0 mT0 (by decide)]
        exact OC.no h (b := 0) (μ' := mR (mT μ) 2) rfl rfl kpC.rfl (kpM.th.trans kpM.th) (Or.inr ⟨rfl, mR0⟩)
    · rw [c_person0 (by rw [hE.2.1]; exact hp), m_isPerson0 mT0 (by rw [hEM.2.1]; exact hp)]
      exact OC.no h (b := 0) (μ' := mR (mT μ) 1) rfl rfl kpC.rfl (kpM.th.trans kpM.th) (Or.inl ⟨rfl, mR0⟩)
  · rw [c_poet0 (by rw [hE.2.2.1]; exact hw), m_isPoet0 mT0 (by rw [hEM.2.2.1]; exact hw)]
    exact OC.no h (b := 0) (μ' := mR (mT μ) 1) rfl rfl kpC.rfl (kpM.th.trans kpM.th) (Or.inl ⟨rfl, mR0⟩)
theorem op_fault (h : RE N M tp L PH PF PB σ μ) : ∃ (b : Int) (μ' : kM), pf_P_fault_0 σ = some b ∧ mm_fault μ = some (b, μ') ∧ RE N M tp L PH PF PB σ μ' := by
  refine ⟨μ 0 11, mT μ, ?_, ?_, h.kept kpC.rfl kpM.th⟩
  · unfold pf_P_fault_0
    rw [h.2.2.2.2.2.2.1]
  · unfold mm_fault
    simp only [klet]
    rw [show kst μ 0 (kup (μ 0) 0 0) 0 11 = μ 0 11 from mTj (by decide)]
end OPS1

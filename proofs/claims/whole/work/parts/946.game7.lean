/-! CALLS: game, the answer -/
section GAME7
variable {N M tp : Int} {L : Nat → Int} {PH PF PB : List Int} {σ σ' μ μ' : kM} {q q' : Nat → Int}
theorem op_game (h : RE N M tp L PH PF PB σ μ) (w o x : Int) : OC N M tp L PH PF PB thB (pf_P_game_0 σ w o x) (mm_game μ w o x) := by
  have hn1 := h.1.1
  have hn2 := h.1.2.1
  have hn3 := h.1.2.2.1
  have hCN := h.cn
  have hMN := h.mn
  obtain ⟨hN, hE, hR, hI⟩ := h.cn
  obtain ⟨-, hEM, hRM, -, -⟩ := h.mn
  unfold pf_P_game_0 mm_game
  rw [klet_eq]
  by_cases k1 : 0 ≤ w ∧ w < M
  · rw [kbind_eq (c_poet1 (by rw [hE.2.2.1]; exact k1)), kbind_eq (m_isPoet1 (μ := mT μ) mT0 (by rw [hEM.2.2.1]; exact k1))]
    dsimp only
    rw [if_neg (show ¬ (1 : Int) = 0 by decide)]
    by_cases k2 : 0 ≤ o ∧ o < M
    · rw [kbind_eq (c_poet1 (by rw [hE.2.2.1]; exact k2)), kbind_eq (m_isPoet1 (μ := mT μ) mT0 (by rw [hEM.2.2.1]; exact k2))]
      dsimp only
      rw [if_neg (show ¬ (1 : Int) = 0 by decide)]
      by_cases k3 : 0 ≤ x ∧ x ≤ 1
      · rw [kbind_eq (c_what1 k3), kbind_eq (m_isWhat1 (μ := mT μ) mT0 k3)]
        dsimp only
        rw [if_neg (show ¬ (1 : Int) = 0 by decide)]
        by_cases e : w = o
        · rw [if_pos e, if_pos e]
          unfold mm_game_j41
          rw [kbind_eq (m_right0 (μ := mT μ) mT0 (by decide))]
          exact OC.no h (b := 0) (μ' := mR (mT μ) 2) rfl rfl kpC.rfl (kpM.th.trans kpM.th) (Or.inr ⟨rfl, mR0⟩)
        · rw [if_neg e, if_neg e]
          obtain ⟨σ1, a1, a2, a3, a4⟩ := c_play hCN k1 k2
          obtain ⟨μ1, b1, b2⟩ := m_game hMN (x := x) k1 k2 e
          unfold mm_game_j41
          rw [kbind_eq a1, kbind_eq (m_right1 (μ := mT μ) mT0 (by decide))]
          dsimp only
          rw [if_neg (show ¬ (1 : Int) = 0 by decide), klet_eq, kbind_eq b1]
          dsimp only
          by_cases ex : x = 0
          · rw [if_pos ex, if_pos ex, a2]
            exact OC.ok h rfl rfl a4 (kpM.th.trans (kpM.fr b2)) (fr0 b2)
          · rw [if_neg ex, if_neg ex, a3]
            exact OC.ok h rfl rfl a4 (kpM.th.trans (kpM.fr b2)) (fr0 b2)
      · rw [kbind_eq (c_what0 k3), kbind_eq (m_isWhat0 (μ := mT μ) mT0 k3)]
        exact OC.no h (b := 0) (μ' := mR (mT μ) 1) rfl rfl kpC.rfl (kpM.th.trans kpM.th) (Or.inl ⟨rfl, mR0⟩)
    · rw [kbind_eq (c_poet0 (by rw [hE.2.2.1]; exact k2)), kbind_eq (m_isPoet0 (μ := mT μ) mT0 (by rw [hEM.2.2.1]; exact k2))]
      exact OC.no h (b := 0) (μ' := mR (mT μ) 1) rfl rfl kpC.rfl (kpM.th.trans kpM.th) (Or.inl ⟨rfl, mR0⟩)
  · rw [kbind_eq (c_poet0 (by rw [hE.2.2.1]; exact k1)), kbind_eq (m_isPoet0 (μ := mT μ) mT0 (by rw [hEM.2.2.1]; exact k1))]
    exact OC.no h (b := 0) (μ' := mR (mT μ) 1) rfl rfl kpC.rfl (kpM.th.trans kpM.th) (Or.inl ⟨rfl, mR0⟩)
end GAME7

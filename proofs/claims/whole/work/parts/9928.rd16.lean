/-! CALLS: readings, both -/
section RPE
variable {N M tp : Int} {L : Nat → Int} {PH PF PB : List Int} {σ σ' μ μ' : kM} {q : Nat → Int}
theorem ro_n {M x : Int} (hn2 : 0 ≤ M ∧ M ≤ 4) : M.toNat ≤ 4 ∧ (0 ≤ x → x < M → ∃ j : Nat, x = (j : Int) ∧ j < M.toNat ∧ j < 4 ∧ (0 ≤ x ∧ x < 4)) := by
  refine ⟨by omega, fun a b => ⟨x.toNat, by omega, by omega, by omega, by omega⟩⟩
theorem op_readings (h : RE N M tp L PH PF PB σ μ) (x : Int) : OC N M tp L PH PF PB thN (pf_P_readings_0 σ x) (mm_readings μ x) := by
  have hn1 := h.1.1
  have hn2 := h.1.2.1
  have n8 : N.toNat ≤ 8 := by omega
  obtain ⟨m4, hj⟩ := ro_n (x := x) hn2
  have hCN := h.cn
  have hMN := h.mn
  have hE := h.cn.2.1
  have hI := h.cn.2.2.2
  have hEM := h.mn.2.1
  have hr : ∀ w p : Nat, w < M.toNat → p < N.toNat → 0 ≤ qr PH (μ 8) w p ∧ qr PH (μ 8) w p ≤ 9 := fun w p hw hp => (qr_rng h.1 hI hw hp).1
  obtain ⟨σ1, y, a1, a2, a3, a4, a5⟩ := c_assign hCN
  obtain ⟨μ1, b1, b2, b3⟩ := m_tab hMN
  obtain ⟨e, c1, c2⟩ := m_rpath (hMN.kp b2.kp.1) b3 (x := x)
  obtain ⟨p1, p2⟩ := path_R (r := qr PH (μ 8)) (S := qS (μ 8)) (x := y) hr n8 m4 M.toNat (Nat.le_refl _)
  rw [Nat.sub_self] at p1 p2
  have hx := pX_at (r := qr PH (μ 8)) (S := qS (μ 8)) (n := N.toNat) a3 M.toNat (Nat.le_refl _)
  have p3 : rI (qr PH (μ 8)) (qS (μ 8)) M.toNat N.toNat 0 (pH (qr PH (μ 8)) (qS (μ 8)) M.toNat N.toNat M.toNat).1 = 0 := by
    unfold rI rM
    have e0 : rN (qS (μ 8)) M.toNat 0 = 0 := rfl
    rw [e0, Nat.zero_sub]
    rfl
  rw [p3, Int.add_zero] at p2
  have m3 : mT μ 0 3 = M := hEM.2.2.1
  unfold pf_P_readings_0 mm_readings
  rw [klet_eq]
  have good : (x = -1 ∨ 0 ≤ x ∧ x < M) → OC N M tp L PH PF PB thN (pf_P_readings_0_j10 σ x) (mm_readings_j24 (mT μ) x 1) := by
    intro hg
    unfold pf_P_readings_0_j10 mm_readings_j24
    rw [kbind_eq a1, kbind_eq (m_right1 (μ := mT μ) mT0 (by decide))]
    dsimp only
    rw [if_neg (show ¬ (1 : Int) = 0 by decide), kbind_eq b1, klet_eq, kbind_eq c1]
    rcases c2 with ⟨μ2, j, rfl, j1, j2, j3⟩ | ⟨μ2, rfl, j2, j3⟩
    · dsimp only
      have z0 : μ2 0 0 = 0 := ((b2.trans (frL.scr j3)).kp.2).trans mT0
      have nx : ¬ x = -1 := by rw [j2]; omega
      have c4 : 0 ≤ x ∧ x < 4 := by rw [j2]; omega
      have ej : σ1 56 j = qC PH (μ 8) M N j := by
        rw [a5 j (Nat.lt_of_lt_of_le j1 m4), p1]
        show pX (qr PH (μ 8)) (qS (μ 8)) M.toNat N.toNat y M.toNat j = _
        rw [hx j j1, if_pos j1]
      rw [if_neg nx, kchk_t c4, j2, Int.toNat_natCast, ej]
      exact OC.ok h rfl rfl a2 (kpM.th.trans (b2.trans (frL.scr j3)).kp.1) z0
    · dsimp only
      have z0 : μ2 0 0 = 0 := ((b2.trans (frL.scr j3)).kp.2).trans mT0
      have ex : x = -1 := hg.resolve_right (fun hh => by
        obtain ⟨j, k1, k2, -⟩ := hj hh.1 hh.2
        exact j2 j k2 k1)
      rw [if_pos ex, a4, p2]
      exact OC.ok h rfl rfl a2 (kpM.th.trans (b2.trans (frL.scr j3)).kp.1) z0
  have bad : OC N M tp L PH PF PB thN (some (.inl "java/util/NoSuchElementException", σ)) (mm_readings_j23 (mT μ) x) := by
    unfold mm_readings_j23 mm_readings_j24
    rw [kbind_eq (m_right0 (μ := mT μ) mT0 (by decide))]
    exact OC.no h (b := 0) (μ' := mR (mT μ) 1) rfl rfl kpC.rfl (kpM.th.trans kpM.th) ⟨rfl, mR0⟩
  by_cases k0 : x = -1
  · rw [if_pos k0, if_neg (by rw [k0]; decide), if_neg (by rw [show kst μ 0 (kup (μ 0) 0 0) 0 3 = M from m3, k0]; omega)]
    exact good (Or.inl k0)
  · rw [if_neg k0]
    by_cases k1 : 0 ≤ x ∧ x < M
    · rw [kbind_eq (c_poet1 (by rw [hE.2.2.1]; exact k1)), if_neg (show ¬ x < -1 by omega), if_neg (by rw [show kst μ 0 (kup (μ 0) 0 0) 0 3 = M from m3]; omega)]
      exact good (Or.inr k1)
    · rw [kbind_eq (c_poet0 (by rw [hE.2.2.1]; exact k1))]
      by_cases k2 : x < -1
      · rw [if_pos k2]
        exact bad
      · rw [if_neg k2, if_pos (by rw [show kst μ 0 (kup (μ 0) 0 0) 0 3 = M from m3]; omega)]
        exact bad
end RPE

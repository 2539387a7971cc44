/-! CALLS: state, whole -/
section OP2
variable {σ μ : kM}
theorem RUl.c {C R : List Int} {f t a : Int} {P : List Int} {ok : Int → Prop} (h : RUl C R f t a P ok) (hC : C.length ≤ 700) {τ : kM} {r : Nat} (h8 : rv_at (τ 8) 0 C) (h9 : τ 9 r = f) (h10 : τ 10 r = t) : rv_pC τ r P := by
  obtain ⟨-, ⟨p1, p2, p3, p4⟩ | ⟨p1, ⟨A, B, p2, p3, p4⟩, -⟩⟩ := h
  · subst p1
    exact ⟨0, by rw [h9, p2]; rfl, by rw [h10, p3]; rfl, by decide, trivial⟩
  · rw [p2, rv_at_app, rv_at_app, Nat.zero_add] at h8
    rw [p2, List.length_append, List.length_append] at hC
    exact ⟨A.length, by rw [h9, p3], by rw [h10, p4], by omega, h8.2.1⟩
theorem RUl.m {C R : List Int} {f t a : Int} {P : List Int} {ok : Int → Prop} (h : RUl C R f t a P ok) {ν : kM} (h1 : rv_at (ν 1) 0 R) : rv_pM ν a P := by
  obtain ⟨-, ⟨p1, p2, p3, p4⟩ | ⟨p1, -, A, B, p5, p6, p7⟩⟩ := h
  · exact Or.inl ⟨p1, p4⟩
  · rw [p5, rv_at_app, rv_at_app, Nat.zero_add] at h1
    exact Or.inr ⟨p1, A.length, p6, p7, rv_mt_of _ _ _ h1.2.1⟩
/-- what holds of the rows of a text -/
theorem DW.rv {N M tp : Nat} (h : DW N M tp σ μ) {q : Nat → Int} (hq : ∀ k : Nat, k < 145 → q k = μ 4 k) : RV (M : Int) (tp : Int) (fun w => μ 4 (61 + w)) q := by
  obtain ⟨⟨d1, d2, d3, d4⟩, -, -, -, g2, g3⟩ := h
  refine ⟨fun k hk => ?_, ?_, fun w p hw0 hw hp0 hp => ?_⟩
  · rw [hq k hk]
    obtain ⟨n1, n2, n3, n4⟩ := g2 k hk
    refine ⟨fun x y => ?_, fun x y => ?_, fun x y => ?_, fun x y z => ?_, fun x y => ?_, fun x y => ?_, fun x y => ?_, fun x y => ?_, fun x => ?_⟩
    · have := n2 (by omega)
      omega
    · have := n1 (by omega)
      omega
    · have := n2 (by omega)
      omega
    · have h0 := n1 (by omega)
      have := (g3 (k - 21) (by omega)).1 (by omega)
      show 0 ≤ μ 4 k ∧ μ 4 k < μ 4 (61 + (k - 21))
      omega
    · have := n1 (by omega)
      omega
    · show μ 4 k = μ 4 (61 + (k - 61))
      rw [show 61 + (k - 61) = k by omega]
    · exact n3 ⟨x, y⟩
    · exact n4 (by omega)
    · exact n4 (by omega)
  · rw [hq 0 (by decide), (g2 0 (by decide)).1 (Or.inl rfl)]
    decide
  · rw [hq _ (by omega), hq 0 (by decide), (g2 0 (by decide)).1 (Or.inl rfl), (g2 _ (by omega)).1 (by omega)]
    decide
theorem op_state {N M tp : Int} {L : Nat → Int} {PH PF PB : List Int} (h : RE N M tp L PH PF PB σ μ) (x : Int) : ∃ (N M tp : Int) (L : Nat → Int) (PH PF PB : List Int), OC N M tp L PH PF PB thI (pf_P_state_0 σ x) (mm_state μ x) := by
  have hre := h
  obtain ⟨a1, a2, a3, a4, a5, ⟨t1, t2, t3⟩, a7, a8, a9, a10⟩ := h
  have h9 : mT μ 0 9 = μ 0 9 := mTj (by decide)
  by_cases c : 0 ≤ x ∧ x ≤ μ 0 9
  · obtain ⟨n, rfl⟩ : ∃ n : Nat, x = (n : Int) := ⟨x.toNat, by omega⟩
    have hn : n ≤ 700 := by omega
    have hx0 : ¬ (n : Int) < 0 := by omega
    have hx1 : (n : Int) ≤ σ 0 1 := by rw [t1]; exact c.2
    have hx2 : ¬ mT μ 0 9 < (n : Int) := by rw [h9]; omega
    have hTC : tpC (μ 2) n (kst σ 0 (kup (σ 0) 1 0)) := fun k hk => by
      rw [kst_ne (by decide)]
      exact t3 k (by omega)
    have m2 : ∀ c : Nat, c ≠ 0 → mS0 (mT μ) (n : Int) c = μ c := fun c hc => by
      show kst (kst μ 0 _) 0 _ c = _
      rw [kst_ne hc, kst_ne hc]
    have hTM : tpM (μ 2) n (mS0 (mT μ) (n : Int)) := fun k hk => by
      rw [m2 2 (by decide)]
      exact ⟨(t3 k (by omega)).1, rfl⟩
    have e0 : mS0 (mT μ) (n : Int) 0 = kup (kup (kup (kup (kup (kup (kup (kup (kup (kup (kup (mT μ 0) 9 0) 11 (-1)) 10 0) 13 (n : Int)) 14 0) 21 3) 22 0) 23 0) 24 (-1)) 25 (-1)) 26 (-1) := kst_eq _ _ _
    have m0 : ∀ j : Nat, j ≠ 9 → j ≠ 10 → j ≠ 11 → j ≠ 13 → j ≠ 14 → j < 21 ∨ 26 < j → mS0 (mT μ) (n : Int) 0 j = mT μ 0 j := fun j x1 x2 x3 x4 x5 x6 => by
      rw [e0, kup_ne (by omega), kup_ne (by omega), kup_ne (by omega), kup_ne (by omega), kup_ne (by omega), kup_ne (by omega), kup_ne x5, kup_ne x4, kup_ne x2, kup_ne x3, kup_ne x1]
    have mj : ∀ j : Nat, j ≠ 0 → mT μ 0 j = μ 0 j := fun j hj => by
      show kst μ 0 _ 0 j = _
      rw [kst_eq, kup_ne hj]
    obtain ⟨m, KD, ST, LN, VL, σ6, μ5, μ6, hK, r1, r2, r3, r4⟩ := s_parse hn hTC hTM (by rw [e0]; simp only [kup_ap]; rfl) (by rw [e0]; simp only [kup_ap]; rfl) (by rw [e0]; simp only [kup_ap]; exact ⟨rfl, rfl⟩) (by rw [e0]; simp only [kup_ap]; exact ⟨rfl, rfl, rfl⟩) (by rw [e0]; simp only [kup_ap]; exact ⟨rfl, rfl, rfl⟩)
    have m9 : mS0 (mT μ) (n : Int) 0 9 = 0 := by rw [e0]; simp only [kup_ap]; rfl
    have hst : mm_state μ (n : Int) = m_fin μ6 := by
      unfold mm_state
      rw [klet_eq, if_neg hx0]
      show (if mT μ 0 9 < (n : Int) then _ else mm_state_j23 (mT μ) (n : Int) 1) = _
      rw [if_neg hx2, m_state1 mT0, kbind_eq r2, m_body_of r3]
    generalize hμ1 : mS0 (mT μ) (n : Int) = μ1 at *
    rcases r4 with ⟨N', M', tp', C, R, QH, QF, QB, -, kC, kM, dR, dW⟩ | ⟨f, p, kC, kM⟩
    · -- a good text
      have dW0 := dW
      obtain ⟨⟨w1, w2, w3, w4⟩, ⟨u1, u2, u3⟩, ⟨v1, v2, v3⟩, rW, nW, lW⟩ := dW
      obtain ⟨⟨c1, c2, c3⟩, ⟨b1, b2, b3⟩, dH, dF, dB⟩ := dR
      have h7 := hK.m7
      have fC := kC.2.2
      have fM := kM.2.2
      have q4 : ∀ c : Nat, c ≠ 0 → kst σ6 0 (kup (σ6 0) 2 (-1)) c = σ6 c := fun c hc => kst_ne hc
      obtain ⟨σ7, l1, l2, l3, l4, l5, l6, l7, l8⟩ := c_lawCopy (σ := kst σ6 0 (kup (σ6 0) 2 (-1))) (k := C.length) (by omega) (by rw [q4 17 (by decide)]; exact c1)
      rw [q4 13 (by decide)] at l3
      rw [q4 14 (by decide)] at l4
      rw [q4 15 (by decide)] at l5
      rw [q4 16 (by decide)] at l6
      rw [q4 18 (by decide)] at l7
      rw [q4 19 (by decide), q4 20 (by decide)] at l8
      have l2' : ∀ c : Nat, c ≠ 0 → c < 3 ∨ 10 < c → σ7 c = σ6 c := fun c x y => by rw [l2 c y, q4 c x]
      have l20 : σ7 0 = kup (σ6 0) 2 (-1) := by rw [l2 0 (by decide), kst_eq]
      have hclass : pf_P_state_0 σ (n : Int) = some (.inr 0, kst (kst (kst σ7 31 (va_cpy (σ7 23) (σ7 31) 0 0 85)) 29 (kup (kup (kup (σ7 29) 1 0) 3 0) 4 0)) 0 (kup (σ7 0) 8 0)) := by
        unfold pf_P_state_0 pf_Chronicle_beginWith_29_22 pf_World_copyFrom_30_22
        rw [if_neg hx0, if_pos hx1, klet_eq, kbind_eq r1]
        show klet _ _ = _
        rw [klet_eq, kC.2.1.1, kC.2.1.2, if_pos rfl, kbind_eq l1, klet_eq, kbind_eq rfl, klet_eq, klet_eq, kst_eq, kst_st, klet_eq, kst_eq, kst_st, kbind_eq rfl, klet_eq, kst_ne (show (29 : Nat) ≠ 31 by decide), kst_ne (show (0 : Nat) ≠ 29 by decide), kst_ne (show (0 : Nat) ≠ 31 by decide)]
        rfl
      have s0 : ∀ c : Nat, c ≠ 0 → c ≠ 29 → c ≠ 31 → (kst (kst (kst σ7 31 (va_cpy (σ7 23) (σ7 31) 0 0 85)) 29 (kup (kup (kup (σ7 29) 1 0) 3 0) 4 0)) 0 (kup (σ7 0) 8 0)) c = σ7 c := fun c x y z => by rw [kst_ne x, kst_ne y, kst_ne z]
      have s00 : (kst (kst (kst σ7 31 (va_cpy (σ7 23) (σ7 31) 0 0 85)) 29 (kup (kup (kup (σ7 29) 1 0) 3 0) 4 0)) 0 (kup (σ7 0) 8 0)) 0 = kup (kup (σ6 0) 2 (-1)) 8 0 := by rw [kst_eq, l20]
      have s29 : (kst (kst (kst σ7 31 (va_cpy (σ7 23) (σ7 31) 0 0 85)) 29 (kup (kup (kup (σ7 29) 1 0) 3 0) 4 0)) 0 (kup (σ7 0) 8 0)) 29 = kup (kup (kup (σ7 29) 1 0) 3 0) 4 0 := by rw [kst_ne (by decide), kst_eq]
      have s31 : ∀ k : Nat, k < 85 → (kst (kst (kst σ7 31 (va_cpy (σ7 23) (σ7 31) 0 0 85)) 29 (kup (kup (kup (σ7 29) 1 0) 3 0) 4 0)) 0 (kup (σ7 0) 8 0)) 31 k = σ6 23 k := fun k hk => by rw [kst_ne (by decide), kst_ne (by decide), kst_eq, va0 hk, l2' 23 (by decide) (by decide)]
      generalize (kst (kst (kst σ7 31 (va_cpy (σ7 23) (σ7 31) 0 0 85)) 29 (kup (kup (kup (σ7 29) 1 0) 3 0) 4 0)) 0 (kup (σ7 0) 8 0)) = σ8 at *
      -- the reference's end
      obtain ⟨μ7, k1, k2, k3⟩ := m_copy51 (μ := kst μ6 0 (kup (kup (kup (kup (kup (kup (μ6 0) 1 (tp' : Int)) 2 (N' : Int)) 3 (M' : Int)) 4 (μ6 0 24)) 5 (μ6 0 25)) 6 (μ6 0 26)))
      obtain ⟨μ8, k4, k5, k6⟩ := m_rowCopy (μ := μ7)
      have hfin : m_fin μ6 = some (0, kst μ8 0 (kup (kup (kup (μ8 0) 38 0) 53 0) 58 0)) := by
        have e1 : ∀ g : Nat → Int, kst (kst μ6 0 g) 0 = fun f => kst μ6 0 f := fun g => funext fun f => kst_st _ _ _ _
        have e2 : kup (kup (kup (kup (kup (kup (μ6 0) 1 (μ6 0 21)) 2 (kup (μ6 0) 1 (μ6 0 21) 22)) 3 (kup (kup (μ6 0) 1 (μ6 0 21)) 2 (kup (μ6 0) 1 (μ6 0 21) 22) 23)) 4 (kup (kup (kup (μ6 0) 1 (μ6 0 21)) 2 (kup (μ6 0) 1 (μ6 0 21) 22)) 3 (kup (kup (μ6 0) 1 (μ6 0 21)) 2 (kup (μ6 0) 1 (μ6 0 21) 22) 23) 24)) 5 (kup (kup (kup (kup (μ6 0) 1 (μ6 0 21)) 2 (kup (μ6 0) 1 (μ6 0 21) 22)) 3 (kup (kup (μ6 0) 1 (μ6 0 21)) 2 (kup (μ6 0) 1 (μ6 0 21) 22) 23)) 4 (kup (kup (kup (μ6 0) 1 (μ6 0 21)) 2 (kup (μ6 0) 1 (μ6 0 21) 22)) 3 (kup (kup (μ6 0) 1 (μ6 0 21)) 2 (kup (μ6 0) 1 (μ6 0 21) 22) 23) 24) 25)) 6 (kup (kup (kup (kup (kup (μ6 0) 1 (μ6 0 21)) 2 (kup (μ6 0) 1 (μ6 0 21) 22)) 3 (kup (kup (μ6 0) 1 (μ6 0 21)) 2 (kup (μ6 0) 1 (μ6 0 21) 22) 23)) 4 (kup (kup (kup (μ6 0) 1 (μ6 0 21)) 2 (kup (μ6 0) 1 (μ6 0 21) 22)) 3 (kup (kup (μ6 0) 1 (μ6 0 21)) 2 (kup (μ6 0) 1 (μ6 0 21) 22) 23) 24)) 5 (kup (kup (kup (kup (μ6 0) 1 (μ6 0 21)) 2 (kup (μ6 0) 1 (μ6 0 21) 22)) 3 (kup (kup (μ6 0) 1 (μ6 0 21)) 2 (kup (μ6 0) 1 (μ6 0 21) 22) 23)) 4 (kup (kup (kup (μ6 0) 1 (μ6 0 21)) 2 (kup (μ6 0) 1 (μ6 0 21) 22)) 3 (kup (kup (μ6 0) 1 (μ6 0 21)) 2 (kup (μ6 0) 1 (μ6 0 21) 22) 23) 24) 25) 26) = kup (kup (kup (kup (kup (kup (μ6 0) 1 (tp' : Int)) 2 (N' : Int)) 3 (M' : Int)) 4 (μ6 0 24)) 5 (μ6 0 25)) 6 (μ6 0 26) := by
          simp only [kup_ne (show (22 : Nat) ≠ 1 by decide), kup_ne (show (23 : Nat) ≠ 1 by decide), kup_ne (show (23 : Nat) ≠ 2 by decide), kup_ne (show (24 : Nat) ≠ 1 by decide), kup_ne (show (24 : Nat) ≠ 2 by decide), kup_ne (show (24 : Nat) ≠ 3 by decide), kup_ne (show (25 : Nat) ≠ 1 by decide), kup_ne (show (25 : Nat) ≠ 2 by decide), kup_ne (show (25 : Nat) ≠ 3 by decide), kup_ne (show (25 : Nat) ≠ 4 by decide), kup_ne (show (26 : Nat) ≠ 1 by decide), kup_ne (show (26 : Nat) ≠ 2 by decide), kup_ne (show (26 : Nat) ≠ 3 by decide), kup_ne (show (26 : Nat) ≠ 4 by decide), kup_ne (show (26 : Nat) ≠ 5 by decide), v1, v2, v3]
        unfold m_fin
        rw [kbind_eq (m_isGood1 kM.2.1.1), if_neg (by decide), klet_eq, klet_eq, kst_eq, kst_st, klet_eq, kst_eq, kst_st, klet_eq, kst_eq, kst_st, klet_eq, kst_eq, kst_st, klet_eq, kst_eq, kst_st, e2, kbind_eq k1, kbind_eq k4, klet_eq, klet_eq, kst_eq, kst_st, klet_eq, kst_eq, kst_st]
      have z0 : ∀ c : Nat, c ≠ 0 → c ≠ 1 → c ≠ 8 → (kst μ8 0 (kup (kup (kup (μ8 0) 38 0) 53 0) 58 0)) c = μ6 c := fun c x y z => by rw [kst_ne x, k5 c z, k2 c y, kst_ne x]
      have z1 : ∀ k : Nat, k < 1400 → (kst μ8 0 (kup (kup (kup (μ8 0) 38 0) 53 0) 58 0)) 1 k = μ6 5 k := fun k hk => by rw [kst_ne (by decide), k5 1 (by decide), k3 k hk, kst_ne (by decide)]
      have z8 : ∀ k : Nat, k < 145 → (kst μ8 0 (kup (kup (kup (μ8 0) 38 0) 53 0) 58 0)) 8 k = μ6 4 k := fun k hk => by rw [kst_ne (by decide), k6 k hk, k2 4 (by decide), kst_ne (by decide)]
      have z00 : (kst μ8 0 (kup (kup (kup (μ8 0) 38 0) 53 0) 58 0)) 0 = kup (kup (kup (kup (kup (kup (kup (kup (kup (μ6 0) 1 (tp' : Int)) 2 (N' : Int)) 3 (M' : Int)) 4 (μ6 0 24)) 5 (μ6 0 25)) 6 (μ6 0 26)) 38 0) 53 0) 58 0 := by rw [kst_eq, k5 0 (by decide), k2 0 (by decide), kst_eq]
      generalize (kst μ8 0 (kup (kup (kup (μ8 0) 38 0) 53 0) 58 0)) = μ9 at *
      have y0 : ∀ j : Nat, 6 < j → j ≠ 38 → j ≠ 53 → j ≠ 58 → μ9 0 j = μ6 0 j := fun j x1 x2 x3 x4 => by rw [z00, kup_ne x4, kup_ne x3, kup_ne x2, kup_ne (by omega), kup_ne (by omega), kup_ne (by omega), kup_ne (by omega), kup_ne (by omega), kup_ne (by omega)]
      have y00 : μ9 0 0 = μ6 0 0 := by rw [z00]; simp only [kup_ap]; rfl
      have y1 : μ9 0 1 = (tp' : Int) ∧ μ9 0 2 = (N' : Int) ∧ μ9 0 3 = (M' : Int) ∧ μ9 0 4 = μ6 0 24 ∧ μ9 0 5 = μ6 0 25 ∧ μ9 0 6 = μ6 0 26 ∧ μ9 0 38 = 0 ∧ μ9 0 53 = 0 ∧ μ9 0 58 = 0 := by
        rw [z00]
        simp only [kup_ap]
        exact ⟨rfl, rfl, rfl, rfl, rfl, rfl, rfl, rfl, rfl⟩
      obtain ⟨y1, y2, y3, y4, y5, y6, y7, y8, y9⟩ := y1
      have hR1 : rv_at (μ9 1) 0 R := rv_at_congr R 0 (fun j _ hj => z1 j (by omega)) b2
      have hC8 : rv_at (σ8 8) 0 C := rv_at_congr C 0 (fun j _ hj => by rw [s0 8 (by decide) (by decide) (by decide)]; exact l7 j (by omega)) c2
      refine ⟨(N' : Int), (M' : Int), (tp' : Int), (fun w => μ6 4 (61 + w)), QH, QF, QB, _, _, _, _, hclass, hst.trans hfin, ⟨?_, ?_, ?_, ?_, ?_, ?_, ?_, ?_, ?_, ?_⟩, Or.inr ⟨rfl, ?_⟩⟩
      · refine ⟨by omega, by omega, by omega, fun w x1 x2 => (lW w.toNat (by omega)).1 (by omega), dH.1, dF.1, dB.1⟩
      · refine ⟨?_, ?_, ?_, fun w x1 x2 => ?_, ?_, ?_, ?_⟩
        · rw [s0 3 (by decide) (by decide) (by decide), l3.1, u1]
        · rw [s0 3 (by decide) (by decide) (by decide), l3.2.1, u2]
        · rw [s0 3 (by decide) (by decide) (by decide), l3.2.2, u3]
        · rw [s0 4 (by decide) (by decide) (by decide), l4 w.toNat (by omega)]
          have h0 := rW (61 + w.toNat) (by omega) ⟨fun a b => by omega, fun a => by omega⟩
          unfold vP at h0
          rw [if_neg (by omega), if_neg (by omega), if_neg (by omega), if_pos (by omega), show 61 + w.toNat - 61 = w.toNat by omega] at h0
          exact h0
        · exact dH.c (by omega) hC8 (by rw [s0 9 (by decide) (by decide) (by decide)]; exact (l8 0 (by decide)).1) (by rw [s0 10 (by decide) (by decide) (by decide)]; exact (l8 0 (by decide)).2)
        · exact dF.c (by omega) hC8 (by rw [s0 9 (by decide) (by decide) (by decide)]; exact (l8 1 (by decide)).1) (by rw [s0 10 (by decide) (by decide) (by decide)]; exact (l8 1 (by decide)).2)
        · exact dB.c (by omega) hC8 (by rw [s0 9 (by decide) (by decide) (by decide)]; exact (l8 2 (by decide)).1) (by rw [s0 10 (by decide) (by decide) (by decide)]; exact (l8 2 (by decide)).2)
      · refine ⟨y1, y2, y3, ?_, ?_, ?_⟩
        · rw [y4]
          exact dH.m hR1
        · rw [y5]
          exact dF.m hR1
        · rw [y6]
          exact dB.m hR1
      · rw [y0 48 (by decide) (by decide) (by decide) (by decide), fM.2 48 (by decide), m0 48 (by decide) (by decide) (by decide) (by decide) (by decide) (by decide), mj 48 (by decide)]
        exact a4
      · refine ⟨fun k hk ho => ?_, dW0.rv (fun k hk => z8 k hk), by rw [y7, s29]; simp only [kup_ap]; rfl, by rw [y7]; decide, ⟨0, by decide, by rw [s29]; simp only [kup_ap]; rfl, fun i hi => by rw [y7] at hi; omega⟩, by rw [y8, s29]; simp only [kup_ap]; rfl, by rw [y8]; decide, fun i hi => by rw [y8] at hi; omega⟩
        rw [z8 k hk, ← rW k hk ho]
        unfold vC vP
        rw [s0 4 (by decide) (by decide) (by decide), s0 5 (by decide) (by decide) (by decide), s0 6 (by decide) (by decide) (by decide)]
        by_cases x1 : k < 17
        · rw [if_pos x1, if_pos x1, s31 k (by omega)]
        rw [if_neg x1, if_neg x1]
        by_cases x2 : k < 29
        · rw [if_pos x2, if_pos x2, s31 _ (by omega)]
        rw [if_neg x2, if_neg x2]
        by_cases x3 : k < 61
        · rw [if_pos x3, if_pos x3, s31 _ (by omega)]
        rw [if_neg x3, if_neg x3]
        by_cases x4 : k < 65
        · rw [if_pos x4, if_pos x4, l4 _ (by omega)]
        rw [if_neg x4, if_neg x4]
        by_cases x5 : k < 89
        · rw [if_pos x5, if_pos x5, l6 _ (by omega)]
        rw [if_neg x5, if_neg x5]
        by_cases x6 : k < 113
        · rw [if_pos x6, if_pos x6, s31 _ (by omega)]
        · rw [if_neg x6, if_neg x6, l5 _ (by omega)]
      · have q9 : μ9 0 9 = 0 := by rw [y0 9 (by decide) (by decide) (by decide) (by decide), fM.2 9 (by decide), m9]
        rw [q9, s00, kup_ne (by decide), kup_ne (by decide), fC 0 (by decide), kst_eq, kup_eq]
        exact ⟨rfl, by decide, fun i hi => by omega⟩
      · rw [s00, kup_ne (by decide), kup_eq, y0 11 (by decide) (by decide) (by decide) (by decide), kM.2.1.2]
      · intro i hi
        rw [s0 2 (by decide) (by decide) (by decide), l2' 2 (by decide) (by decide), fC 2 (by decide), kst_ne (by decide), z0 3 (by decide) (by decide) (by decide), fM.1 3 (by decide), m2 3 (by decide)]
        exact a8 i hi
      · rw [s00, kup_eq, y9]
        exact ⟨rfl, Or.inl rfl⟩
      · intro hh
        rw [y9] at hh
        exact absurd hh (by decide)
      · rw [y00, fM.2 0 (by decide), m0 0 (by decide) (by decide) (by decide) (by decide) (by decide) (by decide)]
        exact mT0
    · -- a faulty one
      have fC := kC.2
      have fM := kM.2.2.2
      have hR1 : RE N M tp L PH PF PB (kst σ6 0 (kup (σ6 0) 2 p)) μ6 := by
        have q9 : μ6 0 9 = 0 := by rw [fM.2 9 (by decide), m9]
        refine RE.tape hre (fun c x1 x2 x3 => ?_) ?_ (fun c hc => ?_) (fun j hj => ?_) ?_ ?_
        · rw [kst_ne x1, fC c x3, kst_ne x1]
        · rw [kst_eq, kup_ne (by decide), fC 0 (by decide), kst_eq, kup_ne (by decide)]
        · rw [fM.1 c (by omega), m2 c (by omega)]
        · rw [fM.2 j (by omega), m0 j (by omega) (by omega) (by omega) (by omega) (by omega) (by omega), mj j (by omega)]
        · rw [q9, kst_eq, kup_ne (by decide), fC 0 (by decide), kst_eq, kup_eq]
          exact ⟨rfl, by decide, fun i hi => by omega⟩
        · rw [kst_eq, kup_eq, kM.2.2.1]
      have e2 : kst σ6 0 (kup (σ6 0) 2 p) 2 0 = μ6 3 0 := hR1.2.2.2.2.2.2.2.1 0 (by decide)
      refine ⟨N, M, tp, L, PH, PF, PB, .inr f, kst (kst σ6 0 (kup (σ6 0) 2 p)) 2 (kup (kst σ6 0 (kup (σ6 0) 2 p) 2) 0 (w32 (μ6 3 0 + 1))), f, kst μ6 3 (kup (μ6 3) 0 (w32 (μ6 3 0 + 1))), ?_, ?_, hR1.refuse (by decide), Or.inr ⟨rfl, ?_⟩⟩
      · unfold pf_P_state_0
        rw [if_neg hx0, if_pos hx1, klet_eq, kbind_eq r1]
        show klet _ _ = _
        rw [klet_eq, kC.1.2.1, kC.1.2.2.2, if_neg kC.1.2.2.1, klet_eq]
        show some (Sum.inr f, kst _ 2 (kup _ 0 (w32 (kst σ6 0 (kup (σ6 0) 2 p) 2 0 + 1)))) = _
        rw [e2]
      · rw [hst]
        unfold m_fin
        rw [kbind_eq (m_isGood0 kM.bad), if_pos rfl, klet_eq, kst_ne (show (0 : Nat) ≠ 3 by decide), kM.1]
        rfl
      · rw [kst_ne (by decide), fM.2 0 (by decide), m0 0 (by decide) (by decide) (by decide) (by decide) (by decide) (by decide)]
        exact mT0
  · refine ⟨N, M, tp, L, PH, PF, PB, OC.no hre (E := "java/lang/IllegalArgumentException") (b := 0) (σ' := σ) (μ' := mR μ 1) ?_ ?_ kpC.rfl kpM.th ⟨rfl, mR0⟩⟩
    · unfold pf_P_state_0
      by_cases c1 : x < 0
      · rw [if_pos c1]
      · have c2 : ¬ x ≤ σ 0 1 := by rw [t1]; omega
        rw [if_neg c1, if_neg c2]
    · unfold mm_state mm_state_j22 mm_state_j23
      rw [klet_eq]
      have e1 : mm_right (mT μ) 0 1 = some (0, mR (mT μ) 1) := m_right0 mT0 (by decide)
      rw [mRT] at e1
      by_cases c1 : x < 0
      · rw [if_pos c1]
        show (mm_right (mT μ) 0 1).bind _ = _
        rw [kbind_eq e1]
        rfl
      · have c2 : mT μ 0 9 < x := by rw [h9]; omega
        rw [if_neg c1]
        show (if mT μ 0 9 < x then _ else _) = _
        rw [if_pos c2]
        show (mm_right (mT μ) 0 1).bind _ = _
        rw [kbind_eq e1]
        rfl
end OP2

/-! CALLS: readings. The reference's table, all of it -/
section RTF
variable {N M tp : Int} {L : Nat → Int} {PH PF PB : List Int} {σ σ' μ μ' : kM} {q : Nat → Int}
theorem rt_p {w hd : Nat} (hw : w < 5) (hh : hd < 256) : w32 (w32 (256 * (w : Int)) + (hd : Int)) = ((256 * w + hd : Nat) : Int) ∧ (0 ≤ ((256 * w + hd : Nat) : Int) ∧ ((256 * w + hd : Nat) : Int) < 1280) ∧ w32 ((hd : Int) + 1) = ((hd + 1 : Nat) : Int) := by
  refine ⟨?_, by omega, kw_inc (by omega)⟩
  rw [w32_s (v := 256 * (w : Int)) (by omega) (by omega), w32_s (by omega) (by omega)]
  omega
theorem rt_o {m k k' h w : Nat} (hk : k < m) (hw : w = m - 1 - k) (h1 : k' ≤ k) (hh : h < 256) : ¬ (256 * w ≤ 256 * (m - k') + h ∧ 256 * (m - k') + h < 256 * w + 256) := by omega
theorem m_row (h : MN N M tp L PH PF PB μ q) {k : Nat} (hk : k < M.toNat) (hT : TBL PH q M N k μ) : ∃ μ', kloop (fun st => mm_laysReadings_l44 st.1 ((M.toNat - 1 - k : Nat) : Int) st.2) kFuel (μ, 0) = some μ' ∧ frL μ μ' ∧ TBL PH q M N (k + 1) μ' := by
  have hn1 := h.1.1
  have hn2 := h.1.2.1
  have hsh := ksh_rng hn1.1 hn1.2
  obtain ⟨hw, ew, ew2, k1, k2⟩ := rt_k hn2 hk
  have w5 : M.toNat - 1 - k < 5 := by omega
  have s9 : (kshl 1 N).toNat < 100000000 := by omega
  have sN : (((kshl 1 N).toNat : Nat) : Int) = kshl 1 N := by omega
  have s256 : ∀ x : Nat, (x : Int) < kshl 1 N → x < 256 := fun x hx => by omega
  have hlt : ∀ x : Nat, x < (kshl 1 N).toNat → (x : Int) < kshl 1 N := fun x hx => by omega
  have htl : ∀ x : Nat, (x : Int) < kshl 1 N → x < (kshl 1 N).toNat := fun x hx => by omega
  obtain ⟨μ1, b1, b2, b3, b4⟩ := kl_M (body := fun st => mm_laysReadings_l44 st.1 ((M.toNat - 1 - k : Nat) : Int) st.2) (fun hd μ1 => frL μ μ1 ∧ (∀ j : Nat, ¬ (256 * (M.toNat - 1 - k) ≤ j ∧ j < 256 * (M.toNat - 1 - k) + 256) → μ1 18 j = μ 18 j) ∧ ∀ h' : Nat, h' < hd → μ1 18 (256 * (M.toNat - 1 - k) + h') = qV PH q M N (k + 1) (h' : Int)) (fun i => (i : Int)) (kshl 1 N).toNat s9 (fun hd μ1 hhd hs => by
    have hh := hlt hd hhd
    obtain ⟨ep, cp, eh⟩ := rt_p w5 (s256 hd hh)
    obtain ⟨s1, s2, s3⟩ := hs
    have s1 : frL μ μ1 := s1
    have s2 : ∀ j : Nat, ¬ (256 * (M.toNat - 1 - k) ≤ j ∧ j < 256 * (M.toNat - 1 - k) + 256) → μ1 18 j = μ 18 j := s2
    have s3 : ∀ h' : Nat, h' < hd → μ1 18 (256 * (M.toNat - 1 - k) + h') = qV PH q M N (k + 1) (h' : Int) := s3
    have h1 := h.kp s1.kp.1
    have hT1 : TBL PH q M N k μ1 := fun k' hk' h' hh' => by
      rw [s2 _ (rt_o hk rfl hk' (s256 h' hh'))]
      exact hT k' hk' h' hh'
    obtain ⟨v, μ2, t1, t2, t3⟩ := m_place h1 hk hh hT1
    refine ⟨kst μ2 18 (kup (μ2 18) (256 * (M.toNat - 1 - k) + hd) (qV PH q M N (k + 1) (hd : Int))), ?_, s1.trans ((frL.scr t3).trans frL.put), fun j hj => ?_, fun h' hh' => ?_⟩
    · show mm_laysReadings_l44 μ1 ((M.toNat - 1 - k : Nat) : Int) (hd : Int) = _
      unfold mm_laysReadings_l44
      rw [h1.2.1.2.1, if_neg (Int.not_le.mpr hh), kbind_eq t1, kbind_eq t2]
      dsimp only
      rw [ep, kchk_t cp, klet_eq, klet_eq, eh, Int.toNat_natCast]
    · rw [kst_eq, kup_ne (fun e => hj (by subst e; exact ⟨Nat.le_add_right _ _, Nat.add_lt_add_left (s256 hd hh) _⟩)), t3 18 (by decide) (by decide)]
      exact s2 j hj
    · rw [kst_eq]
      by_cases e : h' = hd
      · subst e
        rw [kup_eq]
      · rw [kup_ne (fun hh2 => e (Nat.add_left_cancel hh2)), t3 18 (by decide) (by decide)]
        exact s3 h' (Nat.lt_of_le_of_ne (Nat.le_of_lt_succ hh') e)) (fun μ1 hs => by
    refine ⟨μ1, ?_, hs⟩
    have h1 := h.kp hs.1.kp.1
    show mm_laysReadings_l44 μ1 ((M.toNat - 1 - k : Nat) : Int) (((kshl 1 N).toNat : Nat) : Int) = _
    unfold mm_laysReadings_l44
    rw [h1.2.1.2.1, sN, if_pos (Int.le_refl _)]) (σ := μ) ⟨frL.rfl, fun _ _ => rfl, fun h' hh' => absurd hh' (Nat.not_lt_zero _)⟩ (b0 := 0) rfl
  refine ⟨μ1, b1, b2, fun k' hk' h' hh' => ?_⟩
  by_cases e : k' = k + 1
  · subst e
    rw [← ew2]
    exact b4 h' (htl h' hh')
  · have hk2 : k' ≤ k := Nat.le_of_lt_succ (Nat.lt_of_le_of_ne hk' e)
    rw [b3 _ (rt_o hk rfl hk2 (s256 h' hh'))]
    exact hT k' hk2 h' hh'
theorem m_tab (h : MN N M tp L PH PF PB μ q) : ∃ μ', mm_laysReadings μ = some μ' ∧ frL μ μ' ∧ TBL PH q M N M.toNat μ' := by
  have hn1 := h.1.1
  have hn2 := h.1.2.1
  have hsh := ksh_rng hn1.1 hn1.2
  have m5 : M.toNat < 5 := by omega
  have m9 : M.toNat < 100000000 := by omega
  have mM : M = ((M.toNat : Nat) : Int) := by omega
  have s256 : ∀ x : Nat, (x : Int) < kshl 1 N → x < 256 := fun x hx => by omega
  have ed : w32 (M - 1) = ((M.toNat : Nat) : Int) - 1 - ((0 : Nat) : Int) := by
    rw [w32_s (by omega) (by omega)]
    omega
  have ei : ∀ i : Nat, i < M.toNat → ((M.toNat : Nat) : Int) - 1 - (i : Int) = ((M.toNat - 1 - i : Nat) : Int) ∧ w32 (((M.toNat : Nat) : Int) - 1 - (i : Int) + -1) = ((M.toNat : Nat) : Int) - 1 - ((i + 1 : Nat) : Int) ∧ ¬ ((M.toNat : Nat) : Int) - 1 - (i : Int) < 0 := fun i hi => by
    refine ⟨by omega, ?_, by omega⟩
    rw [w32_s (by omega) (by omega)]
    omega
  have ee : ((M.toNat : Nat) : Int) - 1 - ((M.toNat : Nat) : Int) < 0 := by omega
  obtain ⟨μ1, a1, a2, a3⟩ := kl_M (body := fun st => mm_laysReadings_l2 st.1 st.2) (fun hd μ1 => frL μ μ1 ∧ ∀ h' : Nat, h' < hd → μ1 18 (256 * M.toNat + h') = 0) (fun i => (i : Int)) 256 (by decide) (fun hd μ1 hhd hs => by
    obtain ⟨ep, cp, eh⟩ := rt_p m5 hhd
    have c0 : ¬ (256 : Int) ≤ (hd : Int) := by omega
    obtain ⟨s1, s2⟩ := hs
    have s1 : frL μ μ1 := s1
    have s2 : ∀ h' : Nat, h' < hd → μ1 18 (256 * M.toNat + h') = 0 := s2
    refine ⟨kst μ1 18 (kup (μ1 18) (256 * M.toNat + hd) 0), ?_, s1.trans frL.put, fun h' hh' => ?_⟩
    · show mm_laysReadings_l2 μ1 (hd : Int) = _
      unfold mm_laysReadings_l2
      rw [(h.kp s1.kp.1).2.1.2.2.1, mM, if_neg c0, ep, kchk_t cp, klet_eq, klet_eq, eh, Int.toNat_natCast]
      rfl
    · rw [kst_eq]
      by_cases e : h' = hd
      · subst e
        rw [kup_eq]
      · rw [kup_ne (fun hh2 => e (Nat.add_left_cancel hh2))]
        exact s2 h' (Nat.lt_of_le_of_ne (Nat.le_of_lt_succ hh') e)) (fun μ1 hs => by
    refine ⟨μ1, ?_, hs⟩
    show mm_laysReadings_l2 μ1 ((256 : Nat) : Int) = _
    unfold mm_laysReadings_l2
    rw [if_pos (by decide)]) (σ := μ) ⟨frL.rfl, fun h' hh' => absurd hh' (Nat.not_lt_zero _)⟩ (b0 := 0) rfl
  have h1 := h.kp a2.kp.1
  have hT0 : TBL PH q M N 0 μ1 := fun k' hk' h' hh' => by
    have e0 : k' = 0 := Nat.le_zero.mp hk'
    subst e0
    rw [Nat.sub_zero]
    exact a3 h' (s256 h' hh')
  obtain ⟨μ2, b1, b2, b3⟩ := kl_M (body := fun st => mm_laysReadings_l38 st.1 st.2) (fun i μ2 => frL μ1 μ2 ∧ TBL PH q M N i μ2) (fun i => ((M.toNat : Nat) : Int) - 1 - (i : Int)) M.toNat m9 (fun i μ2 hi hs => by
    obtain ⟨e1, e2, e3⟩ := ei i hi
    obtain ⟨s1, s2⟩ := hs
    have s1 : frL μ1 μ2 := s1
    obtain ⟨μ3, t1, t2, t3⟩ := m_row (h1.kp s1.kp.1) hi s2
    refine ⟨μ3, ?_, s1.trans t2, t3⟩
    show mm_laysReadings_l38 μ2 (((M.toNat : Nat) : Int) - 1 - (i : Int)) = _
    unfold mm_laysReadings_l38
    rw [← e1] at t1
    rw [if_neg e3, kbind_eq t1, klet_eq, e2]) (fun μ2 hs => by
    refine ⟨μ2, ?_, hs⟩
    show mm_laysReadings_l38 μ2 (((M.toNat : Nat) : Int) - 1 - ((M.toNat : Nat) : Int)) = _
    unfold mm_laysReadings_l38
    rw [if_pos ee]) (σ := μ1) ⟨frL.rfl, hT0⟩ (b0 := ((M.toNat : Nat) : Int) - 1 - ((0 : Nat) : Int)) rfl
  refine ⟨μ2, ?_, a2.trans b2, b3⟩
  unfold mm_laysReadings
  rw [kbind_eq a1, klet_eq, h1.2.1.2.2.1, ed, kbind_eq b1]
end RTF

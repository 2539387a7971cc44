/-! CALLS: state, its pieces -/
theorem rv_mt_of (f : Nat → Int) : ∀ (P : List Int) (k : Nat), rv_at f k (en P ++ [0]) → rv_mt f k P := by
  intro P
  induction P with
  | nil =>
    intro k h
    exact h.1
  | cons c P ih =>
    intro k h
    have e : en (c :: P) ++ [0] = en1 c ++ (en P ++ [0]) := by
      show (en1 c ++ en P) ++ [0] = _
      rw [List.append_assoc]
    rw [e] at h
    refine ⟨fun h0 => ?_, fun h1 h0 => ?_, fun h9 => ?_⟩
    · unfold en1 at h
      rw [if_pos h0] at h
      exact ⟨h.1, h.2.1, ih (k + 2) h.2.2⟩
    · unfold en1 at h
      rw [if_neg (by omega), if_pos h1] at h
      exact ⟨h.1, h.2.1, ih (k + 2) h.2.2⟩
    · unfold en1 at h
      rw [if_neg (by omega), if_neg (by omega)] at h
      exact ⟨h.1, ih (k + 1) h.2⟩
section OSS
variable {T : Nat → Int} {n : Nat} {σ μ : kM}
theorem s_parse (hn : n ≤ 700) (hC : tpC T n σ) (hM : tpM T n μ) (h13 : μ 0 13 = (n : Int)) (h14 : μ 0 14 = 0) (h10 : μ 0 10 = 0 ∧ μ 0 11 = -1) (h21 : μ 0 21 = 3 ∧ μ 0 22 = 0 ∧ μ 0 23 = 0) (h24 : μ 0 24 = -1 ∧ μ 0 25 = -1 ∧ μ 0 26 = -1) : ∃ (m : Nat) (KD ST LN VL : Nat → Int) (σ' μ2 μ' : kM), TKf T n m KD ST LN VL ∧ pf_Parser_parse_12 σ (n : Int) = some (σ' 12 3, σ') ∧ ((kloop (fun st => mm_state_l89 st.1 st.2) kFuel (μ, 0)).bind fun σ_20 => klet (kst σ_20 0 (kup (σ_20 0) 27 0)) fun σ_21 => mm_goes σ_21) = some μ2 ∧ m_first μ2 = some μ' ∧ (OKs T n m KD ST LN VL σ μ m σ' μ' ∨ ∃ f p : Int, cxS m KD ST LN VL σ f p σ' ∧ mxS μ f p μ') := by
  -- the class
  obtain ⟨σ3, a1, a2, a3, a4, a5, a6⟩ := c_clear (σ := kst σ 12 (kup (kup (σ 12) 3 0) 2 (-1)))
  obtain ⟨σ4, b1, b2, b3⟩ := c_clearW (σ := σ3)
  have e1 : ∀ c : Nat, c < 12 ∨ 29 ≤ c → σ4 c = σ c := fun c hc => by rw [b2 c (by omega), a2 c (by omega) (by omega) (by omega) (by omega) (by omega), kst_ne (by omega)]
  have hC4 : tpC T n σ4 := fun k hk => by rw [e1 1 (by decide)]; exact hC k hk
  obtain ⟨m, σ5, d1, d2, d3, d4, d5⟩ := c_scan hn hC4
  have hK : TKf T n m (σ5 25) (σ5 26) (σ5 27) (σ5 28) := ⟨hn, d2.2.1, d2.2.2.1, d2.2.2.2.1, d2.2.2.2.2.1, d2.2.2.2.2.2⟩
  have e12 : σ5 12 = kup (kup (σ 12) 3 0) 2 (-1) := by rw [d4 12 (by decide), b2 12 (by decide), a2 12 (by decide) (by decide) (by decide) (by decide) (by decide), kst_eq]
  have hCg : KCg m (σ5 25) (σ5 26) (σ5 27) (σ5 28) σ 0 σ5 := by
    refine ⟨⟨d2.1, d3, rfl, rfl, rfl, rfl⟩, ?_, fun c hc => by rw [d4 c (by omega), e1 c hc]⟩
    rw [e12, kup_ne (by decide), kup_eq, kup_eq]
    exact ⟨rfl, rfl⟩
  -- the reference
  obtain ⟨μ1, f1, f2, f3⟩ := m_clear (μ := μ)
  have e0 : kst μ1 0 (kup (μ1 0) 27 0) 2 = μ 2 := by rw [kst_ne (by decide), f2 2 (by decide)]
  have e00 : ∀ j : Nat, j ≠ 27 → kst μ1 0 (kup (μ1 0) 27 0) 0 j = μ 0 j := fun j hj => by rw [kst_eq, kup_ne hj, f2 0 (by decide)]
  have hM1 : tpM T n (kst μ1 0 (kup (μ1 0) 27 0)) := fun k hk => by rw [e0]; exact hM k hk
  obtain ⟨g, g1, g2, g3⟩ := m_goes_of hn hM1 (p := 0) (Nat.zero_le _) (by rw [e00 13 (by decide)]; exact h13) (by rw [e00 14 (by decide)]; exact h14)
  have eg : ∀ j : Nat, j < 14 ∨ 20 < j → j ≠ 27 → kst (kst μ1 0 (kup (μ1 0) 27 0)) 0 g 0 j = μ 0 j := fun j x y => by rw [kst_eq, g2 j x, e00 j y]
  have ec : ∀ c : Nat, c ≠ 0 → c ≠ 4 → kst (kst μ1 0 (kup (μ1 0) 27 0)) 0 g c = μ c := fun c x y => by rw [kst_ne x, kst_ne x, f2 c y]
  have hMg : KMg T n μ 0 (kst (kst μ1 0 (kup (μ1 0) 27 0)) 0 g) := by
    refine ⟨⟨by rw [eg 13 (by decide) (by decide)]; exact h13, fun k hk => by rw [ec 2 (by decide) (by decide)]; exact hM k hk, by rw [kst_eq]; exact g3⟩, ?_, fun c hc => ec c (by omega) (by omega), fun j hj => eg j (by omega) (by omega)⟩
    rw [eg 10 (by decide) (by decide), eg 11 (by decide) (by decide)]
    exact h10
  obtain ⟨σ6, μ6, r1, r2, r3⟩ := s_first hK hCg hMg (by rw [d4 13 (by decide), b2 13 (by decide)]; exact a3) (fun w hw => by rw [d4 14 (by decide), b2 14 (by decide)]; exact a4 w hw) (by rw [d4 17 (by decide), b2 17 (by decide)]; exact a5) (fun r hr => by rw [d4 19 (by decide), b2 19 (by decide), d4 20 (by decide), b2 20 (by decide)]; exact a6 r hr) (fun k hk => by rw [d4 23 (by decide)]; exact b3 k hk) (by rw [eg 21 (by decide) (by decide), eg 22 (by decide) (by decide), eg 23 (by decide) (by decide)]; exact h21) (by rw [eg 24 (by decide) (by decide), eg 25 (by decide) (by decide), eg 26 (by decide) (by decide)]; exact h24) (by rw [kst_eq, g2 27 (by decide), kst_eq, kup_eq]) (fun k hk => by rw [kst_ne (by decide), kst_ne (by decide)]; exact f3 k hk)
  refine ⟨m, _, _, _, _, σ6, kst (kst μ1 0 (kup (μ1 0) 27 0)) 0 g, μ6, hK, ?_, ?_, r2, r3⟩
  · unfold pf_Parser_parse_12
    rw [klet_eq, klet_eq, kst_eq, kst_st, kbind_eq a1, kbind_eq b1, kbind_eq d1]
    exact r1
  · rw [kbind_eq f1, klet_eq, g1]
/-! what a good text leaves: the class -/
theorem c_lawCopy {k : Nat} (hk : k ≤ 700) (h17 : σ 17 1 = (k : Int)) : ∃ σ', pf_Law_copyFrom_3_13 σ = some σ' ∧ (∀ c : Nat, c < 3 ∨ 10 < c → σ' c = σ c) ∧ (σ' 3 0 = σ 13 0 ∧ σ' 3 1 = σ 13 1 ∧ σ' 3 2 = σ 13 2) ∧ (∀ w : Nat, w < 4 → σ' 4 w = σ 14 w) ∧ (∀ j : Nat, j < 32 → σ' 5 j = σ 15 j) ∧ (∀ j : Nat, j < 24 → σ' 6 j = σ 16 j) ∧ (∀ j : Nat, j < k → σ' 8 j = σ 18 j) ∧ ∀ r : Nat, r < 3 → σ' 9 r = σ 19 r ∧ σ' 10 r = σ 20 r := by
  have hc : (0 : Int) ≤ 0 ∧ (0 : Int) ≤ 0 ∧ (0 : Int) ≤ (k : Int) ∧ 0 + (k : Int) ≤ (700 : Int) ∧ 0 + (k : Int) ≤ (700 : Int) := by omega
  generalize hs : kst (kst (kst (kst (kst (kst σ 3 (kup (kup (kup (σ 3) 0 (σ 13 0)) 1 (σ 13 1)) 2 (σ 13 2))) 4 (va_cpy (σ 14) (σ 4) 0 0 4)) 5 (va_cpy (σ 15) (σ 5) 0 0 32)) 6 (va_cpy (σ 16) (σ 6) 0 0 24)) 7 (kup (σ 7) 1 (k : Int))) 8 (va_cpy (σ 18) (σ 8) 0 0 k) = τ
  have t0 : ∀ c : Nat, c < 3 ∨ 8 < c → τ c = σ c := fun c x => by rw [← hs, kst_ne (by omega), kst_ne (by omega), kst_ne (by omega), kst_ne (by omega), kst_ne (by omega), kst_ne (by omega)]
  have t3 : τ 3 = kup (kup (kup (σ 3) 0 (σ 13 0)) 1 (σ 13 1)) 2 (σ 13 2) := by rw [← hs, kst_ne (by decide), kst_ne (by decide), kst_ne (by decide), kst_ne (by decide), kst_ne (by decide), kst_eq]
  have t4 : τ 4 = va_cpy (σ 14) (σ 4) 0 0 4 := by rw [← hs, kst_ne (by decide), kst_ne (by decide), kst_ne (by decide), kst_ne (by decide), kst_eq]
  have t5 : τ 5 = va_cpy (σ 15) (σ 5) 0 0 32 := by rw [← hs, kst_ne (by decide), kst_ne (by decide), kst_ne (by decide), kst_eq]
  have t6 : τ 6 = va_cpy (σ 16) (σ 6) 0 0 24 := by rw [← hs, kst_ne (by decide), kst_ne (by decide), kst_eq]
  have t8 : τ 8 = va_cpy (σ 18) (σ 8) 0 0 k := by rw [← hs, kst_eq]
  obtain ⟨σ1, a1, a2, a3⟩ := kl_M (body := fun st => pf_Rules_copyFrom_7_17_l27 st.1 st.2) (fun i σ1 => (∀ c : Nat, c ≠ 9 → c ≠ 10 → σ1 c = τ c) ∧ ∀ r : Nat, r < i → σ1 9 r = σ 19 r ∧ σ1 10 r = σ 20 r) (fun i => (i : Int)) 3 (by decide) (fun i σ1 hi hS => by
    have c1 : ¬ 3 ≤ (i : Int) := by omega
    have c2 : 0 ≤ (i : Int) ∧ (i : Int) < 3 := by omega
    have e19 : σ1 19 = σ 19 := by rw [hS.1 19 (by decide) (by decide), t0 19 (by decide)]
    have e20 : σ1 20 = σ 20 := by rw [hS.1 20 (by decide) (by decide), t0 20 (by decide)]
    refine ⟨kst (kst σ1 9 (kup (σ1 9) i (σ 19 i))) 10 (kup (σ1 10) i (σ 20 i)), ?_, fun c x y => ?_, fun r hr => ?_⟩
    · show pf_Rules_copyFrom_7_17_l27 σ1 (i : Int) = _
      unfold pf_Rules_copyFrom_7_17_l27
      rw [if_neg c1, kchk_t c2, kchk_t c2, klet_eq, kchk_t c2, kchk_t c2, klet_eq, klet_eq, Int.toNat_natCast, kw_inc (i := i) (by omega), kst_ne (show (10 : Nat) ≠ 9 by decide), kst_ne (show (20 : Nat) ≠ 9 by decide), e19, e20]
    · rw [kst_ne y, kst_ne x]
      exact hS.1 c x y
    · rw [kst_ne (show (9 : Nat) ≠ 10 by decide), kst_eq, kst_eq]
      by_cases e : r = i
      · rw [e, kup_eq, kup_eq]
        exact ⟨rfl, rfl⟩
      · rw [kup_ne e, kup_ne e]
        exact hS.2 r (by omega)) (fun σ1 hS => by
    refine ⟨σ1, ?_, hS⟩
    show pf_Rules_copyFrom_7_17_l27 σ1 ((3 : Nat) : Int) = _
    unfold pf_Rules_copyFrom_7_17_l27
    rw [if_pos (by decide)]) (σ := τ) ⟨fun c _ _ => rfl, fun w hw => absurd hw (Nat.not_lt_zero w)⟩ (b0 := 0) rfl
  refine ⟨σ1, ?_, fun c x => ?_, ?_, fun w hw => ?_, fun j hj => ?_, fun j hj => ?_, fun j hj => ?_, a3⟩
  · have z0 : (0 : Int).toNat = 0 := rfl
    have z4 : (4 : Int).toNat = 4 := rfl
    have z32 : (32 : Int).toNat = 32 := rfl
    have z24 : (24 : Int).toNat = 24 := rfl
    have q3 : kst (kst (kst σ 3 (kup (σ 3) 0 (σ 13 0))) 3 (kup (kst σ 3 (kup (σ 3) 0 (σ 13 0)) 3) 1 (kst σ 3 (kup (σ 3) 0 (σ 13 0)) 13 1))) 3 (kup (kst (kst σ 3 (kup (σ 3) 0 (σ 13 0))) 3 (kup (kst σ 3 (kup (σ 3) 0 (σ 13 0)) 3) 1 (kst σ 3 (kup (σ 3) 0 (σ 13 0)) 13 1)) 3) 2 (kst (kst σ 3 (kup (σ 3) 0 (σ 13 0))) 3 (kup (kst σ 3 (kup (σ 3) 0 (σ 13 0)) 3) 1 (kst σ 3 (kup (σ 3) 0 (σ 13 0)) 13 1)) 13 2)) = kst σ 3 (kup (kup (kup (σ 3) 0 (σ 13 0)) 1 (σ 13 1)) 2 (σ 13 2)) := by
      simp only [kst_st, kst_eq, kst_ne (show (13 : Nat) ≠ 3 by decide)]
    unfold pf_Law_copyFrom_3_13
    rw [klet_eq, klet_eq, klet_eq, q3, klet_eq, klet_eq, klet_eq, z0, z4, z32, z24]
    have ec : ∀ (s : kM) (v : Nat → Int), s 17 1 = (k : Int) → pf_Rules_copyFrom_7_17 s = (kloop (fun st => pf_Rules_copyFrom_7_17_l27 st.1 st.2) kFuel (kst (kst s 7 (kup (s 7) 1 (k : Int))) 8 (va_cpy (s 18) (s 8) 0 0 k), 0)).bind fun σ_13 => some σ_13 := by
      intro s v h
      unfold pf_Rules_copyFrom_7_17
      rw [klet_eq, h, kst_eq, kup_eq, kchk_t hc, klet_eq, z0, Int.toNat_natCast, kst_ne (show (18 : Nat) ≠ 7 by decide), kst_ne (show (8 : Nat) ≠ 7 by decide)]
    rw [ec _ (σ 0) (by rw [kst_ne (by decide), kst_ne (by decide), kst_ne (by decide), kst_ne (by decide)]; exact h17)]
    have hloop : ∀ s : kM, s = τ → ((kloop (fun st => pf_Rules_copyFrom_7_17_l27 st.1 st.2) kFuel (s, 0)).bind fun σ_13 => some σ_13) = some σ1 := by
      intro s e
      rw [e, kbind_eq a1]
    have hfin : ∀ s : kM, s = τ → (((kloop (fun st => pf_Rules_copyFrom_7_17_l27 st.1 st.2) kFuel (s, 0)).bind fun σ_13 => some σ_13).bind fun σ_10 => some σ_10) = some σ1 := by
      intro s e
      rw [kbind_eq (hloop s e)]
    refine hfin _ ?_
    rw [← hs]
    simp only [kst_ne (show (14 : Nat) ≠ 3 by decide), kst_ne (show (4 : Nat) ≠ 3 by decide), kst_ne (show (15 : Nat) ≠ 4 by decide), kst_ne (show (5 : Nat) ≠ 4 by decide), kst_ne (show (15 : Nat) ≠ 3 by decide), kst_ne (show (5 : Nat) ≠ 3 by decide), kst_ne (show (16 : Nat) ≠ 5 by decide), kst_ne (show (16 : Nat) ≠ 4 by decide), kst_ne (show (16 : Nat) ≠ 3 by decide), kst_ne (show (6 : Nat) ≠ 5 by decide), kst_ne (show (6 : Nat) ≠ 4 by decide), kst_ne (show (6 : Nat) ≠ 3 by decide), kst_ne (show (18 : Nat) ≠ 6 by decide), kst_ne (show (18 : Nat) ≠ 5 by decide), kst_ne (show (18 : Nat) ≠ 4 by decide), kst_ne (show (18 : Nat) ≠ 3 by decide), kst_ne (show (8 : Nat) ≠ 6 by decide), kst_ne (show (8 : Nat) ≠ 5 by decide), kst_ne (show (8 : Nat) ≠ 4 by decide), kst_ne (show (8 : Nat) ≠ 3 by decide), kst_ne (show (7 : Nat) ≠ 6 by decide), kst_ne (show (7 : Nat) ≠ 5 by decide), kst_ne (show (7 : Nat) ≠ 4 by decide), kst_ne (show (7 : Nat) ≠ 3 by decide)]
  · rw [a2 c (by omega) (by omega), t0 c (by omega)]
  · rw [a2 3 (by decide) (by decide), t3, kup_ne (by decide), kup_ne (by decide), kup_eq, kup_ne (by decide), kup_eq, kup_eq]
    exact ⟨rfl, rfl, rfl⟩
  · rw [a2 4 (by decide) (by decide), t4, va0 hw]
  · rw [a2 5 (by decide) (by decide), t5, va0 hj]
  · rw [a2 6 (by decide) (by decide), t6, va0 hj]
  · rw [a2 8 (by decide) (by decide), t8, va0 hj]
end OSS

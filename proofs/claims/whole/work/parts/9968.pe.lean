/-! state: a person -/
/-- behind a clause: all well, or refused -/
def CLo (T : Nat → Int) (n m : Nat) (KD ST LN VL : Nat → Int) (σ0 μ0 : kM) (i : Nat) (σ' μ' : kM) : Prop := (∃ (i' N M tp : Nat) (C R PH PF PB : List Int), i < i' ∧ i' ≤ m ∧ KCg m KD ST LN VL σ0 i' σ' ∧ KMg T n μ0 i' μ' ∧ DR i' C R PH PF PB σ' μ' ∧ DW N M tp σ' μ') ∨ ∃ f p : Int, cxS m KD ST LN VL σ0 f p σ' ∧ mxS μ0 f p μ'
theorem pe_w {N t : Nat} (hN : N < 8) (ht : t < 4) : (w32 (w32 ((N : Int) * 4) + (t : Int)) = ((4 * N + t : Nat) : Int) ∧ w32 (w32 (113 + w32 (4 * (N : Int))) + (t : Int)) = ((113 + 4 * N + t : Nat) : Int)) ∧ (w32 (1 + (N : Int)) = ((1 + N : Nat) : Int) ∧ w32 ((N : Int) + 1) = ((N + 1 : Nat) : Int) ∧ w32 ((t : Int) + 1) = ((t + 1 : Nat) : Int)) := by
  refine ⟨⟨?_, ?_⟩, ?_, ?_, ?_⟩
  · rw [w32_s (v := (N : Int) * 4) (by omega) (by omega), w32_s (by omega) (by omega)]
    omega
  · rw [w32_s (v := 4 * (N : Int)) (by omega) (by omega), w32_s (v := 113 + 4 * (N : Int)) (by omega) (by omega), w32_s (by omega) (by omega)]
    omega
  · rw [w32_s (by omega) (by omega)]
    omega
  · rw [w32_s (by omega) (by omega)]
    omega
  · rw [w32_s (by omega) (by omega)]
    omega
theorem c_supposeN {σ : kM} {N t : Nat} (hN : N < 8) (ht : t < 4) (v : Int) : pf_Law_suppose_13 σ (N : Int) (t : Int) v = some (kst σ 15 (kup (σ 15) (4 * N + t) v)) := by
  have hc : 0 ≤ ((4 * N + t : Nat) : Int) ∧ ((4 * N + t : Nat) : Int) < 32 := by omega
  unfold pf_Law_suppose_13
  rw [(pe_w hN ht).1.1, kchk_t hc, klet_eq, Int.toNat_natCast]
section PES
variable {T : Nat → Int} {n m : Nat} {KD ST LN VL : Nat → Int} {σ0 μ0 σ μ : kM} {i : Nat}
theorem cx_pe (hK : TKf T n m KD ST LN VL) {f p : Int} {N tp : Nat} (hN : N < 8) (htp : tp ≤ 4) : ∀ (q t : Nat) (σ1 : kM) (fuel : Nat), t + q = tp → q < fuel → cxS m KD ST LN VL σ0 f p σ1 → σ1 13 0 = (tp : Int) → ∃ σ2, kloop (fun st => pf_Parser_takePerson_12_l66 st.1 (N : Int) st.2) fuel (σ1, (t : Int)) = some σ2 ∧ cxS m KD ST LN VL σ0 f p σ2 := by
  intro q
  induction q with
  | zero =>
    intro t σ1 fuel ht hf h h13
    obtain ⟨k, rfl, -⟩ := fu_s hf
    have hc : σ1 13 0 ≤ (t : Int) := by rw [h13]; omega
    refine ⟨σ1, kloop_r ?_, h⟩
    show pf_Parser_takePerson_12_l66 σ1 (N : Int) (t : Int) = _
    unfold pf_Parser_takePerson_12_l66
    rw [if_pos hc]
  | succ q ih =>
    intro t σ1 fuel ht hf h h13
    obtain ⟨k, rfl, hm⟩ := fu_s hf
    have hc : ¬ σ1 13 0 ≤ (t : Int) := by rw [h13]; omega
    have ht4 : t < 4 := by omega
    obtain ⟨σ2, a1, a2⟩ := ih (t + 1) (kst σ1 15 (kup (σ1 15) (4 * N + t) 0)) k (by omega) (hm _ rfl) (h.put (by decide)) (by rw [kst_ne (by decide)]; exact h13)
    refine ⟨σ2, ?_, a2⟩
    rw [← a1]
    refine kloop_l ?_
    show pf_Parser_takePerson_12_l66 σ1 (N : Int) (t : Int) = _
    unfold pf_Parser_takePerson_12_l66
    rw [if_neg hc, kbind_eq (cf_number hK h.1 0 9)]
    show (pf_Law_suppose_13 σ1 (N : Int) (t : Int) 0).bind _ = _
    rw [kbind_eq (c_supposeN hN ht4 0), klet_eq, (pe_w hN ht4).2.2.2]
theorem mx_pe {f p : Int} {N tp : Nat} (hN : N < 8) (htp : tp ≤ 4) : ∀ (q t : Nat) (μ1 : kM) (fuel : Nat), t + q = tp → q < fuel → mxS μ0 f p μ1 → μ1 0 21 = (tp : Int) → ∃ μ2, kloop (fun st => mm_readsPerson_l22 st.1 (N : Int) st.2) fuel (μ1, (t : Int)) = some μ2 ∧ mxS μ0 f p μ2 := by
  intro q
  induction q with
  | zero =>
    intro t μ1 fuel ht hf h h21
    obtain ⟨k, rfl, -⟩ := fu_s hf
    have hc : μ1 0 21 ≤ (t : Int) := by rw [h21]; omega
    refine ⟨μ1, kloop_r ?_, h⟩
    show mm_readsPerson_l22 μ1 (N : Int) (t : Int) = _
    unfold mm_readsPerson_l22
    rw [if_pos hc]
  | succ q ih =>
    intro t μ1 fuel ht hf h h21
    obtain ⟨k, rfl, hm⟩ := fu_s hf
    have hc : ¬ μ1 0 21 ≤ (t : Int) := by rw [h21]; omega
    have ht4 : t < 4 := by omega
    have hi : 0 ≤ ((113 + 4 * N + t : Nat) : Int) ∧ ((113 + 4 * N + t : Nat) : Int) < 145 := by omega
    obtain ⟨μ2, a1, a2⟩ := ih (t + 1) (kst μ1 4 (kup (μ1 4) (113 + 4 * N + t) 0)) k (by omega) (hm _ rfl) (h.put (by decide)) (by rw [kst_ne (by decide)]; exact h21)
    refine ⟨μ2, ?_, a2⟩
    rw [← a1]
    refine kloop_l ?_
    show mm_readsPerson_l22 μ1 (N : Int) (t : Int) = _
    unfold mm_readsPerson_l22
    rw [if_neg hc, kbind_eq (m_numF h.bad 0 9)]
    show kchk _ _ = _
    rw [(pe_w hN ht4).1.2, kchk_t hi, klet_eq, klet_eq, Int.toNat_natCast, (pe_w hN ht4).2.2.2]
/-- within a person -/
def PSt (T : Nat → Int) (n m : Nat) (KD ST LN VL : Nat → Int) (σ0 μ0 σ μ : kM) (i0 N t : Nat) (v0 : Int) (σ1 μ1 : kM) : Prop := (i0 + t ≤ m ∧ KCg m KD ST LN VL σ0 (i0 + t) σ1 ∧ KMg T n μ0 (i0 + t) μ1) ∧ ((∀ c : Nat, 14 ≤ c ∧ c ≤ 22 ∧ c ≠ 15 → σ1 c = σ c) ∧ σ1 13 = kup (σ 13) 1 ((N + 1 : Nat) : Int) ∧ σ1 23 = kup (σ 23) (1 + N) v0 ∧ ∀ k : Nat, σ1 15 k = if 4 * N ≤ k ∧ k < 4 * N + t then μ1 4 (113 + k) else σ 15 k) ∧ (μ1 5 = μ 5 ∧ ∀ j : Nat, 21 ≤ j ∧ j ≤ 27 → μ1 0 j = μ 0 j) ∧ μ1 4 (1 + N) = v0 ∧ (∀ k : Nat, k ≠ 1 + N → k < 113 + 4 * N ∨ 113 + 4 * N + t ≤ k → μ1 4 k = μ 4 k) ∧ ∀ k : Nat, 113 + 4 * N ≤ k → k < 113 + 4 * N + t → 0 ≤ μ1 4 k ∧ μ1 4 k ≤ 9
theorem pe_loop (hK : TKf T n m KD ST LN VL) {i0 N tp : Nat} {v0 : Int} (hN : N < 8) (htp : tp ≤ 4) (h13 : σ 13 0 = (tp : Int)) (h21 : μ 0 21 = (tp : Int)) : ∀ (q t : Nat) (σ1 μ1 : kM) (f1 f2 : Nat), t + q = tp → q < f1 → q < f2 → PSt T n m KD ST LN VL σ0 μ0 σ μ i0 N t v0 σ1 μ1 → ∃ σ2 μ2, kloop (fun st => pf_Parser_takePerson_12_l66 st.1 (N : Int) st.2) f1 (σ1, (t : Int)) = some σ2 ∧ kloop (fun st => mm_readsPerson_l22 st.1 (N : Int) st.2) f2 (μ1, (t : Int)) = some μ2 ∧ (PSt T n m KD ST LN VL σ0 μ0 σ μ i0 N tp v0 σ2 μ2 ∨ ∃ f p : Int, cxS m KD ST LN VL σ0 f p σ2 ∧ mxS μ0 f p μ2) := by
  intro q
  induction q with
  | zero =>
    intro t σ1 μ1 f1 f2 ht hf1 hf2 h
    obtain ⟨k1, rfl, -⟩ := fu_s hf1
    obtain ⟨k2, rfl, -⟩ := fu_s hf2
    have et : t = tp := by omega
    subst et
    have e13 : σ1 13 0 = (t : Int) := by rw [h.2.1.2.1, kup_ne (by decide)]; exact h13
    have e21 : μ1 0 21 = (t : Int) := by rw [h.2.2.1.2 21 (by decide)]; exact h21
    have hc1 : σ1 13 0 ≤ (t : Int) := by rw [e13]; exact Int.le_refl _
    have hc2 : μ1 0 21 ≤ (t : Int) := by rw [e21]; exact Int.le_refl _
    refine ⟨σ1, μ1, kloop_r ?_, kloop_r ?_, Or.inl h⟩
    · show pf_Parser_takePerson_12_l66 σ1 (N : Int) (t : Int) = _
      unfold pf_Parser_takePerson_12_l66
      rw [if_pos hc1]
    · show mm_readsPerson_l22 μ1 (N : Int) (t : Int) = _
      unfold mm_readsPerson_l22
      rw [if_pos hc2]
  | succ q ih =>
    intro t σ1 μ1 f1 f2 ht hf1 hf2 h
    obtain ⟨k1, rfl, hm1⟩ := fu_s hf1
    obtain ⟨k2, rfl, hm2⟩ := fu_s hf2
    have e13 : σ1 13 0 = (tp : Int) := by rw [h.2.1.2.1, kup_ne (by decide)]; exact h13
    have e21 : μ1 0 21 = (tp : Int) := by rw [h.2.2.1.2 21 (by decide)]; exact h21
    have hc1 : ¬ σ1 13 0 ≤ (t : Int) := by rw [e13]; omega
    have hc2 : ¬ μ1 0 21 ≤ (t : Int) := by rw [e21]; omega
    have ht4 : t < 4 := by omega
    have hi : 0 ≤ ((113 + 4 * N + t : Nat) : Int) ∧ ((113 + 4 * N + t : Nat) : Int) < 145 := by omega
    have bC : ∀ (r : Int) (s : kM), pf_Parser_takeNumber_12 σ1 0 9 = some (r, s) → pf_Parser_takePerson_12_l66 σ1 (N : Int) (t : Int) = some (.inl (kst s 15 (kup (s 15) (4 * N + t) r), ((t + 1 : Nat) : Int))) := by
      intro r s e
      unfold pf_Parser_takePerson_12_l66
      rw [if_neg hc1, kbind_eq e]
      show (pf_Law_suppose_13 s (N : Int) (t : Int) r).bind _ = _
      rw [kbind_eq (c_supposeN hN ht4 r), klet_eq, (pe_w hN ht4).2.2.2]
    have bM : ∀ (r : Int) (s : kM), mm_number μ1 0 9 = some (r, s) → mm_readsPerson_l22 μ1 (N : Int) (t : Int) = some (.inl (kst s 4 (kup (s 4) (113 + 4 * N + t) r), ((t + 1 : Nat) : Int))) := by
      intro r s e
      unfold mm_readsPerson_l22
      rw [if_neg hc2, kbind_eq e]
      show kchk _ _ = _
      rw [(pe_w hN ht4).1.2, kchk_t hi, klet_eq, klet_eq, Int.toNat_natCast, (pe_w hN ht4).2.2.2]
    obtain ⟨⟨h1, h2, h3⟩, ⟨h4, h5, h6, h7⟩, ⟨h8, h9⟩, h10, h11, h12⟩ := h
    rcases s_num hK h1 h2 h3 0 9 with ⟨a1, a2, a3, a4, g, a5, a6, a7⟩ | ⟨f, p, v, a1, a2, a3, a4⟩
    · obtain ⟨b1, b2, b3, b4⟩ := a2
      obtain ⟨σ2, μ2, r1, r2, r3⟩ := ih (t + 1) (kst (cAd σ1 (i0 + t)) 15 (kup ((cAd σ1 (i0 + t)) 15) (4 * N + t) (VL (i0 + t)))) (kst (kst μ1 0 g) 4 (kup ((kst μ1 0 g) 4) (113 + 4 * N + t) (VL (i0 + t)))) k1 k2 (by omega) (hm1 _ rfl) (hm2 _ rfl) (by
        have c1 : ∀ c : Nat, c ≠ 15 → c ≠ 24 → kst (cAd σ1 (i0 + t)) 15 (kup ((cAd σ1 (i0 + t)) 15) (4 * N + t) (VL (i0 + t))) c = σ1 c := fun c x y => by
          rw [kst_ne x]
          exact kst_ne y
        have c2 : (cAd σ1 (i0 + t)) 15 = σ1 15 := kst_ne (by decide)
        have c3 : (kst μ1 0 g) 4 = μ1 4 := kst_ne (by decide)
        refine ⟨⟨a1, a4.put (by decide), a7.put (by decide)⟩, ⟨fun c hc => ?_, ?_, ?_, fun k => ?_⟩, ⟨?_, fun j hj => ?_⟩, ?_, fun k k1 k2 => ?_, fun k k1 k2 => ?_⟩
        · rw [c1 c (by omega) (by omega)]
          exact h4 c hc
        · rw [c1 13 (by decide) (by decide)]
          exact h5
        · rw [c1 23 (by decide) (by decide)]
          exact h6
        · rw [kst_eq, kst_eq, c2, c3]
          by_cases e : k = 4 * N + t
          · rw [e, kup_eq, if_pos (by omega), show 113 + (4 * N + t) = 113 + 4 * N + t by omega, kup_eq]
          · rw [kup_ne e, kup_ne (by omega), h7 k]
            by_cases c : 4 * N ≤ k ∧ k < 4 * N + t
            · rw [if_pos c, if_pos (by omega)]
            · rw [if_neg c, if_neg (by omega)]
        · rw [kst_ne (by decide), kst_ne (by decide)]
          exact h8
        · rw [kst_ne (by decide), kst_eq, a6 j (by omega)]
          exact h9 j hj
        · rw [kst_eq, c3, kup_ne (by omega)]
          exact h10
        · rw [kst_eq, c3, kup_ne (by omega)]
          exact h11 k k1 (by omega)
        · rw [kst_eq, c3]
          by_cases e : k = 113 + 4 * N + t
          · rw [e, kup_eq]
            exact ⟨b3, b4⟩
          · rw [kup_ne e]
            exact h12 k k1 (by omega))
      refine ⟨σ2, μ2, ?_, ?_, r3⟩
      · rw [← r1]
        exact kloop_l (bC _ _ a3)
      · rw [← r2]
        exact kloop_l (bM _ _ a5)
    · obtain ⟨σ2, r1, r2⟩ := cx_pe hK hN htp q (t + 1) (kst (cRf σ1 m f p) 15 (kup ((cRf σ1 m f p) 15) (4 * N + t) 0)) k1 (by omega) (hm1 _ rfl) (a2.put (by decide)) (by
        rw [kst_ne (by decide)]
        show kst _ 24 _ 13 0 = _
        rw [kst_ne (by decide), kst_ne (by decide)]
        exact e13)
      obtain ⟨μ2, r3, r4⟩ := mx_pe hN htp q (t + 1) (kst (mWr μ1 f p) 4 (kup ((mWr μ1 f p) 4) (113 + 4 * N + t) v)) k2 (by omega) (hm2 _ rfl) (a4.put (by decide)) (by
        rw [kst_ne (by decide)]
        show kst _ 0 _ 0 21 = _
        rw [kst_eq, kup_ne (by decide), kup_ne (by decide)]
        exact e21)
      refine ⟨σ2, μ2, ?_, ?_, Or.inr ⟨f, p, r2, r4⟩⟩
      · rw [← r1]
        exact kloop_l (bC _ _ a1)
      · rw [← r3]
        exact kloop_l (bM _ _ a3)
end PES

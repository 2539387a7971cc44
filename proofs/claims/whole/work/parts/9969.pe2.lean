/-! state: a person's clause -/
section PE2
variable {T : Nat → Int} {n m : Nat} {KD ST LN VL : Nat → Int} {σ0 μ0 σ μ : kM} {i : Nat}
theorem CT.same {σ' : kM} (h : CT m KD ST LN VL i σ) (hC : ∀ c : Nat, 24 ≤ c ∧ c ≤ 28 → σ' c = σ c) : CT m KD ST LN VL i σ' := by
  unfold CT
  rw [hC 24 (by decide), hC 25 (by decide), hC 26 (by decide), hC 27 (by decide), hC 28 (by decide)]
  exact h
/-- the rows behind a person -/
theorem DW.person {N M tp i0 : Nat} {v0 : Int} {σ2 μ2 : kM} (h : DW N M tp σ μ) (hN : N < 8) (hv : 0 ≤ v0 ∧ v0 ≤ 99) (hP : PSt T n m KD ST LN VL σ0 μ0 σ μ i0 N tp v0 σ2 μ2) {σ3 μ3 : kM} (hC : ∀ c : Nat, 13 ≤ c ∧ c ≤ 23 → σ3 c = σ2 c) (h4 : μ3 4 = μ2 4) (h21 : μ3 0 21 = μ2 0 21) (h22 : μ3 0 22 = ((N + 1 : Nat) : Int)) (h23 : μ3 0 23 = μ2 0 23) : DW (N + 1) M tp σ3 μ3 := by
  obtain ⟨⟨d1, d2, d3, d4⟩, ⟨e1, e2, e3⟩, ⟨f1, f2, f3⟩, g1, g2, g3⟩ := h
  obtain ⟨-, ⟨p1, p2, p3, p4⟩, ⟨p5, p6⟩, p7, p8, p9⟩ := hP
  have hL : ∀ w : Nat, w < 4 → μ3 4 (61 + w) = μ 4 (61 + w) := fun w hw => by
    rw [h4]
    exact p8 (61 + w) (by omega) (by omega)
  refine ⟨⟨d1, d2, by omega, d4⟩, ⟨?_, ?_, ?_⟩, ⟨?_, h22, ?_⟩, fun k hk ho => ?_, fun k hk => ?_, fun w hw => ?_⟩
  · rw [hC 13 (by decide), p2, kup_ne (by decide)]
    exact e1
  · rw [hC 13 (by decide), p2, kup_eq]
  · rw [hC 13 (by decide), p2, kup_ne (by decide)]
    exact e3
  · rw [h21, p6 21 (by decide)]
    exact f1
  · rw [h23, p6 23 (by decide)]
    exact f3
  · rw [h4]
    obtain ⟨o1, o2⟩ := ho
    have hv1 : vP σ3 k = vP σ2 k := vP.keep (hC 14 (by decide)) (hC 15 (by decide)) (hC 16 (by decide)) (hC 23 (by decide)) k
    rw [hv1]
    unfold vP
    rw [p1 14 (by decide), p1 16 (by decide), p3]
    by_cases c1 : k = 1 + N
    · rw [if_pos (by omega), c1, kup_eq]
      exact p7.symm
    · by_cases c2 : 113 + 4 * N ≤ k ∧ k < 113 + 4 * N + 4
      · have hq := o2 (by omega)
        rw [if_neg (by omega), if_neg (by omega), if_neg (by omega), if_neg (by omega), if_neg (by omega), if_neg (by omega), p4 (k - 113), if_pos (by omega), show 113 + (k - 113) = k by omega]
      · have hro : rok (N : Int) (M : Int) (tp : Int) (fun w => μ 4 (61 + w)) k := by
          refine ⟨fun x y => ?_, fun x => ?_⟩
          · have hq : (((k - 65) / 6 : Nat) : Int) < (M : Int) ∧ (((k - 65) % 6 : Nat) : Int) < μ3 4 (61 + (k - 65) / 6) := o1 x y
            rw [hL ((k - 65) / 6) (by omega)] at hq
            exact hq
          · have hq := o2 x
            omega
        have hg := g1 k hk hro
        rw [p8 k c1 (by omega), ← hg]
        unfold vP
        by_cases x1 : k < 17
        · rw [if_pos x1, if_pos x1, kup_ne c1]
        · rw [if_neg x1, if_neg x1]
          by_cases x2 : k < 29
          · rw [if_pos x2, if_pos x2, kup_ne (by omega)]
          · rw [if_neg x2, if_neg x2]
            by_cases x3 : k < 61
            · rw [if_pos x3, if_pos x3, kup_ne (by omega)]
            · rw [if_neg x3, if_neg x3]
              by_cases x4 : k < 65
              · rw [if_pos x4, if_pos x4]
              · rw [if_neg x4, if_neg x4]
                by_cases x5 : k < 89
                · rw [if_pos x5, if_pos x5]
                · rw [if_neg x5, if_neg x5]
                  by_cases x6 : k < 113
                  · rw [if_pos x6, if_pos x6, kup_ne (by omega)]
                  · rw [if_neg x6, if_neg x6, p4 (k - 113), if_neg (by omega)]
  · rw [h4]
    by_cases c1 : k = 1 + N
    · rw [c1, p7]
      unfold nbd
      omega
    · by_cases c2 : 113 + 4 * N ≤ k ∧ k < 113 + 4 * N + tp
      · have := p9 k c2.1 c2.2
        unfold nbd
        omega
      · rw [p8 k c1 (by omega)]
        exact g2 k hk
  · rw [hL w hw]
    exact g3 w hw
theorem s_person (hK : TKf T n m KD ST LN VL) {N M tp : Nat} {C R PH PF PB : List Int} (hi : i < m) (hC : KCg m KD ST LN VL σ0 i σ) (hM : KMg T n μ0 i μ) (hR : DR i C R PH PF PB σ μ) (hW : DW N M tp σ μ) : ∃ σ' μ', pf_Parser_takePerson_12 σ = some σ' ∧ (if μ 0 22 = 8 then mm_clause_j26 μ 1 else mm_clause_j26 μ 0) = some μ' ∧ CLo T n m KD ST LN VL σ0 μ0 i σ' μ' := by
  have hi' := Nat.le_of_lt hi
  have hW0 := hW
  obtain ⟨⟨d1, d2, d3, d4⟩, ⟨e1, e2, e3⟩, ⟨f1, f2, f3⟩, -⟩ := hW
  by_cases c8 : N = 8
  · have hx := hM.wr (x := 2) (p := ST i) (by decide)
    have hc1 : ¬ σ 13 1 < 8 := by rw [e2]; omega
    have hc2 : μ 0 22 = 8 := by rw [f2]; omega
    refine ⟨_, _, ?_, ?_, Or.inr ⟨2, ST i, hC.rf (by decide), hx⟩⟩
    · unfold pf_Parser_takePerson_12
      rw [if_neg hc1, kbind_eq (c_refuse hC.1 hK.m7 hi' hC.2.1.1 2)]
    · unfold mm_clause_j26
      rw [if_pos hc2, kbind_eq (m_begins2 hK hi' hM)]
      exact mx_end hx
  · have hN : N < 8 := by omega
    have hc1 : σ 13 1 < 8 := by rw [e2]; omega
    have hc2 : ¬ μ 0 22 = 8 := by rw [f2]; omega
    have hi1 : 0 ≤ ((1 + N : Nat) : Int) ∧ ((1 + N : Nat) : Int) < 85 := by omega
    have hi2 : 0 ≤ ((1 + N : Nat) : Int) ∧ ((1 + N : Nat) : Int) < 145 := by omega
    obtain ⟨g0, b1, b2, b3⟩ := m_begins1 hK hM
    have hC1 : KCg m KD ST LN VL σ0 i (kst σ 13 (kup (σ 13) 1 ((N + 1 : Nat) : Int))) := hC.put (by decide)
    have hadv := c_adv hC1.1 hK.m7 hi
    have hC2 := hC1.ad
    have e22 : kst μ 0 g0 0 22 = (N : Int) := by rw [kst_eq, b2 22 (by decide), f2]
    have hcl : ∀ (σ2 σ3 : kM), (∀ (r : Int) (s : kM), pf_Parser_takeNumber_12 (cAd (kst σ 13 (kup (σ 13) 1 ((N + 1 : Nat) : Int))) i) 0 99 = some (r, s) → kloop (fun st => pf_Parser_takePerson_12_l66 st.1 (N : Int) st.2) kFuel (kst s 23 (kup (s 23) (1 + N) r), 0) = some σ2) → (∃ r s, pf_Parser_takeNumber_12 (cAd (kst σ 13 (kup (σ 13) 1 ((N + 1 : Nat) : Int))) i) 0 99 = some (r, s)) → pf_Parser_takeSign_12 σ2 59 = some σ3 → pf_Parser_takePerson_12 σ = some σ3 := by
      intro σ2 σ3 q1 ⟨r, s, q2⟩ q3
      have q1 := q1 r s q2
      unfold pf_Parser_takePerson_12
      rw [if_pos hc1, klet_eq, klet_eq, e2, (pe_w (t := 0) hN (by decide)).2.2.1, kbind_eq hadv, kbind_eq q2]
      show kchk _ _ = _
      rw [(pe_w (t := 0) hN (by decide)).2.1, kchk_t hi1, klet_eq, Int.toNat_natCast, kbind_eq q1, kbind_eq q3]
    have hml : ∀ (μ2 μ3 μ4 : kM), (∀ (r : Int) (s : kM), mm_number (kst μ 0 g0) 0 99 = some (r, s) → kloop (fun st => mm_readsPerson_l22 st.1 (N : Int) st.2) kFuel (kst s 4 (kup (s 4) (1 + N) r), 0) = some μ2) → (∃ r s, mm_number (kst μ 0 g0) 0 99 = some (r, s)) → ((mm_isGood μ2).bind fun r_15 => if r_15 = 0 then some μ2 else klet (kst μ2 0 (kup (μ2 0) 22 (w32 ((μ2 0 22) + 1)))) fun σ_16 => some σ_16) = some μ3 → mm_clause_j212 μ3 = some μ4 → (if μ 0 22 = 8 then mm_clause_j26 μ 1 else mm_clause_j26 μ 0) = some μ4 := by
      intro μ2 μ3 μ4 q1 ⟨r, s, q2⟩ q3 q4
      have q1 := q1 r s q2
      have q5 : mm_readsPerson (kst μ 0 g0) = some μ3 := by
        unfold mm_readsPerson
        rw [klet_eq, kbind_eq q2]
        show kchk _ _ = _
        rw [e22, (pe_w (t := 0) hN (by decide)).2.1, kchk_t hi2, klet_eq, Int.toNat_natCast, kbind_eq q1]
        exact q3
      unfold mm_clause_j26
      rw [if_neg hc2, kbind_eq b1]
      show (if (1 : Int) = 0 then _ else _) = _
      rw [if_neg (by decide), kbind_eq q5]
      exact q4
    rcases s_num hK hi hC2 b3 0 99 with ⟨a1, a2, a3, a4, g, a5, a6, a7⟩ | ⟨f, p, v, a1, a2, a3, a4⟩
    · obtain ⟨-, -, v1, v2⟩ := a2
      generalize hv : VL (i + 1) = v0 at *
      have hS : PSt T n m KD ST LN VL σ0 μ0 σ μ (i + 1 + 1) N 0 v0 (kst (cAd (cAd (kst σ 13 (kup (σ 13) 1 ((N + 1 : Nat) : Int))) i) (i + 1)) 23 (kup ((cAd (cAd (kst σ 13 (kup (σ 13) 1 ((N + 1 : Nat) : Int))) i) (i + 1)) 23) (1 + N) v0)) (kst (kst (kst μ 0 g0) 0 g) 4 (kup ((kst (kst μ 0 g0) 0 g) 4) (1 + N) v0)) := by
        have c1 : ∀ c : Nat, c ≠ 24 → c ≠ 13 → (cAd (cAd (kst σ 13 (kup (σ 13) 1 ((N + 1 : Nat) : Int))) i) (i + 1)) c = σ c := fun c x y => by
          show kst (kst (kst σ 13 _) 24 _) 24 _ c = _
          rw [kst_ne x, kst_ne x, kst_ne y]
        have c13 : (cAd (cAd (kst σ 13 (kup (σ 13) 1 ((N + 1 : Nat) : Int))) i) (i + 1)) 13 = kup (σ 13) 1 ((N + 1 : Nat) : Int) := by
          show kst (kst (kst σ 13 _) 24 _) 24 _ 13 = _
          rw [kst_ne (by decide), kst_ne (by decide), kst_eq]
        have c4 : (kst (kst μ 0 g0) 0 g) 4 = μ 4 := by rw [kst_ne (by decide), kst_ne (by decide)]
        refine ⟨⟨a1, a4.put (by decide), a7.put (by decide)⟩, ⟨fun c hc => ?_, ?_, ?_, fun k => ?_⟩, ⟨?_, fun j hj => ?_⟩, ?_, fun k k1 k2 => ?_, fun k k1 k2 => ?_⟩
        · rw [kst_ne (by omega), c1 c (by omega) (by omega)]
        · rw [kst_ne (by decide), c13]
        · rw [kst_eq, c1 23 (by decide) (by decide)]
        · rw [kst_ne (by decide), c1 15 (by decide) (by decide), if_neg (by omega)]
        · rw [kst_ne (by decide), kst_ne (by decide), kst_ne (by decide)]
        · rw [kst_ne (by decide), kst_eq, a6 j (by omega), kst_eq, b2 j (by omega)]
        · rw [kst_eq, kup_eq]
        · rw [kst_eq, kup_ne k1, c4]
        · omega
      obtain ⟨σ2, μ2, r1, r2, r3⟩ := pe_loop hK hN d2 e1 f1 tp 0 _ _ kFuel kFuel (by omega) (kFuel_lt (by omega)) (kFuel_lt (by omega)) hS
      have q1 : ∀ (r : Int) (s : kM), pf_Parser_takeNumber_12 (cAd (kst σ 13 (kup (σ 13) 1 ((N + 1 : Nat) : Int))) i) 0 99 = some (r, s) → kloop (fun st => pf_Parser_takePerson_12_l66 st.1 (N : Int) st.2) kFuel (kst s 23 (kup (s 23) (1 + N) r), 0) = some σ2 := by
        intro r s q
        rw [a3] at q
        obtain ⟨rfl, rfl⟩ := Prod.mk.inj (Option.some.inj q)
        exact r1
      have q2 : ∀ (r : Int) (s : kM), mm_number (kst μ 0 g0) 0 99 = some (r, s) → kloop (fun st => mm_readsPerson_l22 st.1 (N : Int) st.2) kFuel (kst s 4 (kup (s 4) (1 + N) r), 0) = some μ2 := by
        intro r s q
        rw [a5] at q
        obtain ⟨rfl, rfl⟩ := Prod.mk.inj (Option.some.inj q)
        exact r2
      rcases r3 with r3 | ⟨f, p, r3, r4⟩
      · have hP := r3
        obtain ⟨⟨h1, h2, h3⟩, ⟨h4, h5, h6, h7⟩, ⟨h8, h9⟩, h10, h11, h12⟩ := r3
        have h22 : μ2 0 22 = (N : Int) := by rw [h9 22 (by decide), f2]
        have q3 : ((mm_isGood μ2).bind fun r_15 => if r_15 = 0 then some μ2 else klet (kst μ2 0 (kup (μ2 0) 22 (w32 ((μ2 0 22) + 1)))) fun σ_16 => some σ_16) = some (kst μ2 0 (kup (μ2 0) 22 ((N + 1 : Nat) : Int))) := by
          rw [kbind_eq (m_isGood1 h3.2.1.1), if_neg (by decide), klet_eq, h22, (pe_w (t := 0) hN (by decide)).2.2.1]
        have hM3 : KMg T n μ0 (i + 1 + 1 + tp) (kst μ2 0 (kup (μ2 0) 22 ((N + 1 : Nat) : Int))) := h3.put0 (by decide)
        rcases s_end hK h1 h2 hM3 with ⟨u1, u2, u3, g', u4, u5, u6⟩ | ⟨f, p, u1, u2, u3, u4⟩
        · refine ⟨_, _, hcl _ _ q1 ⟨_, _, a3⟩ u2, hml _ _ _ q2 ⟨_, _, a5⟩ q3 u4, Or.inl ⟨i + 1 + 1 + tp + 1, N + 1, M, tp, C, R, PH, PF, PB, by omega, u1, u3, u6, hR.keep (by omega) (fun c hc => ?_) ?_ (fun j hj => ?_), ?_⟩⟩
          · show kst σ2 24 _ c = _
            rw [kst_ne (by omega)]
            exact h4 c (by omega)
          · rw [kst_ne (by decide), kst_ne (by decide)]
            exact h8
          · rw [kst_eq, u5 j (by omega), kst_eq, kup_ne (by omega)]
            exact h9 j (by omega)
          · refine DW.person hW0 hN ⟨v1, v2⟩ hP (fun c hc => ?_) ?_ ?_ ?_ ?_
            · show kst σ2 24 _ c = _
              rw [kst_ne (by omega)]
            · rw [kst_ne (by decide), kst_ne (by decide)]
            · rw [kst_eq, u5 21 (by decide), kst_eq, kup_ne (by decide)]
            · rw [kst_eq, u5 22 (by decide), kst_eq, kup_eq]
            · rw [kst_eq, u5 23 (by decide), kst_eq, kup_ne (by decide)]
        · exact ⟨_, _, hcl _ _ q1 ⟨_, _, a3⟩ u1, hml _ _ _ q2 ⟨_, _, a5⟩ q3 u3, Or.inr ⟨f, p, u2, u4⟩⟩
      · have q3 : ((mm_isGood μ2).bind fun r_15 => if r_15 = 0 then some μ2 else klet (kst μ2 0 (kup (μ2 0) 22 (w32 ((μ2 0 22) + 1)))) fun σ_16 => some σ_16) = some μ2 := by
          rw [kbind_eq (m_isGood0 r4.bad), if_pos rfl]
        exact ⟨_, _, hcl _ _ q1 ⟨_, _, a3⟩ (cf_sign hK r3.1 59), hml _ _ _ q2 ⟨_, _, a5⟩ q3 (mx_end r4), Or.inr ⟨f, p, r3, r4⟩⟩
    · obtain ⟨σ2, r1, r2⟩ := cx_pe hK hN d2 tp 0 (kst (cRf (cAd (kst σ 13 (kup (σ 13) 1 ((N + 1 : Nat) : Int))) i) m f p) 23 (kup ((cRf (cAd (kst σ 13 (kup (σ 13) 1 ((N + 1 : Nat) : Int))) i) m f p) 23) (1 + N) 0)) kFuel (by omega) (kFuel_lt (by omega)) (a2.put (by decide)) (by
        rw [kst_ne (by decide)]
        show kst (kst (kst (kst σ 13 _) 24 _) 12 _) 24 _ 13 0 = _
        rw [kst_ne (by decide), kst_ne (by decide), kst_ne (by decide), kst_eq, kup_ne (by decide)]
        exact e1)
      obtain ⟨μ2, r3, r4⟩ := mx_pe hN d2 tp 0 (kst (mWr (kst μ 0 g0) f p) 4 (kup ((mWr (kst μ 0 g0) f p) 4) (1 + N) v)) kFuel (by omega) (kFuel_lt (by omega)) (a4.put (by decide)) (by
        rw [kst_ne (by decide)]
        show kst (kst μ 0 g0) 0 _ 0 21 = _
        rw [kst_eq, kup_ne (by decide), kup_ne (by decide), kst_eq, b2 21 (by decide)]
        exact f1)
      have q1 : ∀ (r : Int) (s : kM), pf_Parser_takeNumber_12 (cAd (kst σ 13 (kup (σ 13) 1 ((N + 1 : Nat) : Int))) i) 0 99 = some (r, s) → kloop (fun st => pf_Parser_takePerson_12_l66 st.1 (N : Int) st.2) kFuel (kst s 23 (kup (s 23) (1 + N) r), 0) = some σ2 := by
        intro r s q
        rw [a1] at q
        obtain ⟨rfl, rfl⟩ := Prod.mk.inj (Option.some.inj q)
        exact r1
      have q2 : ∀ (r : Int) (s : kM), mm_number (kst μ 0 g0) 0 99 = some (r, s) → kloop (fun st => mm_readsPerson_l22 st.1 (N : Int) st.2) kFuel (kst s 4 (kup (s 4) (1 + N) r), 0) = some μ2 := by
        intro r s q
        rw [a3] at q
        obtain ⟨rfl, rfl⟩ := Prod.mk.inj (Option.some.inj q)
        exact r3
      have q3 : ((mm_isGood μ2).bind fun r_15 => if r_15 = 0 then some μ2 else klet (kst μ2 0 (kup (μ2 0) 22 (w32 ((μ2 0 22) + 1)))) fun σ_16 => some σ_16) = some μ2 := by
        rw [kbind_eq (m_isGood0 r4.bad), if_pos rfl]
      exact ⟨_, _, hcl _ _ q1 ⟨_, _, a1⟩ (cf_sign hK r2.1 59), hml _ _ _ q2 ⟨_, _, a3⟩ q3 (mx_end r4), Or.inr ⟨f, p, r2, r4⟩⟩
end PE2

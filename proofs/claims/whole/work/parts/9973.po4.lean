/-! state: a poet, the whole clause -/
section PO4
variable {T : Nat → Int} {n m : Nat} {KD ST LN VL : Nat → Int} {σ0 μ0 σ μ : kM} {i : Nat}
theorem DW.poet {N M tp j l : Nat} {v0 : Int} {σ2 μ2 : kM} (h : DW N M tp σ μ) (hM : M < 4) (hv : 0 ≤ v0 ∧ v0 ≤ 99) (hl : 1 ≤ l ∧ l ≤ 6) (hP : PQ T n m KD ST LN VL σ0 μ0 σ μ tp M l j v0 σ2 μ2) {σ3 μ3 : kM} (hC : ∀ c : Nat, 13 ≤ c ∧ c ≤ 23 → σ3 c = σ2 c) (h4 : μ3 4 = kup (μ2 4) (61 + M) (l : Int)) (h21 : μ3 0 21 = μ2 0 21) (h22 : μ3 0 22 = μ2 0 22) (h23 : μ3 0 23 = ((M + 1 : Nat) : Int)) : DW N (M + 1) tp σ3 μ3 := by
  obtain ⟨⟨d1, d2, d3, d4⟩, ⟨e1, e2, e3⟩, ⟨f1, f2, f3⟩, g1, g2, g3⟩ := h
  obtain ⟨-, ⟨p1, p2, p3, p4, p5⟩, ⟨p6, p6'⟩, p7, p8, p9, p10⟩ := hP
  have hL : ∀ w : Nat, w < 4 → w ≠ M → μ3 4 (61 + w) = μ 4 (61 + w) := fun w hw hne => by
    rw [h4, kup_ne (by omega)]
    exact p8 (61 + w) (by omega) (by omega) (by omega)
  have hLM : μ3 4 (61 + M) = (l : Int) := by rw [h4, kup_eq]
  have h4' : ∀ k : Nat, k ≠ 61 + M → μ3 4 k = μ2 4 k := fun k hk => by rw [h4, kup_ne hk]
  refine ⟨⟨d1, d2, d3, by omega⟩, ⟨?_, ?_, ?_⟩, ⟨?_, ?_, h23⟩, fun k hk ho => ?_, fun k hk => ?_, fun w hw => ?_⟩
  · rw [hC 13 (by decide), p2, kup_ne (by decide)]
    exact e1
  · rw [hC 13 (by decide), p2, kup_ne (by decide)]
    exact e2
  · rw [hC 13 (by decide), p2, kup_eq]
  · rw [h21, p6' 21 (by decide)]
    exact f1
  · rw [h22, p6' 22 (by decide)]
    exact f2
  · obtain ⟨o1, o2⟩ := ho
    have hv1 : vP σ3 k = vP σ2 k := vP.keep (hC 14 (by decide)) (hC 15 (by decide)) (hC 16 (by decide)) (hC 23 (by decide)) k
    rw [hv1]
    unfold vP
    rw [p1 15 (Or.inr rfl), p3]
    by_cases c0 : k = 61 + M
    · rw [c0, hLM, if_neg (by omega), if_neg (by omega), if_neg (by omega), if_pos (by omega), show 61 + M - 61 = M by omega, kup_eq]
    · rw [h4' k c0]
      by_cases c1 : k = 17 + M
      · rw [if_neg (by omega), if_pos (by omega), p5 (k + 32), if_neg (by omega), if_pos (by omega), c1]
        exact p7.symm
      · by_cases c2 : 65 + 6 * M ≤ k ∧ k < 65 + 6 * M + 6
        · have hq : (((k - 65) / 6 : Nat) : Int) < ((M + 1 : Nat) : Int) ∧ (((k - 65) % 6 : Nat) : Int) < μ3 4 (61 + (k - 65) / 6) := o1 (by omega) (by omega)
          rw [show (k - 65) / 6 = M by omega, hLM] at hq
          rw [if_neg (by omega), if_neg (by omega), if_neg (by omega), if_neg (by omega), if_pos (by omega), p4 (k - 65), if_pos (by omega), show 65 + (k - 65) = k by omega]
        · have hro : rok (N : Int) (M : Int) (tp : Int) (fun w => μ 4 (61 + w)) k := by
            refine ⟨fun x y => ?_, fun x => o2 x⟩
            have hq : (((k - 65) / 6 : Nat) : Int) < ((M + 1 : Nat) : Int) ∧ (((k - 65) % 6 : Nat) : Int) < μ3 4 (61 + (k - 65) / 6) := o1 x y
            have hne : (k - 65) / 6 ≠ M := by omega
            rw [hL ((k - 65) / 6) (by omega) hne] at hq
            exact ⟨by omega, hq.2⟩
          have hg := g1 k hk hro
          by_cases c3 : 89 + 6 * M ≤ k ∧ k < 89 + 6 * M + l
          · rw [if_neg (by omega), if_neg (by omega), if_neg (by omega), if_neg (by omega), if_neg (by omega), if_pos (by omega), p5 (k - 28), if_pos (by omega), show 28 + (k - 28) = k by omega]
          · rw [p8 k c1 (by omega) c3, ← hg]
            unfold vP
            by_cases x1 : k < 17
            · rw [if_pos x1, if_pos x1, p5 k, if_neg (by omega), if_neg (by omega)]
            · rw [if_neg x1, if_neg x1]
              by_cases x2 : k < 29
              · rw [if_pos x2, if_pos x2, p5 (k + 32), if_neg (by omega), if_neg (by omega)]
              · rw [if_neg x2, if_neg x2]
                by_cases x3 : k < 61
                · rw [if_pos x3, if_pos x3, p5 (k - 12), if_neg (by omega), if_neg (by omega)]
                · rw [if_neg x3, if_neg x3]
                  by_cases x4 : k < 65
                  · rw [if_pos x4, if_pos x4, kup_ne (by omega)]
                  · rw [if_neg x4, if_neg x4]
                    by_cases x5 : k < 89
                    · rw [if_pos x5, if_pos x5, p4 (k - 65), if_neg (by omega)]
                    · rw [if_neg x5, if_neg x5]
                      by_cases x6 : k < 113
                      · rw [if_pos x6, if_pos x6, p5 (k - 28), if_neg (by omega), if_neg (by omega)]
                      · rw [if_neg x6, if_neg x6]
  · by_cases c0 : k = 61 + M
    · rw [c0, hLM]
      unfold nbd
      omega
    · rw [h4' k c0]
      by_cases c1 : k = 17 + M
      · rw [c1, p7]
        unfold nbd
        omega
      · by_cases c2 : 65 + 6 * M ≤ k ∧ k < 65 + 6 * M + l
        · have := p9 k c2.1 c2.2
          unfold nbd
          omega
        · by_cases c3 : 89 + 6 * M ≤ k ∧ k < 89 + 6 * M + l
          · have := p10 k c3.1 c3.2
            unfold nbd
            omega
          · rw [p8 k c1 c2 c3]
            exact g2 k hk
  · by_cases c : w = M
    · rw [c, hLM]
      omega
    · rw [hL w hw c]
      have := g3 w hw
      exact ⟨fun x => this.1 (by omega), fun x => this.2 (by omega)⟩
theorem s_poet (hK : TKf T n m KD ST LN VL) {N M tp : Nat} {C R PH PF PB : List Int} (hi : i < m) (hC : KCg m KD ST LN VL σ0 i σ) (hM : KMg T n μ0 i μ) (hR : DR i C R PH PF PB σ μ) (hW : DW N M tp σ μ) : ∃ σ' μ', pf_Parser_takePoet_12 σ = some σ' ∧ (if μ 0 23 = 4 then mm_clause_j60 μ 1 else mm_clause_j60 μ 0) = some μ' ∧ CLo T n m KD ST LN VL σ0 μ0 i σ' μ' := by
  have hi' := Nat.le_of_lt hi
  have hW0 := hW
  obtain ⟨⟨d1, d2, d3, d4⟩, ⟨e1, e2, e3⟩, ⟨f1, f2, f3⟩, wr, -, wl⟩ := hW
  by_cases c8 : M = 4
  · have hx := hM.wr (x := 2) (p := ST i) (by decide)
    have hc1 : ¬ σ 13 2 < 4 := by rw [e3]; omega
    have hc2 : μ 0 23 = 4 := by rw [f3]; omega
    refine ⟨_, _, ?_, ?_, Or.inr ⟨2, ST i, hC.rf (by decide), hx⟩⟩
    · unfold pf_Parser_takePoet_12
      rw [if_neg hc1, kbind_eq (c_refuse hC.1 hK.m7 hi' hC.2.1.1 2)]
    · unfold mm_clause_j60
      rw [if_pos hc2, kbind_eq (m_begins2 hK hi' hM)]
      exact mx_end hx
  · have hM4 : M < 4 := by omega
    have hc1 : σ 13 2 < 4 := by rw [e3]; omega
    have hc2 : ¬ μ 0 23 = 4 := by rw [f3]; omega
    have e14 : σ 14 M = 0 := by
      have h0 := wr (61 + M) (by omega) ⟨fun x _ => by omega, fun x => by omega⟩
      unfold vP at h0
      rw [if_neg (by omega), if_neg (by omega), if_neg (by omega), if_pos (by omega), show 61 + M - 61 = M by omega, (wl M hM4).2 (Nat.le_refl _)] at h0
      exact h0
    clear wr wl
    have hi1 : 0 ≤ ((49 + M : Nat) : Int) ∧ ((49 + M : Nat) : Int) < 85 := by omega
    have hi2 : 0 ≤ ((17 + M : Nat) : Int) ∧ ((17 + M : Nat) : Int) < 145 := by omega
    have hi3 : 0 ≤ ((61 + M : Nat) : Int) ∧ ((61 + M : Nat) : Int) < 145 := by omega
    obtain ⟨g0, b1, b2, b3⟩ := m_begins1 hK hM
    have hC1 : KCg m KD ST LN VL σ0 i (kst σ 13 (kup (σ 13) 2 ((M + 1 : Nat) : Int))) := hC.put (by decide)
    have hadv := c_adv hC1.1 hK.m7 hi
    have hC2 := hC1.ad
    have e23 : kst μ 0 g0 0 23 = (M : Int) := by rw [kst_eq, b2 23 (by decide), f3]
    have hcl : ∀ (r : Int) (s σ2 σ3 σ4 : kM), pf_Parser_takeNumber_12 (cAd (kst σ 13 (kup (σ 13) 2 ((M + 1 : Nat) : Int))) i) 0 99 = some (r, s) → pf_Parser_takeLine_12 (kst s 23 (kup (s 23) (49 + M) r)) (M : Int) = some σ2 → kloop (fun st => pf_Parser_takePoet_12_l71 st.1 (M : Int) st.2) kFuel (σ2, 0) = some σ3 → pf_Parser_takeSign_12 σ3 59 = some σ4 → pf_Parser_takePoet_12 σ = some σ4 := by
      intro r s σ2 σ3 σ4 q1 q2 q3 q4
      unfold pf_Parser_takePoet_12
      rw [if_pos hc1, klet_eq, klet_eq, e3, (po_w (l := 0) hM4 (by decide)).2.2.2.1, kbind_eq hadv, kbind_eq q1]
      show kchk _ _ = _
      rw [(po_w (l := 0) hM4 (by decide)).2.2.1.1, kchk_t hi1, klet_eq, Int.toNat_natCast, kbind_eq q2, kbind_eq q3, kbind_eq q4]
    have hml : ∀ (r : Int) (s μ3 μ4 : kM) (ex : kM ⊕ kM × Int), mm_number (kst μ 0 g0) 0 99 = some (r, s) → kloop (fun st => mm_readsPoet_l25 st.1 (M : Int) st.2.1 st.2.2) kFuel (kst s 4 (kup (s 4) (17 + M) r), 0, 1) = some ex → (match ex with
        | (Sum.inl σ_25) => some σ_25
        | (Sum.inr (σ_26, x2_27)) =>
          klet (kst σ_26 4 (kup (σ_26 4) (61 + M) x2_27)) fun σ_29 => (mm_isGood σ_29).bind fun r_30 => if r_30 = 0 then some σ_29 else klet (kst σ_29 0 (kup (σ_29 0) 23 (w32 ((σ_29 0 23) + 1)))) fun σ_31 => some σ_31) = some μ3 → mm_clause_j212 μ3 = some μ4 → (if μ 0 23 = 4 then mm_clause_j60 μ 1 else mm_clause_j60 μ 0) = some μ4 := by
      intro r s μ3 μ4 ex q1 q2 q3 q4
      have q5 : mm_readsPoet (kst μ 0 g0) = some μ3 := by
        unfold mm_readsPoet
        rw [klet_eq, kbind_eq q1]
        show kchk _ _ = _
        rw [e23, (po_w (l := 0) hM4 (by decide)).2.2.1.2.1, kchk_t hi2, klet_eq, Int.toNat_natCast, kbind_eq q2]
        rw [(po_w (l := 0) hM4 (by decide)).2.2.1.2.2, Int.toNat_natCast]
        cases ex with
        | inl a => exact q3
        | inr a =>
          obtain ⟨a1, a2⟩ := a
          show kchk _ _ = _
          rw [kchk_t hi3]
          exact q3
      unfold mm_clause_j60
      rw [if_neg hc2, kbind_eq b1]
      show (if (1 : Int) = 0 then _ else _) = _
      rw [if_neg (by decide), kbind_eq q5]
      exact q4
    obtain ⟨kf, ekf, hkf⟩ : ∃ k, kFuel = k + 1 ∧ 100 ≤ k := ⟨99999999, rfl, by decide⟩
    rcases s_num hK hi hC2 b3 0 99 with ⟨a1, a2, a3, a4, g, a5, a6, a7⟩ | ⟨f, p, v, a1, a2, a3, a4⟩
    · obtain ⟨-, -, v1, v2⟩ := a2
      generalize hv : VL (i + 1) = v0 at *
      have hS : PQ T n m KD ST LN VL σ0 μ0 σ μ tp M 0 (i + 1 + 1) v0 (kst (cAd (cAd (kst σ 13 (kup (σ 13) 2 ((M + 1 : Nat) : Int))) i) (i + 1)) 23 (kup ((cAd (cAd (kst σ 13 (kup (σ 13) 2 ((M + 1 : Nat) : Int))) i) (i + 1)) 23) (49 + M) v0)) (kst (kst (kst μ 0 g0) 0 g) 4 (kup ((kst (kst μ 0 g0) 0 g) 4) (17 + M) v0)) := by
        have c1 : ∀ c : Nat, c ≠ 24 → c ≠ 13 → (cAd (cAd (kst σ 13 (kup (σ 13) 2 ((M + 1 : Nat) : Int))) i) (i + 1)) c = σ c := fun c x y => by
          show kst (kst (kst σ 13 _) 24 _) 24 _ c = _
          rw [kst_ne x, kst_ne x, kst_ne y]
        have c13 : (cAd (cAd (kst σ 13 (kup (σ 13) 2 ((M + 1 : Nat) : Int))) i) (i + 1)) 13 = kup (σ 13) 2 ((M + 1 : Nat) : Int) := by
          show kst (kst (kst σ 13 _) 24 _) 24 _ 13 = _
          rw [kst_ne (by decide), kst_ne (by decide), kst_eq]
        have c4 : (kst (kst μ 0 g0) 0 g) 4 = μ 4 := by rw [kst_ne (by decide), kst_ne (by decide)]
        refine ⟨⟨a1, a4.put (by decide), a7.put (by decide)⟩, ⟨fun c hc => ?_, ?_, ?_, fun k => ?_, fun k => ?_⟩, ⟨?_, fun j hj => ?_⟩, ?_, fun k k1 _ _ => ?_, fun k k1 k2 => ?_, fun k k1 k2 => ?_⟩
        · rw [kst_ne (by omega), c1 c (by omega) (by omega)]
        · rw [kst_ne (by decide), c13]
        · rw [kst_ne (by decide), c1 14 (by decide) (by decide)]
          show σ 14 = kup (σ 14) M 0
          rw [← e14, kup_id]
        · rw [kst_ne (by decide), c1 16 (by decide) (by decide), if_neg (by omega)]
        · rw [kst_eq, c1 23 (by decide) (by decide), if_neg (by omega)]
          rfl
        · rw [kst_ne (by decide), kst_ne (by decide), kst_ne (by decide)]
        · rw [kst_ne (by decide), kst_eq, a6 j (by omega), kst_eq, b2 j (by omega)]
        · rw [kst_eq, kup_eq]
        · rw [kst_eq, kup_ne k1, c4]
        · omega
        · omega
      obtain ⟨σ2, q2, q3⟩ := po_line hK ⟨d1, d2⟩ hM4 (by decide) e1 f1 hS
      rcases q3 with ⟨μ2, q3, q4⟩ | ⟨μ2, f, p, q3, q4, q5⟩
      · obtain ⟨σ3, ex, r1, r2, r3⟩ := po_loop hK ⟨d1, d2⟩ hM4 e1 f1 5 0 (i + 1 + 1 + 2) σ2 μ2 kFuel kf (by decide) (kFuel_lt (by decide)) (by omega) q4
        have r2' : kloop (fun st => mm_readsPoet_l25 st.1 (M : Int) st.2.1 st.2.2) kFuel (kst (kst (kst μ 0 g0) 0 g) 4 (kup ((kst (kst μ 0 g0) 0 g) 4) (17 + M) v0), 0, 1) = some ex := by
          rw [ekf, ← r2]
          exact kloop_l q3
        rcases r3 with ⟨l', j', μ3, x1, x2, x3, x4⟩ | ⟨μ3, f, p, x1, x2, x3⟩
        · subst x1
          have hP := x4
          obtain ⟨⟨h1, h2, h3⟩, ⟨h4, h5, h6, h7, h8⟩, ⟨h9, h10⟩, -⟩ := x4
          have y1 : KMg T n μ0 j' (kst μ3 4 (kup (μ3 4) (61 + M) ((l' + 1 : Nat) : Int))) := h3.put (by decide)
          have y3 : KMg T n μ0 j' (kst (kst μ3 4 (kup (μ3 4) (61 + M) ((l' + 1 : Nat) : Int))) 0 (kup (kst μ3 4 (kup (μ3 4) (61 + M) ((l' + 1 : Nat) : Int)) 0) 23 ((M + 1 : Nat) : Int))) := y1.put0 (by decide)
          have e0 : kst μ3 4 (kup (μ3 4) (61 + M) ((l' + 1 : Nat) : Int)) 0 = μ3 0 := kst_ne (by decide)
          have y2 : (klet (kst μ3 4 (kup (μ3 4) (61 + M) ((l' + 1 : Nat) : Int))) fun σ_29 => (mm_isGood σ_29).bind fun r_30 => if r_30 = 0 then some σ_29 else klet (kst σ_29 0 (kup (σ_29 0) 23 (w32 ((σ_29 0 23) + 1)))) fun σ_31 => some σ_31) = some (kst (kst μ3 4 (kup (μ3 4) (61 + M) ((l' + 1 : Nat) : Int))) 0 (kup (kst μ3 4 (kup (μ3 4) (61 + M) ((l' + 1 : Nat) : Int)) 0) 23 ((M + 1 : Nat) : Int))) := by
            rw [klet_eq, kbind_eq (m_isGood1 y1.2.1.1), if_neg (by decide), klet_eq, e0, h10 23 (by decide), f3, (po_w (l := 0) hM4 (by decide)).2.2.2.1]
          rw [e0] at y2 y3
          rcases s_end hK h1 h2 y3 with ⟨u1, u2, u3, g', u4, u5, u6⟩ | ⟨f, p, u1, u2, u3, u4⟩
          · refine ⟨_, _, hcl _ _ _ _ _ a3 q2 r1 u2, hml _ _ _ _ _ a5 r2' y2 u4, Or.inl ⟨j' + 1, N, M + 1, tp, C, R, PH, PF, PB, by omega, u1, u3, u6, hR.keep (by omega) (fun c hc => ?_) ?_ (fun j hj => ?_), ?_⟩⟩
            · show kst σ3 24 _ c = _
              rw [kst_ne (by omega)]
              exact h4 c (by omega)
            · rw [kst_ne (by decide), kst_ne (by decide), kst_ne (by decide)]
              exact h9
            · rw [kst_eq, u5 j (by omega), kst_eq, kup_ne (by omega)]
              exact h10 j (by omega)
            · refine DW.poet (l := l' + 1) hW0 hM4 ⟨v1, v2⟩ ⟨by omega, by omega⟩ hP (fun c hc => ?_) ?_ ?_ ?_ ?_
              · show kst σ3 24 _ c = _
                rw [kst_ne (by omega)]
              · rw [kst_ne (by decide), kst_ne (by decide), kst_eq]
              · rw [kst_eq, u5 21 (by decide), kst_eq, kup_ne (by decide)]
              · rw [kst_eq, u5 22 (by decide), kst_eq, kup_ne (by decide)]
              · rw [kst_eq, u5 23 (by decide), kst_eq, kup_eq]
          · exact ⟨_, _, hcl _ _ _ _ _ a3 q2 r1 u1, hml _ _ _ _ _ a5 r2' y2 u3, Or.inr ⟨f, p, u2, u4⟩⟩
        · subst x1
          exact ⟨_, _, hcl _ _ _ _ _ a3 q2 r1 (cf_sign hK x2.1 59), hml _ _ _ _ _ a5 r2' rfl (mx_end x3), Or.inr ⟨f, p, x2, x3⟩⟩
      · have r1 : kloop (fun st => pf_Parser_takePoet_12_l71 st.1 (M : Int) st.2) kFuel (σ2, 0) = some σ2 := by
          rw [ekf]
          exact cx_po hK q4 0
        have r2' : kloop (fun st => mm_readsPoet_l25 st.1 (M : Int) st.2.1 st.2.2) kFuel (kst (kst (kst μ 0 g0) 0 g) 4 (kup ((kst (kst μ 0 g0) 0 g) 4) (17 + M) v0), 0, 1) = some (.inl μ2) := by
          rw [ekf]
          exact kloop_r q3
        exact ⟨_, _, hcl _ _ _ _ _ a3 q2 r1 (cf_sign hK q4.1 59), hml _ _ _ _ _ a5 r2' rfl (mx_end q5), Or.inr ⟨f, p, q4, q5⟩⟩
    · have z1 : cxS m KD ST LN VL σ0 f p (kst (cRf (cAd (kst σ 13 (kup (σ 13) 2 ((M + 1 : Nat) : Int))) i) m f p) 23 (kup ((cRf (cAd (kst σ 13 (kup (σ 13) 2 ((M + 1 : Nat) : Int))) i) m f p) 23) (49 + M) 0)) := a2.put (by decide)
      obtain ⟨σ2, q2, q4⟩ := cx_line hK (l := 0) hM4 (by decide) z1 (by
        rw [kst_ne (by decide)]
        show kst (kst (kst (kst σ 13 _) 24 _) 12 _) 24 _ 14 M = _
        rw [kst_ne (by decide), kst_ne (by decide), kst_ne (by decide), kst_ne (by decide), e14]
        rfl)
      have r1 : kloop (fun st => pf_Parser_takePoet_12_l71 st.1 (M : Int) st.2) kFuel (σ2, 0) = some σ2 := by
        rw [ekf]
        exact cx_po hK q4 0
      have z2 : mxS μ0 f p (kst (mWr (kst μ 0 g0) f p) 4 (kup ((mWr (kst μ 0 g0) f p) 4) (17 + M) v)) := a4.put (by decide)
      have r2' : kloop (fun st => mm_readsPoet_l25 st.1 (M : Int) st.2.1 st.2.2) kFuel (kst (mWr (kst μ 0 g0) f p) 4 (kup ((mWr (kst μ 0 g0) f p) 4) (17 + M) v), 0, 1) = some (.inr (kst (mWr (kst μ 0 g0) f p) 4 (kup ((mWr (kst μ 0 g0) f p) 4) (17 + M) v), 0)) := by
        rw [ekf]
        refine kloop_r ?_
        show mm_readsPoet_l25 _ (M : Int) 0 1 = _
        unfold mm_readsPoet_l25
        rw [if_neg (by decide), kbind_eq (m_isGood0 z2.bad), if_pos rfl]
      have z3 := z2.put (c := 4) (g := kup ((kst (mWr (kst μ 0 g0) f p) 4 (kup ((mWr (kst μ 0 g0) f p) 4) (17 + M) v)) 4) (61 + M) 0) (by decide)
      exact ⟨_, _, hcl _ _ _ _ _ a1 q2 r1 (cf_sign hK q4.1 59), hml _ _ _ _ _ a3 r2' (by
        show (klet _ _) = _
        rw [klet_eq, kbind_eq (m_isGood0 z3.bad), if_pos rfl]) (mx_end z3), Or.inr ⟨f, p, q4, z3⟩⟩
end PO4

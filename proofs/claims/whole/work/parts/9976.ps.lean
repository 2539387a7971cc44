/-! state: parsing, from its start to its end -/
section PSS
variable {T : Nat → Int} {n m : Nat} {KD ST LN VL : Nat → Int} {σ0 μ0 σ μ : kM} {i : Nat}
theorem c_clear : ∃ σ', pf_Law_clear_13 σ = some σ' ∧ (∀ c : Nat, c ≠ 13 → c ≠ 14 → c ≠ 17 → c ≠ 19 → c ≠ 20 → σ' c = σ c) ∧ (σ' 13 0 = 3 ∧ σ' 13 1 = 0 ∧ σ' 13 2 = 0) ∧ (∀ w : Nat, w < 4 → σ' 14 w = 0) ∧ σ' 17 1 = 0 ∧ ∀ r : Nat, r < 3 → σ' 19 r = 0 ∧ σ' 20 r = 0 := by
  obtain ⟨σ1, a1, a2, a3, a4⟩ := kl_M (body := fun st => pf_Law_clear_13_l17 st.1 st.2) (fun i σ1 => (∀ c : Nat, c ≠ 13 → c ≠ 14 → σ1 c = σ c) ∧ (σ1 13 0 = 3 ∧ σ1 13 1 = 0 ∧ σ1 13 2 = 0) ∧ ∀ w : Nat, w < i → σ1 14 w = 0) (fun i => (i : Int)) 4 (by decide) (fun i σ1 hi hs => by
    have c1 : ¬ 4 ≤ (i : Int) := by omega
    have c2 : 0 ≤ (i : Int) ∧ (i : Int) < 4 := by omega
    refine ⟨kst σ1 14 (kup (σ1 14) i 0), ?_, fun c x y => ?_, ?_, fun w hw => ?_⟩
    · show pf_Law_clear_13_l17 σ1 (i : Int) = _
      unfold pf_Law_clear_13_l17
      rw [if_neg c1, kchk_t c2, klet_eq, klet_eq, Int.toNat_natCast, kw_inc (i := i) (by omega)]
    · rw [kst_ne y]
      exact hs.1 c x y
    · rw [kst_ne (by decide)]
      exact hs.2.1
    · rw [kst_eq]
      by_cases e : w = i
      · rw [e, kup_eq]
      · rw [kup_ne e]
        exact hs.2.2 w (by omega)) (fun σ1 hs => by
    refine ⟨σ1, ?_, hs⟩
    show pf_Law_clear_13_l17 σ1 ((4 : Nat) : Int) = _
    unfold pf_Law_clear_13_l17
    rw [if_pos (by decide)]) (σ := kst σ 13 (kup (kup (kup (σ 13) 0 3) 1 0) 2 0)) ⟨fun c x y => by rw [kst_ne x], by rw [kst_eq, kup_ne (by decide), kup_ne (by decide), kup_eq, kup_ne (by decide), kup_eq, kup_eq]; exact ⟨rfl, rfl, rfl⟩, fun w hw => absurd hw (Nat.not_lt_zero w)⟩ (b0 := 0) rfl
  obtain ⟨σ2, b1, b2, b3, b4⟩ := kl_M (body := fun st => pf_Rules_clear_17_l7 st.1 st.2) (fun i σ2 => (∀ c : Nat, c ≠ 17 → c ≠ 19 → c ≠ 20 → σ2 c = σ1 c) ∧ σ2 17 1 = 0 ∧ ∀ r : Nat, r < i → σ2 19 r = 0 ∧ σ2 20 r = 0) (fun i => (i : Int)) 3 (by decide) (fun i σ2 hi hs => by
    have c1 : ¬ 3 ≤ (i : Int) := by omega
    have c2 : 0 ≤ (i : Int) ∧ (i : Int) < 3 := by omega
    refine ⟨kst (kst σ2 19 (kup (σ2 19) i 0)) 20 (kup (σ2 20) i 0), ?_, fun c x y z => ?_, ?_, fun r hr => ?_⟩
    · show pf_Rules_clear_17_l7 σ2 (i : Int) = _
      unfold pf_Rules_clear_17_l7
      rw [if_neg c1, kchk_t c2, klet_eq, kchk_t c2, klet_eq, klet_eq, Int.toNat_natCast, kw_inc (i := i) (by omega), kst_ne (show (20 : Nat) ≠ 19 by decide)]
    · rw [kst_ne z, kst_ne y]
      exact hs.1 c x y z
    · rw [kst_ne (by decide), kst_ne (by decide)]
      exact hs.2.1
    · rw [kst_ne (show (19 : Nat) ≠ 20 by decide), kst_eq, kst_eq]
      by_cases e : r = i
      · rw [e, kup_eq, kup_eq]
        exact ⟨rfl, rfl⟩
      · rw [kup_ne e, kup_ne e]
        exact hs.2.2 r (by omega)) (fun σ2 hs => by
    refine ⟨σ2, ?_, hs⟩
    show pf_Rules_clear_17_l7 σ2 ((3 : Nat) : Int) = _
    unfold pf_Rules_clear_17_l7
    rw [if_pos (by decide)]) (σ := kst σ1 17 (kup (σ1 17) 1 0)) ⟨fun c x _ _ => by rw [kst_ne x], by rw [kst_eq, kup_eq], fun w hw => absurd hw (Nat.not_lt_zero w)⟩ (b0 := 0) rfl
  refine ⟨σ2, ?_, fun c x1 x2 x3 x4 x5 => ?_, ?_, fun w hw => ?_, b3, b4⟩
  · unfold pf_Law_clear_13 pf_Rules_clear_17
    rw [klet_eq, klet_eq, klet_eq, kst_eq, kst_st, kst_eq, kst_st, kbind_eq a1, klet_eq, kbind_eq (kbind_eq b1)]
  · rw [b2 c x3 x4 x5]
    exact a2 c x1 x2
  · rw [b2 13 (by decide) (by decide) (by decide)]
    exact a3
  · rw [b2 14 (by decide) (by decide) (by decide)]
    exact a4 w hw
theorem c_clearW : ∃ σ', pf_World_clear_22 σ = some σ' ∧ (∀ c : Nat, c ≠ 23 → σ' c = σ c) ∧ ∀ k : Nat, k < 85 → σ' 23 k = 0 := by
  obtain ⟨σ1, a1, a2, a3⟩ := kl_M (body := fun st => pf_World_clear_22_l2 st.1 st.2) (fun i σ1 => (∀ c : Nat, c ≠ 23 → σ1 c = σ c) ∧ ∀ k : Nat, k < i → σ1 23 k = 0) (fun i => (i : Int)) 85 (by decide) (fun i σ1 hi hs => by
    have c1 : ¬ 85 ≤ (i : Int) := by omega
    have c2 : 0 ≤ (i : Int) ∧ (i : Int) < 85 := by omega
    refine ⟨kst σ1 23 (kup (σ1 23) i 0), ?_, fun c x => ?_, fun w hw => ?_⟩
    · show pf_World_clear_22_l2 σ1 (i : Int) = _
      unfold pf_World_clear_22_l2
      rw [if_neg c1, kchk_t c2, klet_eq, klet_eq, Int.toNat_natCast, kw_inc (i := i) (by omega)]
    · rw [kst_ne x]
      exact hs.1 c x
    · rw [kst_eq]
      by_cases e : w = i
      · rw [e, kup_eq]
      · rw [kup_ne e]
        exact hs.2 w (by omega)) (fun σ1 hs => by
    refine ⟨σ1, ?_, hs⟩
    show pf_World_clear_22_l2 σ1 ((85 : Nat) : Int) = _
    unfold pf_World_clear_22_l2
    rw [if_pos (by decide)]) (σ := σ) ⟨fun c x => rfl, fun w hw => absurd hw (Nat.not_lt_zero w)⟩ (b0 := 0) rfl
  refine ⟨σ1, ?_, a2, a3⟩
  unfold pf_World_clear_22
  rw [kbind_eq a1]
theorem m_clear : ∃ μ', kloop (fun st => mm_state_l89 st.1 st.2) kFuel (μ, 0) = some μ' ∧ (∀ c : Nat, c ≠ 4 → μ' c = μ c) ∧ ∀ k : Nat, k < 145 → μ' 4 k = 0 := by
  obtain ⟨σ1, a1, a2, a3⟩ := kl_M (body := fun st => mm_state_l89 st.1 st.2) (fun i σ1 => (∀ c : Nat, c ≠ 4 → σ1 c = μ c) ∧ ∀ k : Nat, k < i → σ1 4 k = 0) (fun i => (i : Int)) 145 (by decide) (fun i σ1 hi hs => by
    have c1 : ¬ 145 ≤ (i : Int) := by omega
    have c2 : 0 ≤ (i : Int) ∧ (i : Int) < 145 := by omega
    refine ⟨kst σ1 4 (kup (σ1 4) i 0), ?_, fun c x => ?_, fun w hw => ?_⟩
    · show mm_state_l89 σ1 (i : Int) = _
      unfold mm_state_l89
      rw [if_neg c1, kchk_t c2, klet_eq, klet_eq, Int.toNat_natCast, kw_inc (i := i) (by omega)]
    · rw [kst_ne x]
      exact hs.1 c x
    · rw [kst_eq]
      by_cases e : w = i
      · rw [e, kup_eq]
      · rw [kup_ne e]
        exact hs.2 w (by omega)) (fun σ1 hs => by
    refine ⟨σ1, ?_, hs⟩
    show mm_state_l89 σ1 ((145 : Nat) : Int) = _
    unfold mm_state_l89
    rw [if_pos (by decide)]) (σ := μ) ⟨fun c x => rfl, fun w hw => absurd hw (Nat.not_lt_zero w)⟩ (b0 := 0) rfl
  exact ⟨σ1, a1, a2, a3⟩
/-- nothing is told -/
theorem DW.zero {tp : Nat} (ht : 2 ≤ tp ∧ tp ≤ 4) (h13 : σ 13 0 = (tp : Int) ∧ σ 13 1 = 0 ∧ σ 13 2 = 0) (h14 : ∀ w : Nat, w < 4 → σ 14 w = 0) (h23 : ∀ k : Nat, k < 85 → σ 23 k = 0) (h0 : μ 0 21 = (tp : Int) ∧ μ 0 22 = 0 ∧ μ 0 23 = 0) (h4 : ∀ k : Nat, k < 145 → μ 4 k = 0) : DW 0 0 tp σ μ := by
  refine ⟨⟨ht.1, ht.2, by decide, by decide⟩, h13, h0, fun k hk ho => ?_, fun k hk => ?_, fun w hw => ⟨fun x => absurd x (Nat.not_lt_zero w), fun _ => h4 _ (by omega)⟩⟩
  · rw [h4 k hk]
    obtain ⟨o1, o2⟩ := ho
    unfold vP
    by_cases x1 : k < 17
    · rw [if_pos x1, h23 k (by omega)]
    rw [if_neg x1]
    by_cases x2 : k < 29
    · rw [if_pos x2, h23 _ (by omega)]
    rw [if_neg x2]
    by_cases x3 : k < 61
    · rw [if_pos x3, h23 _ (by omega)]
    rw [if_neg x3]
    by_cases x4 : k < 65
    · rw [if_pos x4, h14 _ (by omega)]
    rw [if_neg x4]
    by_cases x5 : k < 89
    · have hq := (o1 (by omega) x5).1
      exact absurd hq (by omega)
    rw [if_neg x5]
    by_cases x6 : k < 113
    · rw [if_pos x6, h23 _ (by omega)]
    · have hq := (o2 (by omega)).1
      exact absurd hq (by omega)
  · rw [h4 k hk]
    unfold nbd
    omega
theorem DR.zero {j : Nat} (h17 : σ 17 1 = 0) (h19 : ∀ r : Nat, r < 3 → σ 19 r = 0 ∧ σ 20 r = 0) (h27 : μ 0 27 = 0) (h24 : μ 0 24 = -1 ∧ μ 0 25 = -1 ∧ μ 0 26 = -1) : DR j [] [] [] [] [] σ μ := by
  refine ⟨⟨h17, trivial, Nat.zero_le _⟩, ⟨h27, trivial, Nat.zero_le _⟩, ⟨Or.inl rfl, Or.inl ⟨rfl, (h19 0 (by decide)).1, (h19 0 (by decide)).2, h24.1⟩⟩, ⟨Or.inl rfl, Or.inl ⟨rfl, (h19 1 (by decide)).1, (h19 1 (by decide)).2, h24.2.1⟩⟩, Or.inl rfl, Or.inl ⟨rfl, (h19 2 (by decide)).1, (h19 2 (by decide)).2, h24.2.2⟩⟩
/-- the class from the first token on -/
def c_first (σ : kM) : Option (Int × kM) := (pf_Tokens_isWord_24 σ 0).bind fun r_6 => if r_6 = 0 then pf_Parser_parse_12_j71 σ else (pf_Tokens_advance_24 σ).bind fun σ_32 => (pf_Parser_takeNumber_12 σ_32 2 4).bind fun (r_33, σ_34) => klet (kst σ_34 13 (kup (σ_34 13) 0 r_33)) fun σ_35 => (pf_Parser_takeSign_12 σ_35 59).bind fun σ_36 => pf_Parser_parse_12_j71 σ_36
/-- the reference, up to its clauses' end -/
def m_first (μ : kM) : Option kM := (mm_knownWord μ).bind fun r_23 => if r_23 = 8 then (mm_goes μ).bind fun σ_52 => (mm_number σ_52 2 4).bind fun (r_53, σ_54) => klet (kst σ_54 0 (kup (σ_54 0) 21 r_53)) fun σ_55 => (mm_clause_j212 σ_55).bind fun σ_57 => kloop (fun st => mm_state_l151 st) kFuel σ_57 else kloop (fun st => mm_state_l151 st) kFuel μ
theorem s_first (hK : TKf T n m KD ST LN VL) (hC : KCg m KD ST LN VL σ0 0 σ) (hM : KMg T n μ0 0 μ) (h13 : σ 13 0 = 3 ∧ σ 13 1 = 0 ∧ σ 13 2 = 0) (h14 : ∀ w : Nat, w < 4 → σ 14 w = 0) (h17 : σ 17 1 = 0) (h19 : ∀ r : Nat, r < 3 → σ 19 r = 0 ∧ σ 20 r = 0) (h23 : ∀ k : Nat, k < 85 → σ 23 k = 0) (h21 : μ 0 21 = 3 ∧ μ 0 22 = 0 ∧ μ 0 23 = 0) (h24 : μ 0 24 = -1 ∧ μ 0 25 = -1 ∧ μ 0 26 = -1) (h27 : μ 0 27 = 0) (h4 : ∀ k : Nat, k < 145 → μ 4 k = 0) : ∃ σ' μ', c_first σ = some (σ' 12 3, σ') ∧ m_first μ = some μ' ∧ (OKs T n m KD ST LN VL σ0 μ0 m σ' μ' ∨ ∃ f p : Int, cxS m KD ST LN VL σ0 f p σ' ∧ mxS μ0 f p μ') := by
  have h7 := hK.m7
  have hts := hM.1.ts hK (Nat.zero_le m)
  obtain ⟨kf, ekf⟩ := kFuel_s
  have hw8 : kW KD VL 0 = 8 ↔ WD KD VL 0 0 := by
    unfold kW WD
    by_cases c : KD 0 = 2
    · obtain ⟨a, b⟩ := hK.wd (Nat.zero_le m) c
      obtain ⟨-, -, -, -, -, h6⟩ := wR_cl ⟨(VL 0).toNat, by omega⟩
      rw [if_pos c]
      exact h6.trans ⟨fun x => ⟨c, by have x : (VL 0).toNat = 0 := x; omega⟩, fun x => by show (VL 0).toNat = 0; omega⟩
    · rw [if_neg c]
      exact ⟨fun x => absurd x (by decide), fun x => absurd x.1 c⟩
  have j71 : ∀ s s' : kM, kloop (fun st => pf_Parser_parse_12_l73 st.1 st.2) kFuel (s, 0) = some s' → pf_Parser_parse_12_j71 s = some (s' 12 3, s') := by
    intro s s' e
    unfold pf_Parser_parse_12_j71
    rw [kbind_eq e]
  by_cases c : WD KD VL 0 0
  · have hm0 := WD.lt hK (Nat.zero_le m) c
    obtain ⟨g0, b1, b2, b3⟩ := hM.1.go hK
    have hM1 := hM.of b2 b3
    have hc : ∀ (r : Int) (s s2 s3 : kM), pf_Parser_takeNumber_12 (cAd σ 0) 2 4 = some (r, s) → pf_Parser_takeSign_12 (kst s 13 (kup (s 13) 0 r)) 59 = some s2 → kloop (fun st => pf_Parser_parse_12_l73 st.1 st.2) kFuel (s2, 0) = some s3 → c_first σ = some (s3 12 3, s3) := by
      intro r s s2 s3 q1 q2 q3
      unfold c_first
      rw [kbind_eq (c_isWord1 hK hC.1 h7 (Nat.zero_le m) (by decide) c), if_neg (by decide), kbind_eq (c_adv hC.1 h7 hm0), kbind_eq q1]
      show klet _ _ = _
      rw [klet_eq, kbind_eq q2]
      exact j71 _ _ q3
    have hm : ∀ (r : Int) (s s2 s3 : kM), mm_number (kst μ 0 g0) 2 4 = some (r, s) → mm_clause_j212 (kst s 0 (kup (s 0) 21 r)) = some s2 → kloop (fun st => mm_state_l151 st) kFuel s2 = some s3 → m_first μ = some s3 := by
      intro r s s2 s3 q1 q2 q3
      unfold m_first
      rw [kbind_eq hts.2.1, if_pos (hw8.mpr c), kbind_eq b1, kbind_eq q1]
      show klet _ _ = _
      rw [klet_eq, kbind_eq q2, q3]
    rcases s_num hK hm0 hC.ad hM1 2 4 with ⟨a1, a2, a3, a4, g, a5, a6, a7⟩ | ⟨f, p, v, a1, a2, a3, a4⟩
    · obtain ⟨-, -, v1, v2⟩ := a2
      have hC2 : KCg m KD ST LN VL σ0 (0 + 1 + 1) (kst (cAd (cAd σ 0) (0 + 1)) 13 (kup ((cAd (cAd σ 0) (0 + 1)) 13) 0 (VL (0 + 1)))) := a4.put (by decide)
      have hM2 : KMg T n μ0 (0 + 1 + 1) (kst (kst (kst μ 0 g0) 0 g) 0 (kup ((kst (kst μ 0 g0) 0 g) 0) 21 (VL (0 + 1)))) := a7.put0 (by decide)
      rcases s_end hK a1 hC2 hM2 with ⟨u1, u2, u3, g', u4, u5, u6⟩ | ⟨f, p, u1, u2, u3, u4⟩
      · have hcc : ∀ c : Nat, c ≠ 24 → c ≠ 13 → (cAd (kst (cAd (cAd σ 0) (0 + 1)) 13 (kup ((cAd (cAd σ 0) (0 + 1)) 13) 0 (VL (0 + 1)))) (0 + 1 + 1)) c = σ c := fun c x y => by
          show kst (kst (kst (kst σ 24 _) 24 _) 13 _) 24 _ c = _
          rw [kst_ne x, kst_ne y, kst_ne x, kst_ne x]
        have hc13 : (cAd (kst (cAd (cAd σ 0) (0 + 1)) 13 (kup ((cAd (cAd σ 0) (0 + 1)) 13) 0 (VL (0 + 1)))) (0 + 1 + 1)) 13 = kup (σ 13) 0 (VL (0 + 1)) := by
          show kst (kst (kst (kst σ 24 _) 24 _) 13 _) 24 _ 13 = _
          rw [kst_ne (by decide), kst_eq]
          show kup (kst (kst σ 24 _) 24 _ 13) 0 _ = _
          rw [kst_ne (by decide), kst_ne (by decide)]
        have hmc : ∀ c : Nat, c ≠ 0 → (kst (kst (kst (kst μ 0 g0) 0 g) 0 (kup ((kst (kst μ 0 g0) 0 g) 0) 21 (VL (0 + 1)))) 0 g') c = μ c := fun c x => by rw [kst_ne x, kst_ne x, kst_ne x, kst_ne x]
        have hm0' : ∀ j : Nat, 21 < j → (kst (kst (kst (kst μ 0 g0) 0 g) 0 (kup ((kst (kst μ 0 g0) 0 g) 0) 21 (VL (0 + 1)))) 0 g') 0 j = μ 0 j := fun j x => by rw [kst_eq, u5 j (by omega), kst_eq, kup_ne (by omega), kst_eq, a6 j (by omega), kst_eq, b2 j (by omega)]
        have hm21 : (kst (kst (kst (kst μ 0 g0) 0 g) 0 (kup ((kst (kst μ 0 g0) 0 g) 0) 21 (VL (0 + 1)))) 0 g') 0 21 = VL (0 + 1) := by rw [kst_eq, u5 21 (by decide), kst_eq, kup_eq]
        generalize (cAd (kst (cAd (cAd σ 0) (0 + 1)) 13 (kup ((cAd (cAd σ 0) (0 + 1)) 13) 0 (VL (0 + 1)))) (0 + 1 + 1)) = σ2 at *
        generalize (kst (kst (kst (kst μ 0 g0) 0 g) 0 (kup ((kst (kst μ 0 g0) 0 g) 0) 21 (VL (0 + 1)))) 0 g') = μ2 at *
        obtain ⟨tp, etp⟩ : ∃ tp : Nat, VL (0 + 1) = (tp : Int) := ⟨(VL (0 + 1)).toNat, (Int.toNat_of_nonneg (Int.le_trans (by decide) v1)).symm⟩
        rw [etp] at v1 v2 hc13 hm21
        have hOK : OKs T n m KD ST LN VL σ0 μ0 (0 + 1 + 1 + 1) σ2 μ2 := by
          refine ⟨0, 0, tp, [], [], [], [], [], u1, u3, u6, DR.zero ?_ (fun r hr => ?_) ?_ ?_, DW.zero ⟨by omega, by omega⟩ ⟨?_, ?_, ?_⟩ (fun w hw => ?_) (fun k hk => ?_) ⟨hm21, ?_, ?_⟩ (fun k hk => ?_)⟩
          · rw [hcc 17 (by decide) (by decide)]
            exact h17
          · rw [hcc 19 (by decide) (by decide), hcc 20 (by decide) (by decide)]
            exact h19 r hr
          · rw [hm0' 27 (by decide)]
            exact h27
          · rw [hm0' 24 (by decide), hm0' 25 (by decide), hm0' 26 (by decide)]
            exact h24
          · rw [hc13, kup_eq]
          · rw [hc13, kup_ne (by decide)]
            exact h13.2.1
          · rw [hc13, kup_ne (by decide)]
            exact h13.2.2
          · rw [hcc 14 (by decide) (by decide)]
            exact h14 w hw
          · rw [hcc 23 (by decide) (by decide)]
            exact h23 k hk
          · rw [hm0' 22 (by decide)]
            exact h21.2.1
          · rw [hm0' 23 (by decide)]
            exact h21.2.2
          · rw [hmc 4 (by decide)]
            exact h4 k hk
        obtain ⟨σ3, μ3, r1, r2, r3⟩ := s_clauses hK m (0 + 1 + 1 + 1) 0 σ2 μ2 kFuel kFuel (by omega) (kFuel_lt (by omega)) (kFuel_lt (by omega)) (Nat.zero_le _) hOK
        exact ⟨σ3, μ3, hc _ _ _ _ a3 u2 r1, hm _ _ _ _ a5 u4 r2, r3⟩
      · refine ⟨_, _, hc _ _ _ _ a3 u1 (by rw [ekf]; exact cx_clauses hK u2 0), hm _ _ _ _ a5 u3 (by rw [ekf]; exact mx_clauses u4), Or.inr ⟨f, p, u2, u4⟩⟩
    · have z1 : cxS m KD ST LN VL σ0 f p (kst (cRf (cAd σ 0) m f p) 13 (kup ((cRf (cAd σ 0) m f p) 13) 0 2)) := a2.put (by decide)
      have z2 : mxS μ0 f p (kst (mWr (kst μ 0 g0) f p) 0 (kup ((mWr (kst μ 0 g0) f p) 0) 21 v)) := a4.put0 (by decide)
      exact ⟨_, _, hc _ _ _ _ a1 (cf_sign hK z1.1 59) (by rw [ekf]; exact cx_clauses hK z1 0), hm _ _ _ _ a3 (mx_end z2) (by rw [ekf]; exact mx_clauses z2), Or.inr ⟨f, p, z1, z2⟩⟩
  · have hOK : OKs T n m KD ST LN VL σ0 μ0 0 σ μ := ⟨0, 0, 3, [], [], [], [], [], Nat.zero_le m, hC, hM, DR.zero h17 h19 h27 h24, DW.zero (by decide) h13 h14 h23 h21 h4⟩
    obtain ⟨σ3, μ3, r1, r2, r3⟩ := s_clauses hK m 0 0 σ μ kFuel kFuel (by omega) (kFuel_lt (by omega)) (kFuel_lt (by omega)) (Nat.zero_le _) hOK
    refine ⟨σ3, μ3, ?_, ?_, r3⟩
    · unfold c_first
      rw [kbind_eq (c_isWord0 hK hC.1 h7 (Nat.zero_le m) (by decide) c), if_pos rfl]
      exact j71 _ _ r1
    · unfold m_first
      rw [kbind_eq hts.2.1, if_neg (fun x => c (hw8.mp x)), r2]
end PSS

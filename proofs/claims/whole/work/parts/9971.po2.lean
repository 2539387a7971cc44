/-! state: a poet, line by line -/
/-- within a poet, so many lines behind -/
def PQ (T : Nat → Int) (n m : Nat) (KD ST LN VL : Nat → Int) (σ0 μ0 σ μ : kM) (tp w l j : Nat) (v0 : Int) (σ1 μ1 : kM) : Prop := (j ≤ m ∧ KCg m KD ST LN VL σ0 j σ1 ∧ KMg T n μ0 j μ1) ∧ ((∀ c : Nat, 17 ≤ c ∧ c ≤ 22 ∨ c = 15 → σ1 c = σ c) ∧ σ1 13 = kup (σ 13) 2 ((w + 1 : Nat) : Int) ∧ σ1 14 = kup (σ 14) w (l : Int) ∧ (∀ k : Nat, σ1 16 k = if 6 * w ≤ k ∧ k < 6 * w + l then μ1 4 (65 + k) else σ 16 k) ∧ ∀ k : Nat, σ1 23 k = if 61 + 6 * w ≤ k ∧ k < 61 + 6 * w + l then μ1 4 (28 + k) else if k = 49 + w then v0 else σ 23 k) ∧ (μ1 5 = μ 5 ∧ ∀ j : Nat, 21 ≤ j ∧ j ≤ 27 → μ1 0 j = μ 0 j) ∧ μ1 4 (17 + w) = v0 ∧ (∀ k : Nat, k ≠ 17 + w → ¬ (65 + 6 * w ≤ k ∧ k < 65 + 6 * w + l) → ¬ (89 + 6 * w ≤ k ∧ k < 89 + 6 * w + l) → μ1 4 k = μ 4 k) ∧ (∀ k : Nat, 65 + 6 * w ≤ k → k < 65 + 6 * w + l → 0 ≤ μ1 4 k ∧ μ1 4 k < (tp : Int)) ∧ ∀ k : Nat, 89 + 6 * w ≤ k → k < 89 + 6 * w + l → 0 ≤ μ1 4 k ∧ μ1 4 k ≤ 9
section PO2
variable {T : Nat → Int} {n m : Nat} {KD ST LN VL : Nat → Int} {σ0 μ0 σ μ : kM} {i : Nat}
theorem po_line (hK : TKf T n m KD ST LN VL) {tp w l j : Nat} {v0 : Int} {σ1 μ1 : kM} (ht : 2 ≤ tp ∧ tp ≤ 4) (hw : w < 4) (hl : l < 6) (h13 : σ 13 0 = (tp : Int)) (h21 : μ 0 21 = (tp : Int)) (h : PQ T n m KD ST LN VL σ0 μ0 σ μ tp w l j v0 σ1 μ1) : ∃ σ2, pf_Parser_takeLine_12 σ1 (w : Int) = some σ2 ∧ ((∃ μ2, mm_readsPoet_l25 μ1 (w : Int) (l : Int) 1 = some (.inl (μ2, ((l + 1 : Nat) : Int), if KD (j + 2) = 1 then 1 else 0)) ∧ PQ T n m KD ST LN VL σ0 μ0 σ μ tp w (l + 1) (j + 2) v0 σ2 μ2) ∨ ∃ (μ2 : kM) (f p : Int), mm_readsPoet_l25 μ1 (w : Int) (l : Int) 1 = some (.inr (.inl μ2)) ∧ cxS m KD ST LN VL σ0 f p σ2 ∧ mxS μ0 f p μ2) := by
  obtain ⟨⟨q1, q2, q3⟩, ⟨c1, c2, c3, c4, c5⟩, ⟨m1, m2⟩, n1, n2, n3, n4⟩ := h
  have e13 : σ1 13 0 = (tp : Int) := by rw [c2, kup_ne (by decide)]; exact h13
  have e21 : μ1 0 21 = (tp : Int) := by rw [m2 21 (by decide)]; exact h21
  have e14 : σ1 14 w = (l : Int) := by rw [c3, kup_eq]
  have hk := c_kind q2.1 hK.m7 q1
  have h1 : 0 ≤ (w : Int) ∧ (w : Int) < 4 := by omega
  have hl6 : (l : Int) < 6 := by omega
  have hl6' : ¬ (l : Int) = 6 := by omega
  have i1 : 0 ≤ ((65 + 6 * w + l : Nat) : Int) ∧ ((65 + 6 * w + l : Nat) : Int) < 145 := by omega
  have i2 : 0 ≤ ((89 + 6 * w + l : Nat) : Int) ∧ ((89 + 6 * w + l : Nat) : Int) < 145 := by omega
  have hl7 : l < 7 := Nat.lt_succ_of_lt hl
  have j33 : pf_Parser_takeLine_12 σ1 (w : Int) = pf_Parser_takeLine_12_j33 σ1 (w : Int) (l : Int) := by
    unfold pf_Parser_takeLine_12
    rw [kchk_t h1, klet_eq, kbind_eq hk, Int.toNat_natCast, e14]
    by_cases x : KD j = 1
    · rw [if_pos x, if_pos hl6]
    · rw [if_neg x]
  have j55 : mm_readsPoet_l25 μ1 (w : Int) (l : Int) 1 = mm_readsPoet_l25_j55 μ1 (w : Int) (l : Int) := by
    unfold mm_readsPoet_l25
    rw [if_neg (by decide), kbind_eq (m_isGood1 q3.2.1.1), if_neg (by decide), if_neg hl6']
  rw [j33, j55]
  rcases s_topic hK q1 q2 q3 ht e13 e21 with ⟨a1, a2, a3, a4, g, a5, a6, a7⟩ | ⟨f, p, v, a1, a2, a3, a4⟩
  · generalize hT : VL j = tv at *
    have e14' : (cAd σ1 j) 14 w = (l : Int) := by
      show kst σ1 24 _ 14 w = _
      rw [kst_ne (by decide)]
      exact e14
    have hadd := c_addLineN hw hl e14' tv
    have a4' : KCg m KD ST LN VL σ0 (j + 1) (kst (kst (cAd σ1 j) 16 (kup ((cAd σ1 j) 16) (6 * w + l) tv)) 14 (kup ((cAd σ1 j) 14) w ((l + 1 : Nat) : Int))) := (a4.put (by decide)).put (by decide)
    have d16 : (cAd σ1 j) 16 = σ1 16 := kst_ne (by decide)
    have d14 : (cAd σ1 j) 14 = σ1 14 := kst_ne (by decide)
    have dC : ∀ c : Nat, c ≠ 16 → c ≠ 14 → c ≠ 24 → (kst (kst (cAd σ1 j) 16 (kup ((cAd σ1 j) 16) (6 * w + l) tv)) 14 (kup ((cAd σ1 j) 14) w ((l + 1 : Nat) : Int))) c = σ1 c := fun c x y z => by
      rw [kst_ne y, kst_ne x]
      exact kst_ne z
    have d16' : (kst (kst (cAd σ1 j) 16 (kup ((cAd σ1 j) 16) (6 * w + l) tv)) 14 (kup ((cAd σ1 j) 14) w ((l + 1 : Nat) : Int))) 16 = kup (σ1 16) (6 * w + l) tv := by rw [kst_ne (by decide), kst_eq, d16]
    have d14' : (kst (kst (cAd σ1 j) 16 (kup ((cAd σ1 j) 16) (6 * w + l) tv)) 14 (kup ((cAd σ1 j) 14) w ((l + 1 : Nat) : Int))) 14 = kup (σ1 14) w ((l + 1 : Nat) : Int) := by rw [kst_eq, d14]
    have hj1 : j + 1 ≤ m := a1
    generalize (kst (kst (cAd σ1 j) 16 (kup ((cAd σ1 j) 16) (6 * w + l) tv)) 14 (kup ((cAd σ1 j) 14) w ((l + 1 : Nat) : Int))) = σ2 at *
    have mC : ∀ c : Nat, c ≠ 0 → (kst μ1 0 g) c = μ1 c := fun c x => kst_ne x
    have m0 : ∀ k : Nat, 20 < k → (kst μ1 0 g) 0 k = μ1 0 k := fun k x => by rw [kst_eq, a6 k (Or.inr x)]
    generalize kst μ1 0 g = μ2 at *
    rcases s_num hK hj1 a4' a7 0 9 with ⟨b1, ⟨-, -, b2, b2'⟩, b3, b4, g', b5, b6, b7⟩ | ⟨f, p, v, b1, b2, b3, b4⟩
    · generalize hD : VL (j + 1) = dv at *
      have hlast : (if (kst μ2 0 g') 0 15 = 2 then (1 : Int) else 0) = if KD (j + 2) = 1 then 1 else 0 := by
        have hs := (m_sort hK b1 (b7.1.ts hK b1)).1
        by_cases x : KD (j + 2) = 1
        · rw [if_pos x, if_pos (hs.mpr x)]
        · rw [if_neg x, if_neg (fun y => x (hs.mp y))]
      have m3C : ∀ c : Nat, c ≠ 0 → (kst μ2 0 g') c = μ1 c := fun c x => by rw [kst_ne x, mC c x]
      have m30 : ∀ k : Nat, 20 < k → (kst μ2 0 g') 0 k = μ1 0 k := fun k x => by rw [kst_eq, b6 k (Or.inr x), m0 k x]
      have cC : ∀ c : Nat, c ≠ 24 → (cAd σ2 (j + 1)) c = σ2 c := fun c x => kst_ne x
      generalize kst μ2 0 g' = μ3 at *
      generalize cAd σ2 (j + 1) = σ3 at *
      refine ⟨kst σ3 23 (kup (σ3 23) (61 + 6 * w + l) dv), ?_, Or.inl ⟨kst (kst μ3 4 (kup (μ3 4) (65 + 6 * w + l) tv)) 4 (kup (kup (μ3 4) (65 + 6 * w + l) tv) (89 + 6 * w + l) dv), ?_, ?_⟩⟩
      · unfold pf_Parser_takeLine_12_j33
        rw [kbind_eq a3]
        show (pf_Law_addLine_13 _ (w : Int) tv).bind _ = _
        rw [kbind_eq hadd, kbind_eq b3]
        show (pf_World_setDepth_22 _ (w : Int) (l : Int) dv).bind _ = _
        rw [kbind_eq (c_setDepthN hw hl dv)]
      · have e4 : kst (kst μ3 4 (kup (μ3 4) (65 + 6 * w + l) tv)) 4 (kup (kup (μ3 4) (65 + 6 * w + l) tv) (89 + 6 * w + l) dv) 0 15 = μ3 0 15 := by rw [kst_ne (by decide), kst_ne (by decide)]
        unfold mm_readsPoet_l25_j55
        rw [kbind_eq a5]
        show (mm_number _ 0 9).bind _ = _
        rw [kbind_eq b5]
        show (mm_isGood _).bind _ = _
        rw [kbind_eq (m_isGood1 b7.2.1.1), if_neg (by decide), (po_w hw hl7).2.1.1, kchk_t i1, klet_eq, (po_w hw hl7).2.1.2, kchk_t i2, klet_eq, klet_eq, Int.toNat_natCast, Int.toNat_natCast, (po_w hw hl7).2.2.2.2, kst_eq, e4, ← hlast]
        unfold mm_readsPoet_l25_j126
        by_cases x : μ3 0 15 = 2
        · rw [if_pos x, if_pos x]
        · rw [if_neg x, if_neg x]
      · rw [kst_st]
        refine ⟨⟨b1, b4.put (by decide), b7.put (by decide)⟩, ⟨fun c hc => ?_, ?_, ?_, fun k => ?_, fun k => ?_⟩, ⟨?_, fun k hk => ?_⟩, ?_, fun k k1 k2 k3 => ?_, fun k k1 k2 => ?_, fun k k1 k2 => ?_⟩
        · rw [kst_ne (by omega), cC c (by omega), dC c (by omega) (by omega) (by omega)]
          exact c1 c hc
        · rw [kst_ne (by decide), cC 13 (by decide), dC 13 (by decide) (by decide) (by decide)]
          exact c2
        · rw [kst_ne (by decide), cC 14 (by decide), d14', c3, kup_up]
        · rw [kst_ne (by decide), cC 16 (by decide), d16', kst_eq]
          by_cases x : k = 6 * w + l
          · rw [x, kup_eq, if_pos (by omega), kup_ne (by omega), show 65 + (6 * w + l) = 65 + 6 * w + l by omega, kup_eq]
          · rw [kup_ne x, c4 k]
            by_cases y : 6 * w ≤ k ∧ k < 6 * w + l
            · rw [if_pos y, if_pos (by omega), kup_ne (by omega), kup_ne (by omega), m3C 4 (by decide)]
            · rw [if_neg y, if_neg (by omega)]
        · rw [kst_eq, cC 23 (by decide), dC 23 (by decide) (by decide) (by decide), kst_eq]
          by_cases x : k = 61 + 6 * w + l
          · rw [x, kup_eq, if_pos (by omega), show 28 + (61 + 6 * w + l) = 89 + 6 * w + l by omega, kup_eq]
          · rw [kup_ne x, c5 k]
            by_cases y : 61 + 6 * w ≤ k ∧ k < 61 + 6 * w + l
            · rw [if_pos y, if_pos (by omega), kup_ne (by omega), kup_ne (by omega), m3C 4 (by decide)]
            · rw [if_neg y, if_neg (show ¬ (61 + 6 * w ≤ k ∧ k < 61 + 6 * w + (l + 1)) by omega)]
        · rw [kst_ne (by decide), m3C 5 (by decide)]
          exact m1
        · rw [kst_ne (by decide), m30 k (by omega)]
          exact m2 k hk
        · rw [kst_eq, kup_ne (by omega), kup_ne (by omega), m3C 4 (by decide)]
          exact n1
        · rw [kst_eq, kup_ne (by omega), kup_ne (by omega), m3C 4 (by decide)]
          exact n2 k k1 (by omega) (by omega)
        · rw [kst_eq, kup_ne (by omega)]
          by_cases x : k = 65 + 6 * w + l
          · rw [x, kup_eq]
            exact a2
          · rw [kup_ne x, m3C 4 (by decide)]
            exact n3 k k1 (by omega)
        · rw [kst_eq]
          by_cases x : k = 89 + 6 * w + l
          · rw [x, kup_eq]
            exact ⟨b2, b2'⟩
          · rw [kup_ne x, kup_ne (by omega), m3C 4 (by decide)]
            exact n4 k k1 (by omega)
    · refine ⟨_, ?_, Or.inr ⟨_, f, p, ?_, b2.put (c := 23) (g := kup ((cRf σ2 m f p) 23) (61 + 6 * w + l) 0) (by decide), b4⟩⟩
      · unfold pf_Parser_takeLine_12_j33
        rw [kbind_eq a3]
        show (pf_Law_addLine_13 _ (w : Int) tv).bind _ = _
        rw [kbind_eq hadd, kbind_eq b1]
        show (pf_World_setDepth_22 _ (w : Int) (l : Int) 0).bind _ = _
        rw [kbind_eq (c_setDepthN hw hl 0)]
      · unfold mm_readsPoet_l25_j55
        rw [kbind_eq a5]
        show (mm_number _ 0 9).bind _ = _
        rw [kbind_eq b3]
        show (mm_isGood _).bind _ = _
        rw [kbind_eq (m_isGood0 b4.bad), if_pos rfl]
  · have e14' : (cRf σ1 m f p) 14 w = (l : Int) := by
      show kst (kst σ1 12 _) 24 _ 14 w = _
      rw [kst_ne (by decide), kst_ne (by decide)]
      exact e14
    have hadd := c_addLineN hw hl e14' 0
    have h2 : cxS m KD ST LN VL σ0 f p (kst (kst (cRf σ1 m f p) 16 (kup ((cRf σ1 m f p) 16) (6 * w + l) 0)) 14 (kup ((cRf σ1 m f p) 14) w ((l + 1 : Nat) : Int))) := (a2.put (by decide)).put (by decide)
    refine ⟨_, ?_, Or.inr ⟨_, f, p, ?_, h2.put (c := 23) (g := kup ((kst (kst (cRf σ1 m f p) 16 (kup ((cRf σ1 m f p) 16) (6 * w + l) 0)) 14 (kup ((cRf σ1 m f p) 14) w ((l + 1 : Nat) : Int))) 23) (61 + 6 * w + l) 0) (by decide), a4⟩⟩
    · unfold pf_Parser_takeLine_12_j33
      rw [kbind_eq a1]
      show (pf_Law_addLine_13 _ (w : Int) 0).bind _ = _
      rw [kbind_eq hadd, kbind_eq (cf_number hK h2.1 0 9)]
      show (pf_World_setDepth_22 _ (w : Int) (l : Int) 0).bind _ = _
      rw [kbind_eq (c_setDepthN hw hl 0)]
    · unfold mm_readsPoet_l25_j55
      rw [kbind_eq a3]
      show (mm_number _ 0 9).bind _ = _
      rw [kbind_eq (m_numF a4.bad 0 9)]
      show (mm_isGood _).bind _ = _
      rw [kbind_eq (m_isGood0 a4.bad), if_pos rfl]
end PO2

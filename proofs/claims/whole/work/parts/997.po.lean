/-! state: a poet's lines -/
theorem po_w {w l : Nat} (hw : w < 4) (hl : l < 7) : (w32 (w32 ((w : Int) * 6) + (l : Int)) = ((6 * w + l : Nat) : Int) ∧ w32 (w32 (61 + w32 ((w : Int) * 6)) + (l : Int)) = ((61 + 6 * w + l : Nat) : Int)) ∧ (w32 (w32 (65 + w32 (6 * (w : Int))) + (l : Int)) = ((65 + 6 * w + l : Nat) : Int) ∧ w32 (w32 (89 + w32 (6 * (w : Int))) + (l : Int)) = ((89 + 6 * w + l : Nat) : Int)) ∧ (w32 (49 + (w : Int)) = ((49 + w : Nat) : Int) ∧ w32 (17 + (w : Int)) = ((17 + w : Nat) : Int) ∧ w32 (61 + (w : Int)) = ((61 + w : Nat) : Int)) ∧ w32 ((w : Int) + 1) = ((w + 1 : Nat) : Int) ∧ w32 ((l : Int) + 1) = ((l + 1 : Nat) : Int) := by
  have e1 : w32 ((w : Int) * 6) = (w : Int) * 6 := w32_s (by omega) (by omega)
  have e2 : w32 (6 * (w : Int)) = 6 * (w : Int) := w32_s (by omega) (by omega)
  rw [e1, e2]
  clear e1 e2
  have e3 : w32 (61 + (w : Int) * 6) = 61 + (w : Int) * 6 := w32_s (by omega) (by omega)
  have e4 : w32 (65 + 6 * (w : Int)) = 65 + 6 * (w : Int) := w32_s (by omega) (by omega)
  have e5 : w32 (89 + 6 * (w : Int)) = 89 + 6 * (w : Int) := w32_s (by omega) (by omega)
  rw [e3, e4, e5]
  clear e3 e4 e5
  refine ⟨⟨?_, ?_⟩, ⟨?_, ?_⟩, ⟨?_, ?_, ?_⟩, ?_, ?_⟩
  all_goals
    rw [w32_s (by omega) (by omega)]
    omega
theorem c_addLineN {σ : kM} {w l : Nat} (hw : w < 4) (hl : l < 6) (h : σ 14 w = (l : Int)) (t : Int) : pf_Law_addLine_13 σ (w : Int) t = some (kst (kst σ 16 (kup (σ 16) (6 * w + l) t)) 14 (kup (σ 14) w ((l + 1 : Nat) : Int))) := by
  have h1 : 0 ≤ (w : Int) ∧ (w : Int) < 4 := by omega
  have h2 : 0 ≤ ((6 * w + l : Nat) : Int) ∧ ((6 * w + l : Nat) : Int) < 24 := by omega
  have h3 : ¬ 6 ≤ (l : Int) := by omega
  unfold pf_Law_addLine_13
  rw [kchk_t h1, Int.toNat_natCast, h, if_neg h3, kchk_t h1, (po_w hw (Nat.lt_succ_of_lt hl)).1.1, kchk_t h2, klet_eq, kchk_t h1, kchk_t h1, klet_eq, Int.toNat_natCast, kst_ne (show (14 : Nat) ≠ 16 by decide), h, (po_w hw (Nat.lt_succ_of_lt hl)).2.2.2.2]
theorem c_setDepthN {σ : kM} {w l : Nat} (hw : w < 4) (hl : l < 6) (v : Int) : pf_World_setDepth_22 σ (w : Int) (l : Int) v = some (kst σ 23 (kup (σ 23) (61 + 6 * w + l) v)) := by
  have h2 : 0 ≤ ((61 + 6 * w + l : Nat) : Int) ∧ ((61 + 6 * w + l : Nat) : Int) < 85 := by omega
  have h3 : ¬ 6 ≤ (l : Int) := by omega
  unfold pf_World_setDepth_22
  rw [if_neg h3, (po_w hw (Nat.lt_succ_of_lt hl)).1.2, kchk_t h2, klet_eq, Int.toNat_natCast]
section POS
variable {T : Nat → Int} {n m : Nat} {KD ST LN VL : Nat → Int} {σ0 μ0 σ μ : kM} {i : Nat}
theorem mx_topic (h : ¬ μ 0 10 = 0) : mm_topicHere μ = some (0, μ) := by
  unfold mm_topicHere
  rw [kbind_eq (m_isGood0 h), if_pos rfl]
theorem cx_topic (hK : TKf T n m KD ST LN VL) {f p : Int} (h : CFt m KD ST LN VL f p σ) : pf_Parser_takeTopic_12 σ = some (0, σ) := by
  have hk := c_kind h.1 hK.m7 (Nat.le_refl _)
  rw [hK.2.2.2.2.1] at hk
  unfold pf_Parser_takeTopic_12 pf_Parser_takeTopic_12_j26 pf_Parser_takeTopic_12_j27 pf_Parser_takeTopic_12_j56
  rw [kbind_eq hk, if_neg (by decide), if_pos rfl, kbind_eq (cf_number hK h 0 _)]
/-- a topic, in both -/
theorem s_topic (hK : TKf T n m KD ST LN VL) (hi : i ≤ m) (hC : KCg m KD ST LN VL σ0 i σ) (hM : KMg T n μ0 i μ) {tp : Nat} (ht : 2 ≤ tp ∧ tp ≤ 4) (h13 : σ 13 0 = (tp : Int)) (h21 : μ 0 21 = (tp : Int)) :
    (i < m ∧ (0 ≤ VL i ∧ VL i < (tp : Int)) ∧ pf_Parser_takeTopic_12 σ = some (VL i, cAd σ i) ∧ KCg m KD ST LN VL σ0 (i + 1) (cAd σ i) ∧ ∃ g, mm_topicHere μ = some (VL i, kst μ 0 g) ∧ (∀ j : Nat, j < 14 ∨ 20 < j → g j = μ 0 j) ∧ KMg T n μ0 (i + 1) (kst μ 0 g)) ∨
    (∃ f p v : Int, pf_Parser_takeTopic_12 σ = some (0, cRf σ m f p) ∧ cxS m KD ST LN VL σ0 f p (cRf σ m f p) ∧ mm_topicHere μ = some (v, mWr μ f p) ∧ mxS μ0 f p (mWr μ f p)) := by
  have hk := c_kind hC.1 hK.m7 hi
  have hts := hM.1.ts hK hi
  have hsr := m_sort hK hi hts
  have ew : w32 ((tp : Int) - 1) = (tp : Int) - 1 := w32_s (by omega) (by omega)
  have e57 : ∀ f : Int, f ≠ 0 → mm_topicHere_j57 (mWr μ f (ST i)) = some (μ 0 18, mWr μ f (ST i)) := by
    intro f hf
    have hx := hM.wr (x := f) (p := ST i) hf
    unfold mm_topicHere_j57
    rw [klet_eq, kbind_eq (m_isGood0 hx.bad), if_pos rfl]
    show some (kst μ 0 _ 0 18, _) = _
    rw [kst_eq, kup_ne (by decide), kup_ne (by decide)]
  have hg := m_isGood1 hM.2.1.1
  by_cases k1 : KD i = 1
  · obtain ⟨b1, b2, b3⟩ := hts.2.2.2.1 k1
    by_cases l4 : LN i ≤ 4
    · obtain ⟨v1, v2⟩ := hK.nm hi k1 l4
      have b3 := b3 l4
      have l4' : ¬ 4 < LN i := by omega
      by_cases vt : VL i < (tp : Int)
      · have him := KD1.lt hK hi k1
        have hv : VL i ≤ (tp : Int) - 1 := by omega
        obtain ⟨g, a, b, d⟩ := hM.1.go hK
        refine Or.inl ⟨him, ⟨v1, vt⟩, ?_, hC.ad, g, ?_, b, hM.of b d⟩
        · unfold pf_Parser_takeTopic_12 pf_Parser_takeTopic_12_j27 pf_Parser_takeTopic_12_j56
          rw [kbind_eq hk, if_pos k1, kbind_eq (c_length hC.1 hK.m7 hi), if_neg l4', if_neg (by decide), kbind_eq (c_number hC.1 hK.m7 hi), h13, if_pos vt, ew, kbind_eq (c_num1 hK hC.1 him ⟨k1, l4, v1, hv⟩)]
        · unfold mm_topicHere mm_topicHere_j57
          rw [kbind_eq hg, if_neg (by decide), if_pos b1, b2, if_pos l4, b3, h21, if_pos vt, klet_eq, kbind_eq hg, if_neg (by decide), kbind_eq a]
      · refine Or.inr ⟨3, ST i, VL i, ?_, hC.rf (by decide), ?_, hM.wr (by decide)⟩
        · unfold pf_Parser_takeTopic_12 pf_Parser_takeTopic_12_j27
          rw [kbind_eq hk, if_pos k1, kbind_eq (c_length hC.1 hK.m7 hi), if_neg l4', if_neg (by decide), kbind_eq (c_number hC.1 hK.m7 hi), h13, if_neg vt, kbind_eq (c_refuse hC.1 hK.m7 hi hC.2.1.1 3)]
        · unfold mm_topicHere
          rw [kbind_eq hg, if_neg (by decide), if_pos b1, b2, if_pos l4, b3, h21, if_neg vt, kbind_eq (m_wrong hts hM.2.1.1 3)]
          exact (e57 3 (by decide)).trans (by rw [b3])
    · have l4' : 4 < LN i := by omega
      have hn := c_num0 hK hC.1 hi hC.2.1.1 (x := 0) (y := (tp : Int) - 1) (fun x => l4 x.2.1)
      rw [if_pos k1] at hn
      refine Or.inr ⟨2, ST i, μ 0 18, ?_, hC.rf (by decide), ?_, hM.wr (by decide)⟩
      · unfold pf_Parser_takeTopic_12 pf_Parser_takeTopic_12_j26 pf_Parser_takeTopic_12_j27 pf_Parser_takeTopic_12_j56
        rw [kbind_eq hk, if_pos k1, kbind_eq (c_length hC.1 hK.m7 hi), if_pos l4', if_pos rfl, h13, ew, kbind_eq hn]
      · unfold mm_topicHere
        rw [kbind_eq hg, if_neg (by decide), if_pos b1, b2, if_neg l4, kbind_eq (m_wrong hts hM.2.1.1 2)]
        exact e57 2 (by decide)
  · have hn := c_num0 hK hC.1 hi hC.2.1.1 (x := 0) (y := (tp : Int) - 1) (fun x => k1 x.1)
    rw [if_neg k1] at hn
    refine Or.inr ⟨1, ST i, μ 0 18, ?_, hC.rf (by decide), ?_, hM.wr (by decide)⟩
    · unfold pf_Parser_takeTopic_12 pf_Parser_takeTopic_12_j26 pf_Parser_takeTopic_12_j27 pf_Parser_takeTopic_12_j56
      rw [kbind_eq hk, if_neg k1, if_pos rfl, h13, ew, kbind_eq hn]
    · unfold mm_topicHere
      rw [kbind_eq hg, if_neg (by decide), if_neg (fun x => k1 (hsr.1.mp x)), kbind_eq (m_wrong hts hM.2.1.1 1)]
      exact e57 1 (by decide)
/-- a line where it is refused -/
theorem cx_line (hK : TKf T n m KD ST LN VL) {f p : Int} {w l : Nat} (hw : w < 4) (hl : l < 6) (h : cxS m KD ST LN VL σ0 f p σ) (h14 : σ 14 w = (l : Int)) : ∃ σ', pf_Parser_takeLine_12 σ (w : Int) = some σ' ∧ cxS m KD ST LN VL σ0 f p σ' := by
  have hk := c_kind h.1.1 hK.m7 (Nat.le_refl _)
  rw [hK.2.2.2.2.1] at hk
  have h1 : 0 ≤ (w : Int) ∧ (w : Int) < 4 := by omega
  have h2 : cxS m KD ST LN VL σ0 f p (kst (kst σ 16 (kup (σ 16) (6 * w + l) 0)) 14 (kup (σ 14) w ((l + 1 : Nat) : Int))) := (h.put (by decide)).put (by decide)
  refine ⟨_, ?_, h2.put (c := 23) (g := kup ((kst (kst σ 16 (kup (σ 16) (6 * w + l) 0)) 14 (kup (σ 14) w ((l + 1 : Nat) : Int))) 23) (61 + 6 * w + l) 0) (by decide)⟩
  unfold pf_Parser_takeLine_12 pf_Parser_takeLine_12_j33
  rw [kchk_t h1, klet_eq, kbind_eq hk, if_neg (by decide), kbind_eq (cx_topic hK h.1)]
  show (pf_Law_addLine_13 σ (w : Int) 0).bind _ = _
  rw [kbind_eq (c_addLineN hw hl h14 0), kbind_eq (cf_number hK h2.1 0 9)]
  show (pf_World_setDepth_22 _ (w : Int) (σ 14 (w : Int).toNat) 0).bind _ = _
  rw [Int.toNat_natCast, h14, kbind_eq (c_setDepthN hw hl 0)]
end POS

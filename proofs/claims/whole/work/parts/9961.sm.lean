/-! state: small steps of both -/
section SM
variable {T : Nat → Int} {n m : Nat} {KD ST LN VL : Nat → Int} {i : Nat} {σ μ : kM}
theorem CT.rng (h : CT m KD ST LN VL i σ) (h7 : m ≤ 700) (hi : i ≤ m) : (0 ≤ σ 24 6 ∧ σ 24 6 < 701) ∧ (σ 24 6).toNat = i := by
  rw [h.2.1]
  omega
theorem c_kind (h : CT m KD ST LN VL i σ) (h7 : m ≤ 700) (hi : i ≤ m) : pf_Tokens_kind_24 σ = some (KD i) := by
  obtain ⟨a, b⟩ := h.rng h7 hi
  unfold pf_Tokens_kind_24
  rw [kchk_t a, b, h.2.2.1]
theorem c_start (h : CT m KD ST LN VL i σ) (h7 : m ≤ 700) (hi : i ≤ m) : pf_Tokens_start_24 σ = some (ST i) := by
  obtain ⟨a, b⟩ := h.rng h7 hi
  unfold pf_Tokens_start_24
  rw [kchk_t a, b, h.2.2.2.1]
theorem c_number (h : CT m KD ST LN VL i σ) (h7 : m ≤ 700) (hi : i ≤ m) : pf_Tokens_number_24 σ = some (VL i) := by
  obtain ⟨a, b⟩ := h.rng h7 hi
  unfold pf_Tokens_number_24
  rw [kchk_t a, b, h.2.2.2.2.2]
theorem c_length (h : CT m KD ST LN VL i σ) (h7 : m ≤ 700) (hi : i ≤ m) : pf_Tokens_length_24 σ = some (LN i) := by
  obtain ⟨a, b⟩ := h.rng h7 hi
  unfold pf_Tokens_length_24
  rw [kchk_t a, b, h.2.2.2.2.1]
theorem c_isSign1 (h : CT m KD ST LN VL i σ) (h7 : m ≤ 700) (hi : i ≤ m) {c : Int} (hs : SG KD VL i c) : pf_Tokens_isSign_24 σ c = some 1 := by
  obtain ⟨a, b⟩ := h.rng h7 hi
  unfold pf_Tokens_isSign_24
  rw [kchk_t a, b, h.2.2.1, if_pos hs.1, kchk_t a, h.2.2.2.2.2, if_pos hs.2]
theorem c_isSign0 (h : CT m KD ST LN VL i σ) (h7 : m ≤ 700) (hi : i ≤ m) {c : Int} (hs : ¬ SG KD VL i c) : pf_Tokens_isSign_24 σ c = some 0 := by
  obtain ⟨a, b⟩ := h.rng h7 hi
  unfold pf_Tokens_isSign_24
  rw [kchk_t a, b, h.2.2.1]
  by_cases x : KD i = 3
  · rw [if_pos x, kchk_t a, h.2.2.2.2.2, if_neg (fun y => hs ⟨x, y⟩)]
  · rw [if_neg x]
theorem c_isWord1 (hK : TKf T n m KD ST LN VL) (h : CT m KD ST LN VL i σ) (h7 : m ≤ 700) (hi : i ≤ m) {c : Int} (hc : 0 ≤ c ∧ c < 18) (hs : WD KD VL i c) : pf_Tokens_isWord_24 σ c = some 1 := by
  obtain ⟨a, b⟩ := h.rng h7 hi
  have hw := hK.wd hi hs.1
  unfold pf_Tokens_isWord_24
  rw [kchk_t a, b, h.2.2.1, if_pos hs.1, kchk_t a, h.2.2.2.2.2, kchk_t hw, kchk_t hw, kchk_t hc, if_pos hs.2]
theorem c_isWord0 (hK : TKf T n m KD ST LN VL) (h : CT m KD ST LN VL i σ) (h7 : m ≤ 700) (hi : i ≤ m) {c : Int} (hc : 0 ≤ c ∧ c < 18) (hs : ¬ WD KD VL i c) : pf_Tokens_isWord_24 σ c = some 0 := by
  obtain ⟨a, b⟩ := h.rng h7 hi
  unfold pf_Tokens_isWord_24
  rw [kchk_t a, b, h.2.2.1]
  by_cases x : KD i = 2
  · have hw := hK.wd hi x
    rw [if_pos x, kchk_t a, h.2.2.2.2.2, kchk_t hw, kchk_t hw, kchk_t hc, if_neg (fun y => hs ⟨x, y⟩)]
  · rw [if_neg x]
theorem c_word (hK : TKf T n m KD ST LN VL) (h : CT m KD ST LN VL i σ) (h7 : m ≤ 700) (hi : i ≤ m) : pf_Tokens_word_24 σ = some (if KD i = 2 then VL i else 17) := by
  obtain ⟨a, b⟩ := h.rng h7 hi
  unfold pf_Tokens_word_24
  rw [kchk_t a, b, h.2.2.1]
  by_cases x : KD i = 2
  · have hw := hK.wd hi x
    rw [if_pos x, kchk_t a, h.2.2.2.2.2, kchk_t hw, if_pos x]
  · rw [if_neg x, if_neg x]
/-- the class's memory behind a token -/
abbrev cAd (σ : kM) (i : Nat) : kM := kst σ 24 (kup (σ 24) 6 ((i + 1 : Nat) : Int))
theorem c_adv (h : CT m KD ST LN VL i σ) (h7 : m ≤ 700) (hi : i < m) : pf_Tokens_advance_24 σ = some (cAd σ i) := by
  have ew := kw_inc (i := i) (by omega)
  unfold pf_Tokens_advance_24
  rw [h.1, h.2.1, if_neg (by omega), klet_eq, ew]
theorem CT.ad (h : CT m KD ST LN VL i σ) : CT m KD ST LN VL (i + 1) (cAd σ i) := by
  obtain ⟨a, b, c, d, e, f⟩ := h
  refine ⟨?_, ?_, ?_, ?_, ?_, ?_⟩
  · show kst σ 24 _ 24 5 = _
    rw [kst_eq, kup_ne (by decide)]
    exact a
  · show kst σ 24 _ 24 6 = _
    rw [kst_eq, kup_eq]
  · show kst σ 24 _ 25 = _
    rw [kst_ne (by decide)]
    exact c
  · show kst σ 24 _ 26 = _
    rw [kst_ne (by decide)]
    exact d
  · show kst σ 24 _ 27 = _
    rw [kst_ne (by decide)]
    exact e
  · show kst σ 24 _ 28 = _
    rw [kst_ne (by decide)]
    exact f
theorem CT.put (h : CT m KD ST LN VL i σ) {c : Nat} {f : Nat → Int} (hc : c < 24 ∨ 28 < c) : CT m KD ST LN VL i (kst σ c f) := by
  obtain ⟨a, b, d, e, g, k⟩ := h
  exact ⟨by rw [kst_ne (by omega)]; exact a, by rw [kst_ne (by omega)]; exact b, by rw [kst_ne (by omega)]; exact d, by rw [kst_ne (by omega)]; exact e, by rw [kst_ne (by omega)]; exact g, by rw [kst_ne (by omega)]; exact k⟩
/-- the class's memory when it refuses -/
abbrev cRf (σ : kM) (m : Nat) (x p : Int) : kM := kst (kst σ 12 (kup (kup (σ 12) 3 x) 2 p)) 24 (kup (σ 24) 6 (m : Int))
theorem c_refuse (h : CT m KD ST LN VL i σ) (h7 : m ≤ 700) (hi : i ≤ m) (h0 : σ 12 3 = 0) (x : Int) : pf_Parser_refuse_12 σ x = some (cRf σ m x (ST i)) := by
  have hs := c_start (h.put (c := 12) (f := kup (σ 12) 3 x) (by decide)) h7 hi
  unfold pf_Parser_refuse_12 pf_Parser_refuse_12_j23 pf_Tokens_stop_24
  rw [if_pos h0, klet_eq, kbind_eq hs, klet_eq, kst_eq, kst_st, klet_eq, kst_ne (show (24 : Nat) ≠ 12 by decide), h.1]
  rfl
/-- refused: so it stays -/
def CFt (m : Nat) (KD ST LN VL : Nat → Int) (f p : Int) (σ : kM) : Prop := CT m KD ST LN VL m σ ∧ σ 12 3 = f ∧ f ≠ 0 ∧ σ 12 2 = p
theorem CT.rf (h : CT m KD ST LN VL i σ) {x p : Int} (hx : x ≠ 0) : CFt m KD ST LN VL x p (cRf σ m x p) := by
  obtain ⟨a, b, c, d, e, f⟩ := h
  refine ⟨⟨?_, ?_, ?_, ?_, ?_, ?_⟩, ?_, hx, ?_⟩
  · show kst _ 24 _ 24 5 = _
    rw [kst_eq, kup_ne (by decide)]
    exact a
  · show kst _ 24 _ 24 6 = _
    rw [kst_eq, kup_eq]
  · show kst _ 24 _ 25 = _
    rw [kst_ne (by decide), kst_ne (by decide)]
    exact c
  · show kst _ 24 _ 26 = _
    rw [kst_ne (by decide), kst_ne (by decide)]
    exact d
  · show kst _ 24 _ 27 = _
    rw [kst_ne (by decide), kst_ne (by decide)]
    exact e
  · show kst _ 24 _ 28 = _
    rw [kst_ne (by decide), kst_ne (by decide)]
    exact f
  · show kst _ 24 _ 12 3 = _
    rw [kst_ne (by decide), kst_eq, kup_ne (by decide), kup_eq]
  · show kst _ 24 _ 12 2 = _
    rw [kst_ne (by decide), kst_eq, kup_eq]
theorem CFt.put {f p : Int} (h : CFt m KD ST LN VL f p σ) {c : Nat} {g : Nat → Int} (hc : c < 24 ∨ 28 < c) (hc2 : c ≠ 12) : CFt m KD ST LN VL f p (kst σ c g) := by
  obtain ⟨a, b, d, e⟩ := h
  exact ⟨a.put hc, by rw [kst_ne (Ne.symm hc2)]; exact b, d, by rw [kst_ne (Ne.symm hc2)]; exact e⟩
theorem cf_refuse {f p : Int} (h : CFt m KD ST LN VL f p σ) (x : Int) : pf_Parser_refuse_12 σ x = some σ := by
  obtain ⟨⟨a, b, -⟩, d, e, -⟩ := h
  unfold pf_Parser_refuse_12 pf_Parser_refuse_12_j23 pf_Tokens_stop_24
  rw [if_neg (by rw [d]; exact e), klet_eq, a, ← b, kup_id, kst_id]
  rfl
theorem cf_sg (hK : TKf T n m KD ST LN VL) (c : Int) : ¬ SG KD VL m c := by
  intro h
  have h1 := h.1
  rw [hK.2.2.2.2.1] at h1
  exact absurd h1 (by decide)
theorem cf_wd (hK : TKf T n m KD ST LN VL) (c : Int) : ¬ WD KD VL m c := by
  intro h
  have h1 := h.1
  rw [hK.2.2.2.2.1] at h1
  exact absurd h1 (by decide)
theorem TKf.m7 (hK : TKf T n m KD ST LN VL) : m ≤ 700 := by
  obtain ⟨a, b, -⟩ := hK
  omega
theorem cf_number (hK : TKf T n m KD ST LN VL) {f p : Int} (h : CFt m KD ST LN VL f p σ) (x y : Int) : pf_Parser_takeNumber_12 σ x y = some (x, σ) := by
  unfold pf_Parser_takeNumber_12
  rw [kbind_eq (c_kind h.1 hK.m7 (Nat.le_refl _)), hK.2.2.2.2.1, if_neg (by decide), kbind_eq (cf_refuse h 1)]
theorem cf_sign (hK : TKf T n m KD ST LN VL) {f p : Int} (h : CFt m KD ST LN VL f p σ) (c : Int) : pf_Parser_takeSign_12 σ c = some σ := by
  unfold pf_Parser_takeSign_12
  rw [kbind_eq (c_isSign0 h.1 hK.m7 (Nat.le_refl _) (cf_sg hK c)), if_pos rfl, kbind_eq (cf_refuse h 1)]
theorem c_sign1 (hK : TKf T n m KD ST LN VL) (h : CT m KD ST LN VL i σ) (hi : i < m) {c : Int} (hs : SG KD VL i c) : pf_Parser_takeSign_12 σ c = some (cAd σ i) := by
  unfold pf_Parser_takeSign_12
  rw [kbind_eq (c_isSign1 h hK.m7 (Nat.le_of_lt hi) hs), if_neg (by decide), kbind_eq (c_adv h hK.m7 hi)]
theorem c_sign0 (hK : TKf T n m KD ST LN VL) (h : CT m KD ST LN VL i σ) (hi : i ≤ m) (h0 : σ 12 3 = 0) {c : Int} (hs : ¬ SG KD VL i c) : pf_Parser_takeSign_12 σ c = some (cRf σ m 1 (ST i)) := by
  unfold pf_Parser_takeSign_12
  rw [kbind_eq (c_isSign0 h hK.m7 hi hs), if_pos rfl, kbind_eq (c_refuse h hK.m7 hi h0 1)]
theorem SG.lt (hK : TKf T n m KD ST LN VL) (hi : i ≤ m) {c : Int} (h : SG KD VL i c) : i < m := by
  rcases hK.kd hi with ⟨a, -⟩ | ⟨a, -⟩
  · have := h.1
    rw [a] at this
    exact absurd this (by decide)
  · exact a
theorem WD.lt (hK : TKf T n m KD ST LN VL) (hi : i ≤ m) {c : Int} (h : WD KD VL i c) : i < m := by
  rcases hK.kd hi with ⟨a, -⟩ | ⟨a, -⟩
  · have := h.1
    rw [a] at this
    exact absurd this (by decide)
  · exact a
theorem KD1.lt (hK : TKf T n m KD ST LN VL) (hi : i ≤ m) (h : KD i = 1) : i < m := by
  rcases hK.kd hi with ⟨a, -⟩ | ⟨a, -⟩
  · rw [a] at h
    exact absurd h (by decide)
  · exact a
/-- a number, as both take it -/
def NM (KD LN VL : Nat → Int) (i : Nat) (x y : Int) : Prop := KD i = 1 ∧ LN i ≤ 4 ∧ x ≤ VL i ∧ VL i ≤ y
theorem c_num1 (hK : TKf T n m KD ST LN VL) (h : CT m KD ST LN VL i σ) (hi : i < m) {x y : Int} (hs : NM KD LN VL i x y) : pf_Parser_takeNumber_12 σ x y = some (VL i, cAd σ i) := by
  obtain ⟨a, b, c, d⟩ := hs
  unfold pf_Parser_takeNumber_12
  rw [kbind_eq (c_kind h hK.m7 (Nat.le_of_lt hi)), if_pos a, kbind_eq (c_number h hK.m7 (Nat.le_of_lt hi)), kbind_eq (c_length h hK.m7 (Nat.le_of_lt hi)), if_neg (by omega), if_neg (by omega), if_pos d, kbind_eq (c_adv h hK.m7 hi)]
theorem c_num0 (hK : TKf T n m KD ST LN VL) (h : CT m KD ST LN VL i σ) (hi : i ≤ m) (h0 : σ 12 3 = 0) {x y : Int} (hs : ¬ NM KD LN VL i x y) : pf_Parser_takeNumber_12 σ x y = some (x, cRf σ m (if KD i = 1 then 2 else 1) (ST i)) := by
  unfold pf_Parser_takeNumber_12 pf_Parser_takeNumber_12_j47
  rw [kbind_eq (c_kind h hK.m7 hi)]
  by_cases a : KD i = 1
  · rw [if_pos a, kbind_eq (c_number h hK.m7 hi), kbind_eq (c_length h hK.m7 hi), kbind_eq (c_refuse h hK.m7 hi h0 2), if_pos a]
    by_cases b : 4 < LN i
    · rw [if_pos b]
    · rw [if_neg b]
      by_cases c : VL i < x
      · rw [if_pos c]
      · rw [if_neg c, if_neg (fun d => hs ⟨a, by omega, by omega, d⟩)]
  · rw [if_neg a, kbind_eq (c_refuse h hK.m7 hi h0 1), if_neg a]
/-! the reference's -/
theorem m_isGood1 (h0 : μ 0 10 = 0) : mm_isGood μ = some 1 := by
  unfold mm_isGood
  rw [if_pos h0]
theorem m_isGood0 (h0 : ¬ μ 0 10 = 0) : mm_isGood μ = some 0 := by
  unfold mm_isGood
  rw [if_neg h0]
abbrev mWr (μ : kM) (x p : Int) : kM := kst μ 0 (kup (kup (μ 0) 10 x) 11 p)
theorem m_wrong (h : TS m KD ST LN VL i μ) (h0 : μ 0 10 = 0) (x : Int) : mm_wrong μ x = some (mWr μ x (ST i)) := by
  unfold mm_wrong
  rw [if_pos h0, klet_eq, klet_eq, kst_eq, kst_st, kup_ne (by decide), h.1]
theorem m_isSign1 (h : TS m KD ST LN VL i μ) {c : Int} (hs : SG KD VL i c) : mm_isSign μ c = some 1 := by
  obtain ⟨a, b⟩ := h.2.2.2.2.2.1 hs.1
  unfold mm_isSign
  rw [if_pos a, b, if_pos hs.2]
theorem m_isSign0 (hK : TKf T n m KD ST LN VL) (hi : i ≤ m) (h : TS m KD ST LN VL i μ) {c : Int} (hs : ¬ SG KD VL i c) : mm_isSign μ c = some 0 := by
  unfold mm_isSign
  by_cases x : KD i = 3
  · obtain ⟨a, b⟩ := h.2.2.2.2.2.1 x
    rw [if_pos a, b, if_neg (fun y => hs ⟨x, y⟩)]
  · have : ¬ μ 0 15 = 3 := by
      rcases hK.kd hi with ⟨a, -⟩ | ⟨-, a | a | a | a⟩
      · rw [h.2.2.1 a]
        decide
      · rw [(h.2.2.2.1 a).1]
        decide
      · rw [h.2.2.2.2.1 a]
        decide
      · exact absurd a x
      · rw [h.2.2.2.2.2.2 a]
        decide
    rw [if_neg this]
theorem m_sort (hK : TKf T n m KD ST LN VL) (hi : i ≤ m) (h : TS m KD ST LN VL i μ) : (μ 0 15 = 2 ↔ KD i = 1) ∧ (μ 0 15 = 1 ↔ KD i = 2) ∧ (μ 0 15 = 0 ↔ KD i = 0) := by
  rcases hK.kd hi with ⟨a, -⟩ | ⟨-, a | a | a | a⟩
  · rw [h.2.2.1 a, a]
    decide
  · rw [(h.2.2.2.1 a).1, a]
    decide
  · rw [h.2.2.2.2.1 a, a]
    decide
  · rw [(h.2.2.2.2.2.1 a).1, a]
    decide
  · rw [h.2.2.2.2.2.2 a, a]
    decide
theorem m_num0 (hK : TKf T n m KD ST LN VL) (hi : i ≤ m) (h : TS m KD ST LN VL i μ) (h0 : μ 0 10 = 0) {x y : Int} (hs : ¬ NM KD LN VL i x y) : ∃ v, mm_number μ x y = some (v, mWr μ (if KD i = 1 then 2 else 1) (ST i)) := by
  have hs1 := (m_sort hK hi h).1
  have e54 : ∀ z : Int, z ≠ 0 → mm_number_j54 (mWr μ z (ST i)) = some (μ 0 18, mWr μ z (ST i)) := by
    intro z hz
    unfold mm_number_j54
    have hg : mm_isGood (mWr μ z (ST i)) = some 0 := m_isGood0 (by show ¬ kst μ 0 _ 0 10 = 0; rw [kst_eq, kup_ne (by decide), kup_eq]; exact hz)
    rw [klet_eq, kbind_eq hg, if_pos rfl]
    show some (kst μ 0 _ 0 18, _) = _
    rw [kst_eq, kup_ne (by decide), kup_ne (by decide)]
  refine ⟨μ 0 18, ?_⟩
  unfold mm_number mm_number_j49
  rw [kbind_eq (m_isGood1 h0), if_neg (by decide), kbind_eq (m_wrong h h0 2), kbind_eq (m_wrong h h0 1), e54 2 (by decide), e54 1 (by decide)]
  by_cases a : KD i = 1
  · obtain ⟨b1, b2, b3⟩ := h.2.2.2.1 a
    rw [if_pos (hs1.mpr a), b2, if_pos a]
    by_cases b : 4 < LN i
    · rw [if_pos b]
    · rw [if_neg b, b3 (by omega)]
      by_cases c : VL i < x
      · rw [if_pos c]
      · rw [if_neg c, if_neg (fun d => hs ⟨a, by omega, by omega, d⟩)]
  · rw [if_neg (fun x => a (hs1.mp x)), if_neg a]
theorem m_num1 (hK : TKf T n m KD ST LN VL) (hi : i < m) (hM : TM T n i μ) (h0 : μ 0 10 = 0) {x y : Int} (hs : NM KD LN VL i x y) : ∃ g, mm_number μ x y = some (VL i, kst μ 0 g) ∧ (∀ j : Nat, j < 14 ∨ 20 < j → g j = μ 0 j) ∧ TM T n (i + 1) (kst μ 0 g) := by
  have h := hM.ts hK (Nat.le_of_lt hi)
  obtain ⟨a, b, c, d⟩ := hs
  obtain ⟨g, g1, g2, g3⟩ := hM.go hK
  obtain ⟨b1, b2, b3⟩ := h.2.2.2.1 a
  have b3 := b3 b
  refine ⟨g, ?_, g2, g3⟩
  unfold mm_number mm_number_j54
  rw [kbind_eq (m_isGood1 h0), if_neg (by decide), if_pos b1, b2, if_neg (by omega), klet_eq, b3, if_neg (by omega), if_pos d, kbind_eq (m_isGood1 h0), if_neg (by decide), kbind_eq g1]
theorem m_numF (h0 : ¬ μ 0 10 = 0) (x y : Int) : mm_number μ x y = some (0, μ) := by
  unfold mm_number
  rw [kbind_eq (m_isGood0 h0), if_pos rfl]
theorem m_needF (h0 : ¬ μ 0 10 = 0) (x : Int) : mm_need μ x = some μ := by
  unfold mm_need
  rw [kbind_eq (m_isGood0 h0), if_pos rfl]
theorem m_need0 (h : TS m KD ST LN VL i μ) (h0 : μ 0 10 = 0) : mm_need μ 0 = some (mWr μ 1 (ST i)) := by
  unfold mm_need
  rw [kbind_eq (m_isGood1 h0), if_neg (by decide), if_pos rfl, kbind_eq (m_wrong h h0 1)]
theorem m_need1 (hK : TKf T n m KD ST LN VL) (hM : TM T n i μ) (h0 : μ 0 10 = 0) : ∃ g, mm_need μ 1 = some (kst μ 0 g) ∧ (∀ j : Nat, j < 14 ∨ 20 < j → g j = μ 0 j) ∧ TM T n (i + 1) (kst μ 0 g) := by
  obtain ⟨g, g1, g2, g3⟩ := hM.go hK
  refine ⟨g, ?_, g2, g3⟩
  unfold mm_need
  rw [kbind_eq (m_isGood1 h0), if_neg (by decide), if_neg (by decide), kbind_eq g1]
end SM

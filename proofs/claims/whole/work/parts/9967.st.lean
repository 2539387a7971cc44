/-! state: between clauses -/
/-- what parsing leaves as it is -/
def fcS (σ0 σ : kM) : Prop := ∀ c : Nat, c < 12 ∨ 29 ≤ c → σ c = σ0 c
def fmS (μ0 μ : kM) : Prop := (∀ c : Nat, (1 ≤ c ∧ c < 4) ∨ 8 ≤ c → μ c = μ0 c) ∧ ∀ j : Nat, j < 10 ∨ j = 12 ∨ 31 < j → μ 0 j = μ0 0 j
def KCg (m : Nat) (KD ST LN VL : Nat → Int) (σ0 : kM) (i : Nat) (σ : kM) : Prop := CT m KD ST LN VL i σ ∧ (σ 12 3 = 0 ∧ σ 12 2 = -1) ∧ fcS σ0 σ
def KMg (T : Nat → Int) (n : Nat) (μ0 : kM) (i : Nat) (μ : kM) : Prop := TM T n i μ ∧ (μ 0 10 = 0 ∧ μ 0 11 = -1) ∧ fmS μ0 μ
def cxS (m : Nat) (KD ST LN VL : Nat → Int) (σ0 : kM) (f p : Int) (σ : kM) : Prop := CFt m KD ST LN VL f p σ ∧ fcS σ0 σ
def mxS (μ0 : kM) (f p : Int) (μ : kM) : Prop := μ 0 10 = f ∧ f ≠ 0 ∧ μ 0 11 = p ∧ fmS μ0 μ
theorem fcS.put {σ0 σ : kM} (h : fcS σ0 σ) {c : Nat} {g : Nat → Int} (hc : 12 ≤ c ∧ c < 29) : fcS σ0 (kst σ c g) := fun q hq => by
  rw [kst_ne (by omega)]
  exact h q hq
theorem fmS.put {μ0 μ : kM} (h : fmS μ0 μ) {c : Nat} {g : Nat → Int} (hc : 4 ≤ c ∧ c < 8) : fmS μ0 (kst μ c g) := ⟨fun q hq => by
  rw [kst_ne (by omega)]
  exact h.1 q hq, fun j hj => by
  rw [kst_ne (by omega)]
  exact h.2 j hj⟩
theorem fmS.put0 {μ0 μ : kM} (h : fmS μ0 μ) {g : Nat → Int} (hg : ∀ j : Nat, j < 10 ∨ j = 12 ∨ 31 < j → g j = μ 0 j) : fmS μ0 (kst μ 0 g) := ⟨fun q hq => by
  rw [kst_ne (by omega)]
  exact h.1 q hq, fun j hj => by
  rw [kst_eq, hg j hj]
  exact h.2 j hj⟩
section STS
variable {T : Nat → Int} {n m : Nat} {KD ST LN VL : Nat → Int} {σ0 μ0 σ μ : kM} {i : Nat}
theorem KCg.ad (h : KCg m KD ST LN VL σ0 i σ) : KCg m KD ST LN VL σ0 (i + 1) (cAd σ i) := by
  obtain ⟨a, b, c⟩ := h
  refine ⟨a.ad, ?_, c.put (by decide)⟩
  show kst σ 24 _ 12 3 = 0 ∧ kst σ 24 _ 12 2 = -1
  rw [kst_ne (by decide)]
  exact b
theorem KCg.rf (h : KCg m KD ST LN VL σ0 i σ) {x p : Int} (hx : x ≠ 0) : cxS m KD ST LN VL σ0 x p (cRf σ m x p) := ⟨h.1.rf hx, (h.2.2.put (by decide)).put (by decide)⟩
theorem KCg.put (h : KCg m KD ST LN VL σ0 i σ) {c : Nat} {g : Nat → Int} (hc : 13 ≤ c ∧ c ≤ 23) : KCg m KD ST LN VL σ0 i (kst σ c g) := by
  obtain ⟨a, b, d⟩ := h
  refine ⟨a.put (by omega), ?_, d.put (by omega)⟩
  rw [kst_ne (by omega)]
  exact b
theorem cxS.put {f p : Int} (h : cxS m KD ST LN VL σ0 f p σ) {c : Nat} {g : Nat → Int} (hc : 13 ≤ c ∧ c ≤ 23) : cxS m KD ST LN VL σ0 f p (kst σ c g) := ⟨h.1.put (by omega) (by omega), h.2.put (by omega)⟩
theorem KMg.put (h : KMg T n μ0 i μ) {c : Nat} {g : Nat → Int} (hc : 4 ≤ c ∧ c < 8) : KMg T n μ0 i (kst μ c g) := by
  obtain ⟨a, b, d⟩ := h
  refine ⟨a.upd (by rw [kst_ne (by omega)]) (fun j _ _ => by rw [kst_ne (by omega)]), ?_, d.put hc⟩
  rw [kst_ne (by omega)]
  exact b
theorem KMg.put0 (h : KMg T n μ0 i μ) {j : Nat} {v : Int} (hj : 21 ≤ j ∧ j ≤ 31) : KMg T n μ0 i (kst μ 0 (kup (μ 0) j v)) := by
  obtain ⟨a, b, d⟩ := h
  refine ⟨a.upd (by rw [kst_ne (by decide)]) (fun k _ _ => by rw [kst_eq, kup_ne (by omega)]), ?_, d.put0 (fun k hk => kup_ne (by omega))⟩
  rw [kst_eq, kup_ne (by omega), kup_ne (by omega)]
  exact b
theorem mxS.put {f p : Int} (h : mxS μ0 f p μ) {c : Nat} {g : Nat → Int} (hc : 4 ≤ c ∧ c < 8) : mxS μ0 f p (kst μ c g) := by
  obtain ⟨a, b, d, e⟩ := h
  exact ⟨by rw [kst_ne (by omega)]; exact a, b, by rw [kst_ne (by omega)]; exact d, e.put hc⟩
theorem mxS.put0 {f p : Int} (h : mxS μ0 f p μ) {j : Nat} {v : Int} (hj : 21 ≤ j ∧ j ≤ 31) : mxS μ0 f p (kst μ 0 (kup (μ 0) j v)) := by
  obtain ⟨a, b, d, e⟩ := h
  exact ⟨by rw [kst_eq, kup_ne (by omega)]; exact a, b, by rw [kst_eq, kup_ne (by omega)]; exact d, e.put0 (fun k hk => kup_ne (by omega))⟩
theorem mxS.bad {f p : Int} (h : mxS μ0 f p μ) : ¬ μ 0 10 = 0 := by
  rw [h.1]
  exact h.2.1
theorem KMg.wr (h : KMg T n μ0 i μ) {x p : Int} (hx : x ≠ 0) : mxS μ0 x p (mWr μ x p) := by
  refine ⟨?_, hx, ?_, h.2.2.put0 (fun j hj => by rw [kup_ne (by omega), kup_ne (by omega)])⟩
  · show kst μ 0 _ 0 10 = _
    rw [kst_eq, kup_ne (by decide), kup_eq]
  · show kst μ 0 _ 0 11 = _
    rw [kst_eq, kup_eq]
theorem KMg.of {g : Nat → Int} (h : KMg T n μ0 i μ) (hg : ∀ j : Nat, j < 14 ∨ 20 < j → g j = μ 0 j) {k : Nat} (hM : TM T n k (kst μ 0 g)) : KMg T n μ0 k (kst μ 0 g) := by
  refine ⟨hM, ?_, h.2.2.put0 (fun j hj => hg j (by omega))⟩
  rw [kst_eq, hg 10 (by decide), hg 11 (by decide)]
  exact h.2.1
theorem m_isSignT (μ : kM) (c : Int) : ∃ r, mm_isSign μ c = some r := by
  unfold mm_isSign
  split
  · split
    · exact ⟨_, rfl⟩
    · exact ⟨_, rfl⟩
  · exact ⟨_, rfl⟩
/-- a number, in both -/
theorem s_num (hK : TKf T n m KD ST LN VL) (hi : i ≤ m) (hC : KCg m KD ST LN VL σ0 i σ) (hM : KMg T n μ0 i μ) (x y : Int) :
    (i < m ∧ NM KD LN VL i x y ∧ pf_Parser_takeNumber_12 σ x y = some (VL i, cAd σ i) ∧ KCg m KD ST LN VL σ0 (i + 1) (cAd σ i) ∧ ∃ g, mm_number μ x y = some (VL i, kst μ 0 g) ∧ (∀ j : Nat, j < 14 ∨ 20 < j → g j = μ 0 j) ∧ KMg T n μ0 (i + 1) (kst μ 0 g)) ∨
    (∃ f p v : Int, pf_Parser_takeNumber_12 σ x y = some (x, cRf σ m f p) ∧ cxS m KD ST LN VL σ0 f p (cRf σ m f p) ∧ mm_number μ x y = some (v, mWr μ f p) ∧ mxS μ0 f p (mWr μ f p)) := by
  by_cases c : KD i = 1 ∧ LN i ≤ 4 ∧ x ≤ VL i ∧ VL i ≤ y
  · have hs : NM KD LN VL i x y := c
    have him := KD1.lt hK hi c.1
    obtain ⟨g, a, b, d⟩ := m_num1 hK him hM.1 hM.2.1.1 hs
    exact Or.inl ⟨him, hs, c_num1 hK hC.1 him hs, hC.ad, g, a, b, hM.of b d⟩
  · have hs : ¬ NM KD LN VL i x y := c
    obtain ⟨v, a⟩ := m_num0 hK hi (hM.1.ts hK hi) hM.2.1.1 hs
    have hf : (if KD i = 1 then (2 : Int) else 1) ≠ 0 := by split <;> decide
    exact Or.inr ⟨_, _, v, c_num0 hK hC.1 hi hC.2.1.1 hs, hC.rf hf, a, hM.wr hf⟩
/-- ';', in both -/
theorem s_end (hK : TKf T n m KD ST LN VL) (hi : i ≤ m) (hC : KCg m KD ST LN VL σ0 i σ) (hM : KMg T n μ0 i μ) :
    (i < m ∧ pf_Parser_takeSign_12 σ 59 = some (cAd σ i) ∧ KCg m KD ST LN VL σ0 (i + 1) (cAd σ i) ∧ ∃ g, mm_clause_j212 μ = some (kst μ 0 g) ∧ (∀ j : Nat, j < 14 ∨ 20 < j → g j = μ 0 j) ∧ KMg T n μ0 (i + 1) (kst μ 0 g)) ∨
    (∃ f p : Int, pf_Parser_takeSign_12 σ 59 = some (cRf σ m f p) ∧ cxS m KD ST LN VL σ0 f p (cRf σ m f p) ∧ mm_clause_j212 μ = some (mWr μ f p) ∧ mxS μ0 f p (mWr μ f p)) := by
  by_cases c : KD i = 3 ∧ VL i = 59
  · have hs : SG KD VL i 59 := c
    have him := SG.lt hK hi hs
    obtain ⟨g, a, b, d⟩ := m_need1 hK hM.1 hM.2.1.1
    refine Or.inl ⟨him, c_sign1 hK hC.1 him hs, hC.ad, g, ?_, b, hM.of b d⟩
    unfold mm_clause_j212
    rw [kbind_eq (m_isSign1 (hM.1.ts hK hi) hs), kbind_eq a]
  · have hs : ¬ SG KD VL i 59 := c
    refine Or.inr ⟨1, ST i, c_sign0 hK hC.1 hi hC.2.1.1 hs, hC.rf (by decide), ?_, hM.wr (by decide)⟩
    unfold mm_clause_j212
    rw [kbind_eq (m_isSign0 hK hi (hM.1.ts hK hi) hs), kbind_eq (m_need0 (hM.1.ts hK hi) hM.2.1.1)]
theorem mx_end {f p : Int} (h : mxS μ0 f p μ) : mm_clause_j212 μ = some μ := by
  obtain ⟨r, e⟩ := m_isSignT μ 59
  unfold mm_clause_j212
  rw [kbind_eq e, kbind_eq (m_needF h.bad r)]
theorem mx_begins {f p : Int} (h : mxS μ0 f p μ) : mm_begins μ 0 0 = some (0, μ) := by
  unfold mm_begins mm_begins_j9 mm_begins_j18
  rw [if_pos rfl, if_pos rfl, kbind_eq (m_isGood0 h.bad), if_pos rfl]
/-- a clause that begins, that may not -/
theorem m_begins1 (hK : TKf T n m KD ST LN VL) (hM : KMg T n μ0 i μ) : ∃ g, mm_begins μ 0 0 = some (1, kst μ 0 g) ∧ (∀ j : Nat, j < 14 ∨ 20 < j → g j = μ 0 j) ∧ KMg T n μ0 (i + 1) (kst μ 0 g) := by
  obtain ⟨g, a, b, d⟩ := hM.1.go hK
  refine ⟨g, ?_, b, hM.of b d⟩
  unfold mm_begins mm_begins_j9 mm_begins_j18
  rw [if_pos rfl, if_pos rfl, kbind_eq (m_isGood1 hM.2.1.1), if_neg (by decide), kbind_eq a]
theorem m_begins2 (hK : TKf T n m KD ST LN VL) (hi : i ≤ m) (hM : KMg T n μ0 i μ) : mm_begins μ 1 0 = some (0, mWr μ 2 (ST i)) := by
  have hx := hM.wr (x := 2) (p := ST i) (by decide)
  unfold mm_begins mm_begins_j9 mm_begins_j18
  rw [if_neg (by decide), kbind_eq (m_wrong (hM.1.ts hK hi) hM.2.1.1 2), if_pos rfl, kbind_eq (m_isGood0 hx.bad), if_pos rfl]
theorem m_begins5 (hK : TKf T n m KD ST LN VL) (hi : i ≤ m) (hM : KMg T n μ0 i μ) : mm_begins μ 0 1 = some (0, mWr μ 5 (ST i)) := by
  have hx := hM.wr (x := 5) (p := ST i) (by decide)
  unfold mm_begins mm_begins_j9 mm_begins_j18
  rw [if_pos rfl, if_neg (by decide), kbind_eq (m_wrong (hM.1.ts hK hi) hM.2.1.1 5), kbind_eq (m_isGood0 hx.bad), if_pos rfl]
end STS
/-! what is told so far: rules, rows -/
def RUl (C R : List Int) (f t a : Int) (P : List Int) (ok : Int → Prop) : Prop := rv_gd P ok ∧ ((P = [] ∧ f = 0 ∧ t = 0 ∧ a = -1) ∨ (P ≠ [] ∧ (∃ A B : List Int, C = A ++ (P ++ B) ∧ f = (A.length : Int) ∧ t = ((A.length + P.length : Nat) : Int)) ∧ ∃ A B : List Int, R = A ++ ((en P ++ [0]) ++ B) ∧ a = (A.length : Int) ∧ A.length + 2 * P.length + 1 ≤ 1400))
theorem RUl.app {C R : List Int} {f t a : Int} {P : List Int} {ok : Int → Prop} (h : RUl C R f t a P ok) (C' R' : List Int) : RUl (C ++ C') (R ++ R') f t a P ok := by
  obtain ⟨h1, h2 | ⟨h2, ⟨A, B, e1, e2, e3⟩, A', B', e4, e5⟩⟩ := h
  · exact ⟨h1, Or.inl h2⟩
  · refine ⟨h1, Or.inr ⟨h2, ⟨A, B ++ C', ?_, e2, e3⟩, A', B' ++ R', ?_, e5⟩⟩
    · rw [e1, List.append_assoc, List.append_assoc]
    · rw [e4, List.append_assoc, List.append_assoc]
def okH (c : Int) : Prop := -6 ≤ c
def okF (c : Int) : Prop := -4 ≤ c ∨ c ≤ -7
def okB (c : Int) : Prop := -4 ≤ c
def DR (i : Nat) (C R PH PF PB : List Int) (σ μ : kM) : Prop := (σ 17 1 = (C.length : Int) ∧ rv_at (σ 18) 0 C ∧ C.length ≤ i) ∧ (μ 0 27 = (R.length : Int) ∧ rv_at (μ 5) 0 R ∧ R.length ≤ 2 * i) ∧ RUl C R (σ 19 0) (σ 20 0) (μ 0 24) PH okH ∧ RUl C R (σ 19 1) (σ 20 1) (μ 0 25) PF okF ∧ RUl C R (σ 19 2) (σ 20 2) (μ 0 26) PB okB
theorem DR.keep {i i' : Nat} {C R PH PF PB : List Int} {σ μ σ' μ' : kM} (h : DR i C R PH PF PB σ μ) (hi : i ≤ i') (hC : ∀ c : Nat, 17 ≤ c ∧ c ≤ 20 → σ' c = σ c) (h5 : μ' 5 = μ 5) (h0 : ∀ j : Nat, 24 ≤ j ∧ j ≤ 27 → μ' 0 j = μ 0 j) : DR i' C R PH PF PB σ' μ' := by
  obtain ⟨⟨a1, a2, a3⟩, ⟨b1, b2, b3⟩, c1, c2, c3⟩ := h
  unfold DR
  rw [hC 17 (by decide), hC 18 (by decide), hC 19 (by decide), hC 20 (by decide), h5, h0 24 (by decide), h0 25 (by decide), h0 26 (by decide), h0 27 (by decide)]
  exact ⟨⟨a1, a2, by omega⟩, ⟨b1, b2, by omega⟩, c1, c2, c3⟩
def vP (σ : kM) (k : Nat) : Int :=
  if k < 17 then σ 23 k else if k < 29 then σ 23 (k + 32) else if k < 61 then σ 23 (k - 12) else if k < 65 then σ 14 (k - 61) else if k < 89 then σ 16 (k - 65) else if k < 113 then σ 23 (k - 28) else σ 15 (k - 113)
def nbd (tp : Int) (k : Nat) (v : Int) : Prop := (k = 0 ∨ (9 ≤ k ∧ k < 17) ∨ (21 ≤ k ∧ k < 61) → v = 0) ∧ ((1 ≤ k ∧ k < 9) ∨ (17 ≤ k ∧ k < 21) → 0 ≤ v ∧ v ≤ 99) ∧ (65 ≤ k ∧ k < 89 → 0 ≤ v ∧ v < tp) ∧ (89 ≤ k → 0 ≤ v ∧ v ≤ 9)
def DW (N M tp : Nat) (σ μ : kM) : Prop := (2 ≤ tp ∧ tp ≤ 4 ∧ N ≤ 8 ∧ M ≤ 4) ∧ (σ 13 0 = (tp : Int) ∧ σ 13 1 = (N : Int) ∧ σ 13 2 = (M : Int)) ∧ (μ 0 21 = (tp : Int) ∧ μ 0 22 = (N : Int) ∧ μ 0 23 = (M : Int)) ∧ (∀ k : Nat, k < 145 → rok (N : Int) (M : Int) (tp : Int) (fun w => μ 4 (61 + w)) k → vP σ k = μ 4 k) ∧ (∀ k : Nat, k < 145 → nbd (tp : Int) k (μ 4 k)) ∧ ∀ w : Nat, w < 4 → (w < M → 1 ≤ μ 4 (61 + w) ∧ μ 4 (61 + w) ≤ 6) ∧ (M ≤ w → μ 4 (61 + w) = 0)
theorem vP.keep {σ σ' : kM} (h14 : σ' 14 = σ 14) (h15 : σ' 15 = σ 15) (h16 : σ' 16 = σ 16) (h23 : σ' 23 = σ 23) (k : Nat) : vP σ' k = vP σ k := by
  unfold vP
  rw [h14, h15, h16, h23]
theorem DW.keep {N M tp : Nat} {σ μ σ' μ' : kM} (h : DW N M tp σ μ) (h13 : σ' 13 = σ 13) (h14 : σ' 14 = σ 14) (h15 : σ' 15 = σ 15) (h16 : σ' 16 = σ 16) (h23 : σ' 23 = σ 23) (h4 : μ' 4 = μ 4) (h0 : ∀ j : Nat, 21 ≤ j ∧ j ≤ 23 → μ' 0 j = μ 0 j) : DW N M tp σ' μ' := by
  obtain ⟨a, b, c, d, e, f⟩ := h
  unfold DW
  rw [h13, h4, h0 21 (by decide), h0 22 (by decide), h0 23 (by decide)]
  exact ⟨a, b, c, fun k hk ho => (vP.keep h14 h15 h16 h23 k).trans (d k hk ho), e, f⟩

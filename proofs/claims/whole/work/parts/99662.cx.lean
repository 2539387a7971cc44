/-! state: the class within an expression: 'not's, a part, what goes on where it is refused -/
theorem gP_0 (d : Nat) (σ : kM) (l a : Int) : pf_gP (d + 1) 0 σ l a = pf_Parser_takeLevel_12 (pf_gP d) σ l a := rfl
theorem gP_1 (d : Nat) (σ : kM) (a b : Int) : pf_gP (d + 1) 1 σ a b = pf_Parser_takePart_12 (pf_gP d) σ a := rfl
section CXS
variable {T : Nat → Int} {n m : Nat} {KD ST LN VL : Nat → Int} {i : Nat} {σ σ0 : kM} {C : List Int}
theorem c_nk (hK : TKf T n m KD ST LN VL) : ∀ (k i x : Nat) (σ : kM), x + k ≤ 6 → i + k ≤ m → CE m KD ST LN VL σ0 i C σ → (∀ j, j < k → WD KD VL (i + j) 8) → ∃ σ', (∀ fuel : Nat, kloop (fun st => pf_Parser_takeNots_12_l4 st.1 st.2.1 st.2.2) (fuel + k) (σ, (x : Int), (x : Int)) = kloop (fun st => pf_Parser_takeNots_12_l4 st.1 st.2.1 st.2.2) fuel (σ', ((x + k : Nat) : Int), ((x + k : Nat) : Int))) ∧ CE m KD ST LN VL σ0 (i + k) C σ' := by
  intro k
  induction k with
  | zero =>
    intro i x σ _ _ h _
    exact ⟨σ, fun fuel => rfl, h⟩
  | succ k ih =>
    intro i x σ hx hi h hw
    obtain ⟨σ2, b1, b2⟩ := ih (i + 1) (x + 1) (cAd σ i) (by omega) (by omega) h.ad (fun j hj => by
      have := hw (j + 1) (by omega)
      rw [show i + 1 + j = i + (j + 1) by omega]
      exact this)
    refine ⟨σ2, fun fuel => ?_, ?_⟩
    · rw [show x + (k + 1) = x + 1 + k by omega, ← b1 fuel]
      refine kloop_l ?_
      show pf_Parser_takeNots_12_l4 σ (x : Int) (x : Int) = _
      have ew := kw_inc (i := x) (by omega)
      unfold pf_Parser_takeNots_12_l4
      rw [if_neg (by omega), kbind_eq (c_isWord1 hK h.1 hK.m7 (by omega) (by decide) (hw 0 (by omega))), if_neg (by decide), klet_eq, ew, kbind_eq (c_adv h.1 hK.m7 (by omega)), klet_eq]
    · rw [show i + (k + 1) = i + 1 + k by omega]
      exact b2
theorem c_nend (hK : TKf T n m KD ST LN VL) (h : CT m KD ST LN VL i σ) (hi : i ≤ m) {x : Nat} (hx : x = 6 ∨ ¬ WD KD VL i 8) {fuel : Nat} : kloop (fun st => pf_Parser_takeNots_12_l4 st.1 st.2.1 st.2.2) (fuel + 1) (σ, (x : Int), (x : Int)) = some (σ, (x : Int)) := by
  refine kloop_r ?_
  show pf_Parser_takeNots_12_l4 σ (x : Int) (x : Int) = _
  unfold pf_Parser_takeNots_12_l4
  by_cases c : 6 ≤ (x : Int)
  · rw [if_pos c]
  · rw [if_neg c, kbind_eq (c_isWord0 hK h hK.m7 hi (by decide) (hx.resolve_left (by omega))), if_pos rfl]
/-- how many 'not's stand here, up to six -/
theorem nots_ex (hK : TKf T n m KD ST LN VL) (hi : i ≤ m) : ∀ b : Nat, ∃ k : Nat, k ≤ b ∧ i + k ≤ m ∧ (∀ j, j < k → WD KD VL (i + j) 8) ∧ (k = b ∨ ¬ WD KD VL (i + k) 8) := by
  intro b
  induction b with
  | zero => exact ⟨0, Nat.le_refl _, hi, fun j hj => absurd hj (Nat.not_lt_zero j), Or.inl rfl⟩
  | succ b ih =>
    obtain ⟨k, h1, h2, h3, h4⟩ := ih
    by_cases c : WD KD VL (i + k) 8
    · have hb : k = b := h4.resolve_right (fun x => x c)
      have := WD.lt hK h2 c
      refine ⟨k + 1, by omega, by omega, fun j hj => ?_, Or.inl (by omega)⟩
      by_cases e : j = k
      · rw [e]
        exact c
      · exact h3 j (by omega)
    · exact ⟨k, by omega, h2, h3, Or.inr c⟩
theorem c_nots (hK : TKf T n m KD ST LN VL) {k : Nat} (hk : k ≤ 6) (hi : i + k ≤ m) (h : CE m KD ST LN VL σ0 i C σ) (hw : ∀ j, j < k → WD KD VL (i + j) 8) (hn : ¬ WD KD VL (i + k) 8) : ∃ σ', pf_Parser_takeNots_12 σ = some ((k : Int), σ') ∧ CE m KD ST LN VL σ0 (i + k) C σ' := by
  obtain ⟨σ', a1, a2⟩ := c_nk hK k i 0 σ (by omega) hi h hw
  refine ⟨σ', ?_, a2⟩
  obtain ⟨f, ef⟩ := kFuel_k k hk
  have e1 : kloop (fun st => pf_Parser_takeNots_12_l4 st.1 st.2.1 st.2.2) kFuel (σ, 0, 0) = some (σ', (k : Int)) := by
    rw [ef]
    refine (a1 (f + 3)).trans ?_
    rw [Nat.zero_add]
    exact c_nend hK a2.1 hi (Or.inr hn)
  unfold pf_Parser_takeNots_12
  rw [kbind_eq e1]
  show (pf_Tokens_isWord_24 σ' 8).bind _ = _
  rw [kbind_eq (c_isWord0 hK a2.1 hK.m7 hi (by decide) hn), if_pos rfl]
theorem c_nots7 (hK : TKf T n m KD ST LN VL) (hi : i + 6 ≤ m) (h : CE m KD ST LN VL σ0 i C σ) (hC : C.length ≤ 700) (hw : ∀ j, j < 6 → WD KD VL (i + j) 8) (hn : WD KD VL (i + 6) 8) : ∃ σ', pf_Parser_takeNots_12 σ = some (6, σ') ∧ CX m KD ST LN VL σ0 2 (ST (i + 6)) σ' := by
  obtain ⟨σ', a1, a2⟩ := c_nk hK 6 i 0 σ (by omega) hi h hw
  refine ⟨_, ?_, a2.rf hC (x := 2) (p := ST (i + 6)) (by decide)⟩
  obtain ⟨f, ef⟩ := kFuel_k 6 (by decide)
  have e1 : kloop (fun st => pf_Parser_takeNots_12_l4 st.1 st.2.1 st.2.2) kFuel (σ, 0, 0) = some (σ', 6) := by
    rw [ef]
    refine (a1 (f + 3)).trans ?_
    exact c_nend hK a2.1 hi (x := 6) (Or.inl rfl)
  unfold pf_Parser_takeNots_12
  rw [kbind_eq e1]
  show (pf_Tokens_isWord_24 σ' 8).bind _ = _
  rw [kbind_eq (c_isWord1 hK a2.1 hK.m7 hi (by decide) hn), if_neg (by decide), kbind_eq (c_refuse a2.1 hK.m7 hi a2.f0 2)]
/-! 'not's that are told -/
theorem c_l109 {rc : Nat → kM → Int → Int → Option kM} {k : Nat} (hk : k ≤ 6) : ∀ (q x : Nat) (σ : kM) (C : List Int) (fuel : Nat), x + q = k → q < fuel → CE m KD ST LN VL σ0 i C σ → C.length + q ≤ 700 → ∃ σ', kloop (fun st => pf_Parser_takeLevel_12_l109 rc st.1 (k : Int) st.2) fuel (σ, (x : Int)) = some σ' ∧ CE m KD ST LN VL σ0 i (C ++ List.replicate q (-9)) σ' := by
  intro q
  induction q with
  | zero =>
    intro x σ C fuel hx hf h hC
    obtain ⟨f, rfl, -⟩ := fu_s hf
    refine ⟨σ, kloop_r ?_, ?_⟩
    · show pf_Parser_takeLevel_12_l109 rc σ (k : Int) (x : Int) = _
      unfold pf_Parser_takeLevel_12_l109
      rw [if_pos (by omega)]
    · show CE m KD ST LN VL σ0 i (C ++ []) σ
      rw [List.append_nil]
      exact h
  | succ q ih =>
    intro x σ C fuel hx hf h hC
    obtain ⟨f, rfl, hm⟩ := fu_s hf
    obtain ⟨σ1, a1, a2⟩ := c_emit h (by omega) (-9)
    obtain ⟨σ2, b1, b2⟩ := ih (x + 1) σ1 (C ++ [-9]) f (by omega) (hm _ rfl) a2 (by rw [List.length_append, List.length_singleton]; omega)
    rw [rep_app] at b2
    refine ⟨σ2, ?_, b2⟩
    rw [← b1]
    refine kloop_l ?_
    show pf_Parser_takeLevel_12_l109 rc σ (k : Int) (x : Int) = _
    have ew := kw_inc (i := x) (by omega)
    unfold pf_Parser_takeLevel_12_l109
    rw [if_neg (by omega), kbind_eq a1, klet_eq, ew]
theorem cx_l109 {f p : Int} {rc : Nat → kM → Int → Int → Option kM} {k : Nat} (hk : k ≤ 6) : ∀ (q x : Nat) (σ : kM) (fuel : Nat), x + q = k → q < fuel → CX m KD ST LN VL σ0 f p σ → ∃ σ', kloop (fun st => pf_Parser_takeLevel_12_l109 rc st.1 (k : Int) st.2) fuel (σ, (x : Int)) = some σ' ∧ CX m KD ST LN VL σ0 f p σ' := by
  intro q
  induction q with
  | zero =>
    intro x σ fuel hx hf h
    obtain ⟨f, rfl, -⟩ := fu_s hf
    refine ⟨σ, kloop_r ?_, h⟩
    show pf_Parser_takeLevel_12_l109 rc σ (k : Int) (x : Int) = _
    unfold pf_Parser_takeLevel_12_l109
    rw [if_pos (by omega)]
  | succ q ih =>
    intro x σ fuel hx hf h
    obtain ⟨f, rfl, hm⟩ := fu_s hf
    obtain ⟨σ1, a1, a2⟩ := cx_emit h (-9)
    obtain ⟨σ2, b1, b2⟩ := ih (x + 1) σ1 f (by omega) (hm _ rfl) a2
    refine ⟨σ2, ?_, b2⟩
    rw [← b1]
    refine kloop_l ?_
    show pf_Parser_takeLevel_12_l109 rc σ (k : Int) (x : Int) = _
    have ew := kw_inc (i := x) (by omega)
    unfold pf_Parser_takeLevel_12_l109
    rw [if_neg (by omega), kbind_eq a1, klet_eq, ew]
theorem oC_m (hK : TKf T n m KD ST LN VL) : oC KD VL m = -1 := by
  unfold oC
  rw [hK.2.2.2.2.1]
  rfl
theorem cx_op (hK : TKf T n m KD ST LN VL) {f p : Int} (h : CX m KD ST LN VL σ0 f p σ) {l : Int} (h0 : 0 ≤ l) (h5 : l ≤ 5) : pf_Parser_operatorOf_12 σ l = some (-1) := by
  rw [c_opOf hK h.1.1 (Nat.le_refl _) h0 h5, if_neg (fun x => x.1 (oC_m hK))]
theorem cx_l50 (hK : TKf T n m KD ST LN VL) {f p : Int} {rc : Nat → kM → Int → Int → Option kM} (h : CX m KD ST LN VL σ0 f p σ) {l : Int} (h0 : 0 ≤ l) (h5 : l ≤ 5) (a x3 x4 x5 : Int) {fuel : Nat} : kloop (fun st => pf_Parser_takeLevel_12_l50 rc st.1 l a x3 x4 st.2) (fuel + 1) (σ, x5) = some σ := by
  refine kloop_r ?_
  show pf_Parser_takeLevel_12_l50 rc σ l a x3 x4 x5 = _
  unfold pf_Parser_takeLevel_12_l50
  by_cases c : x4 ≤ x5
  · rw [if_pos c]
  · rw [if_neg c, kbind_eq (cx_op hK h h0 h5), if_pos rfl]
theorem cx_j45 (hK : TKf T n m KD ST LN VL) {f p : Int} {rc : Nat → kM → Int → Int → Option kM} (h : CX m KD ST LN VL σ0 f p σ) {l : Int} (h0 : 0 ≤ l) (h5 : l ≤ 5) {k : Nat} (hk : k ≤ 6) (a x4 : Int) : ∃ σ', pf_Parser_takeLevel_12_j45 rc σ l a (k : Int) x4 = some σ' ∧ CX m KD ST LN VL σ0 f p σ' := by
  obtain ⟨σ2, b1, b2⟩ := cx_l109 (rc := rc) hk k 0 σ kFuel (by omega) (kFuel_lt (by omega)) h
  refine ⟨σ2, ?_, b2⟩
  obtain ⟨q, eq⟩ := kFuel_s
  have e1 : kloop (fun st => pf_Parser_takeLevel_12_l50 rc st.1 l a (k : Int) x4 st.2) kFuel (σ, 0) = some σ := by
    rw [eq]
    exact cx_l50 hK h h0 h5 a _ x4 0
  have b1' : kloop (fun st => pf_Parser_takeLevel_12_l109 rc st.1 (k : Int) st.2) kFuel (σ, 0) = some σ2 := b1
  unfold pf_Parser_takeLevel_12_j45
  rw [kbind_eq e1, kbind_eq b1']
theorem cx_j24 (hK : TKf T n m KD ST LN VL) {f p : Int} {rc : Nat → kM → Int → Int → Option kM} {σ1 : kM} {l : Nat} (h5 : l ≤ 5) {k : Nat} (hk : k ≤ 6) (a : Int) (h1 : rc 0 σ ((l + 1 : Nat) : Int) a = some σ1) (h : CX m KD ST LN VL σ0 f p σ1) : ∃ σ', pf_Parser_takeLevel_12_j24 rc σ (l : Int) a (k : Int) = some σ' ∧ CX m KD ST LN VL σ0 f p σ' := by
  have ew := kw_inc (i := l) (by omega)
  obtain ⟨σ2, a1, a2⟩ := cx_j45 hK (rc := rc) h (l := (l : Int)) (by omega) (by omega) hk a 1
  obtain ⟨σ3, b1, b2⟩ := cx_j45 hK (rc := rc) h (l := (l : Int)) (by omega) (by omega) hk a 700
  unfold pf_Parser_takeLevel_12_j24
  rw [ew, kbind_eq h1]
  by_cases c : (l : Int) = 3
  · rw [if_pos c]
    exact ⟨σ2, a1, a2⟩
  · rw [if_neg c]
    exact ⟨σ3, b1, b2⟩
theorem cx_part (hK : TKf T n m KD ST LN VL) {f p : Int} {rc : Nat → kM → Int → Int → Option kM} (h : CX m KD ST LN VL σ0 f p σ) (a : Int) : pf_Parser_takePart_12 rc σ a = some σ := by
  have hk := c_kind h.1.1 hK.m7 (Nat.le_refl _)
  rw [hK.2.2.2.2.1] at hk
  unfold pf_Parser_takePart_12
  rw [kbind_eq hk, if_neg (by decide), kbind_eq hk, if_neg (by decide), kbind_eq (c_isSign0 h.1.1 hK.m7 (Nat.le_refl _) (cf_sg hK 40)), if_pos rfl, kbind_eq (cf_refuse h.1 1)]
/-- where it is refused, a level goes on and says nothing -/
theorem cx_level (hK : TKf T n m KD ST LN VL) {f p : Int} : ∀ (d l : Nat) (σ : kM) (a : Int), l ≤ 6 → 8 ≤ d + l → CX m KD ST LN VL σ0 f p σ → ∃ σ', pf_gP d 0 σ (l : Int) a = some σ' ∧ CX m KD ST LN VL σ0 f p σ' := by
  intro d
  induction d with
  | zero => intro l σ a h6 h8 _; omega
  | succ d ih =>
    intro l σ a h6 h8 h
    rw [gP_0]
    unfold pf_Parser_takeLevel_12
    by_cases c : l ≤ 5
    · rw [if_pos (by omega)]
      obtain ⟨σ1, a1, a2⟩ := ih (l + 1) σ a (by omega) (by omega) h
      by_cases c2 : (l : Int) = 2
      · rw [if_pos c2]
        have hn := cf_wd hK (KD := KD) (VL := VL) 8
        obtain ⟨q, eq⟩ := kFuel_s
        have e1 : kloop (fun st => pf_Parser_takeNots_12_l4 st.1 st.2.1 st.2.2) kFuel (σ, 0, 0) = some (σ, 0) := by
          rw [eq]
          exact c_nend hK h.1.1 (Nat.le_refl _) (x := 0) (Or.inr hn)
        have e2 : pf_Parser_takeNots_12 σ = some (0, σ) := by
          unfold pf_Parser_takeNots_12
          rw [kbind_eq e1]
          show (pf_Tokens_isWord_24 σ 8).bind _ = _
          rw [kbind_eq (c_isWord0 hK h.1.1 hK.m7 (Nat.le_refl _) (by decide) hn), if_pos rfl]
        rw [kbind_eq e2]
        exact cx_j24 hK c (k := 0) (by decide) a a1 a2
      · rw [if_neg c2]
        exact cx_j24 hK c (k := 0) (by decide) a a1 a2
    · rw [if_neg (by omega)]
      obtain ⟨d', rfl⟩ : ∃ d', d = d' + 1 := ⟨d - 1, by omega⟩
      refine ⟨σ, ?_, h⟩
      rw [gP_1, kbind_eq (cx_part hK h a)]
end CXS

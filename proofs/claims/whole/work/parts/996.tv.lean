/-! state: the tokens as both see them -/
def TKf (T : Nat → Int) (n m : Nat) (KD ST LN VL : Nat → Int) : Prop := n ≤ 700 ∧ m ≤ n ∧ tK T n m = n ∧ (∀ j : Nat, j < m → tK T n j < n ∧ tkC T (tK T n j) (tE T n (tK T n j)) (KD j) (ST j) (LN j) (VL j)) ∧ KD m = 0 ∧ ST m = (n : Int)
def CT (m : Nat) (KD ST LN VL : Nat → Int) (i : Nat) (σ : kM) : Prop := σ 24 5 = (m : Int) ∧ σ 24 6 = (i : Int) ∧ σ 25 = KD ∧ σ 26 = ST ∧ σ 27 = LN ∧ σ 28 = VL
def TM (T : Nat → Int) (n i : Nat) (μ : kM) : Prop := μ 0 13 = (n : Int) ∧ tpM T n μ ∧ TMs T n (tK T n i) (tE T n (tK T n i)) (μ 0)
def SG (KD VL : Nat → Int) (i : Nat) (c : Int) : Prop := KD i = 3 ∧ VL i = c
def WD (KD VL : Nat → Int) (i : Nat) (c : Int) : Prop := KD i = 2 ∧ VL i = c
def kW (KD VL : Nat → Int) (i : Nat) : Int := if KD i = 2 then wR (VL i).toNat else -1
/-- what of a token both see -/
def TS (m : Nat) (KD ST LN VL : Nat → Int) (i : Nat) (μ : kM) : Prop := μ 0 16 = ST i ∧ mm_knownWord μ = some (kW KD VL i) ∧ (KD i = 0 → μ 0 15 = 0) ∧ (KD i = 1 → μ 0 15 = 2 ∧ μ 0 17 = LN i ∧ (LN i ≤ 4 → μ 0 18 = VL i)) ∧ (KD i = 2 → μ 0 15 = 1) ∧ (KD i = 3 → μ 0 15 = 3 ∧ μ 0 19 = VL i) ∧ (KD i = 4 → μ 0 15 = 4)
section TV
variable {T : Nat → Int} {n m : Nat} {KD ST LN VL : Nat → Int}
theorem TKf.kd (h : TKf T n m KD ST LN VL) {i : Nat} (hi : i ≤ m) : KD i = 0 ∧ i = m ∨ i < m ∧ (KD i = 1 ∨ KD i = 2 ∨ KD i = 3 ∨ KD i = 4) := by
  obtain ⟨h1, h2, h3, h4, h5, h6⟩ := h
  by_cases c : i = m
  · subst c
    exact Or.inl ⟨h5, rfl⟩
  · have hlt : i < m := Nat.lt_of_le_of_ne hi c
    refine Or.inr ⟨hlt, ?_⟩
    obtain ⟨a, b1, b2, b3, b4, b5⟩ := h4 i hlt
    by_cases cL : pL (T (tK T n i)) = true
    · exact Or.inr (Or.inl (b3 cL).1)
    · by_cases cD : pD (T (tK T n i)) = true
      · exact Or.inl (b4 cD).1
      · by_cases cG : pG (T (tK T n i)) = true
        · exact Or.inr (Or.inr (Or.inl ((b5 cL cD).1 cG).1))
        · exact Or.inr (Or.inr (Or.inr ((b5 cL cD).2 cG)))
theorem TKf.wd (h : TKf T n m KD ST LN VL) {i : Nat} (hi : i ≤ m) (hk : KD i = 2) : 0 ≤ VL i ∧ VL i < 18 := by
  rcases h.kd hi with ⟨a, b⟩ | ⟨hlt, -⟩
  · rw [a] at hk
    exact absurd hk (by decide)
  · obtain ⟨h1, h2, h3, h4, h5, h6⟩ := h
    obtain ⟨a, b1, b2, b3, b4, b5⟩ := h4 i hlt
    by_cases cL : pL (T (tK T n i)) = true
    · obtain ⟨-, w, e, hw, -⟩ := b3 cL
      rw [e]
      omega
    · by_cases cD : pD (T (tK T n i)) = true
      · rw [(b4 cD).1] at hk
        exact absurd hk (by decide)
      · by_cases cG : pG (T (tK T n i)) = true
        · rw [((b5 cL cD).1 cG).1] at hk
          exact absurd hk (by decide)
        · rw [(b5 cL cD).2 cG] at hk
          exact absurd hk (by decide)
theorem TKf.nm (h : TKf T n m KD ST LN VL) {i : Nat} (hi : i ≤ m) (hk : KD i = 1) (hl : LN i ≤ 4) : 0 ≤ VL i ∧ VL i ≤ 9999 := by
  rcases h.kd hi with ⟨a, b⟩ | ⟨hlt, -⟩
  · rw [a] at hk
    exact absurd hk (by decide)
  · obtain ⟨h1, h2, h3, h4, h5, h6⟩ := h
    obtain ⟨a, b1, b2, b3, b4, b5⟩ := h4 i hlt
    by_cases cD : pD (T (tK T n i)) = true
    · obtain ⟨-, e⟩ := b4 cD
      obtain ⟨-, hD⟩ := tE_D a cD
      have hg := tE_ge (T := T) a
      rw [b2] at hl
      rw [e]
      clear e b1 b2 b3 b4 b5 h3 h4
      generalize tE T n (tK T n i) = x at *
      generalize tK T n i = s at *
      have hd : ∀ j, j < x - s → 48 ≤ T (s + j) ∧ T (s + j) ≤ 57 := fun j hj => pD_t.mp (hD (s + j) (by omega) (by omega))
      obtain ⟨e1, e2, e3, e4⟩ := zvCM T s (x - s) (by omega) hd
      rw [e1]
      exact ⟨e2, by omega⟩
    · by_cases cL : pL (T (tK T n i)) = true
      · rw [(b3 cL).1] at hk
        exact absurd hk (by decide)
      · by_cases cG : pG (T (tK T n i)) = true
        · rw [((b5 cL cD).1 cG).1] at hk
          exact absurd hk (by decide)
        · rw [(b5 cL cD).2 cG] at hk
          exact absurd hk (by decide)
theorem TM.ts (h : TKf T n m KD ST LN VL) {i : Nat} (hi : i ≤ m) {μ : kM} (hM : TM T n i μ) : TS m KD ST LN VL i μ := by
  obtain ⟨m1, m2, m3, m4, m5, m6⟩ := hM
  rcases h.kd hi with ⟨a, b⟩ | ⟨hlt, -⟩
  · obtain ⟨h1, h2, h3, h4, h5, h6⟩ := h
    rw [b, h3] at m3 m5
    have m5 := m5 (Nat.le_refl _)
    refine ⟨by rw [m3, b, h6], ?_, fun _ => m5, fun x => ?_, fun x => ?_, fun x => ?_, fun x => ?_⟩
    · unfold kW
      rw [a, if_neg (by decide)]
      exact m_known0 (by rw [m5]; decide)
    all_goals (rw [a] at x; exact absurd x (by decide))
  · obtain ⟨h1, h2, h3, h4, h5, h6⟩ := h
    obtain ⟨a, b1, b2, b3, b4, b5⟩ := h4 i hlt
    obtain ⟨q1, q2, q3⟩ := m6 a
    have e16 : μ 0 16 = ST i := by rw [m3, b1]
    by_cases cL : pL (T (tK T n i)) = true
    · obtain ⟨k1, w, k2, k3⟩ := b3 cL
      obtain ⟨r1, r2, r3⟩ := q1 cL
      refine ⟨e16, ?_, fun x => ?_, fun x => ?_, fun x => r1, fun x => ?_, fun x => ?_⟩
      · unfold kW
        rw [k1, if_pos rfl, k2, Int.toNat_natCast]
        exact m_known r1 r2 r3 (tE_L a cL).2 k3
      all_goals (rw [k1] at x; exact absurd x (by decide))
    · by_cases cD : pD (T (tK T n i)) = true
      · obtain ⟨k1, k2⟩ := b4 cD
        obtain ⟨r1, r2, r3⟩ := q2 cD
        refine ⟨e16, ?_, fun x => ?_, fun x => ⟨r1, by rw [r2, b2], fun hl => ?_⟩, fun x => ?_, fun x => ?_, fun x => ?_⟩
        · unfold kW
          rw [k1, if_neg (by decide)]
          exact m_known0 (by rw [r1]; decide)
        · rw [k1] at x
          exact absurd x (by decide)
        · rw [r3, k2]
          rw [b2] at hl
          obtain ⟨-, hD⟩ := tE_D a cD
          have hg := tE_ge (T := T) a
          clear r3 k2 b1 b2 b3 b4 b5 h3 h4 q1 q2 q3 m3 m4 m5 m6 r2 e16
          generalize tE T n (tK T n i) = x at *
          generalize tK T n i = s at *
          exact (zvCM T s (x - s) (by omega) (fun j hj => pD_t.mp (hD (s + j) (by omega) (by omega)))).1.symm
        all_goals (rw [k1] at x; exact absurd x (by decide))
      · have r1 := q3 cL cD
        have k1 := b5 cL cD
        by_cases cG : pG (T (tK T n i)) = true
        · have k1 := k1.1 cG
          have r1 := r1.1 cG
          refine ⟨e16, ?_, fun x => ?_, fun x => ?_, fun x => ?_, fun x => ⟨r1.1, by rw [r1.2, k1.2]⟩, fun x => ?_⟩
          · unfold kW
            rw [k1.1, if_neg (by decide)]
            exact m_known0 (by rw [r1.1]; decide)
          all_goals (rw [k1.1] at x; exact absurd x (by decide))
        · have k1 := k1.2 cG
          have r1 := r1.2 cG
          refine ⟨e16, ?_, fun x => ?_, fun x => ?_, fun x => ?_, fun x => ?_, fun x => r1⟩
          · unfold kW
            rw [k1, if_neg (by decide)]
            exact m_known0 (by rw [r1]; decide)
          all_goals (rw [k1] at x; exact absurd x (by decide))
theorem TM.go (h : TKf T n m KD ST LN VL) {i : Nat} {μ : kM} (hM : TM T n i μ) : ∃ g, mm_goes μ = some (kst μ 0 g) ∧ (∀ j : Nat, j < 14 ∨ 20 < j → g j = μ 0 j) ∧ TM T n (i + 1) (kst μ 0 g) := by
  obtain ⟨m1, m2, m3⟩ := hM
  obtain ⟨g, a1, a2, a3⟩ := m_goes_of (μ := μ) h.1 m2 (tE_le T) m1 m3.2.1
  refine ⟨g, a1, a2, ?_, m2.kst0, ?_⟩
  · rw [kst_eq, a2 13 (by decide)]
    exact m1
  · rw [kst_eq]
    exact a3
theorem TM.upd {i : Nat} {μ μ' : kM} (hM : TM T n i μ) (h2 : μ' 2 = μ 2) (h0 : ∀ j : Nat, 13 ≤ j → j ≤ 20 → μ' 0 j = μ 0 j) : TM T n i μ' := by
  obtain ⟨m1, m2, m3, m4, m5, m6⟩ := hM
  refine ⟨by rw [h0 13 (by decide) (by decide)]; exact m1, fun k hk => by rw [h2]; exact m2 k hk, ?_⟩
  unfold TMs
  rw [h0 14 (by decide) (by decide), h0 15 (by decide) (by decide), h0 16 (by decide) (by decide), h0 17 (by decide) (by decide), h0 18 (by decide) (by decide), h0 19 (by decide) (by decide), h0 20 (by decide) (by decide)]
  exact ⟨m3, m4, m5, m6⟩
end TV

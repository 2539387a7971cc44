/-! CALLS: truths, listen. Years that are felt; a guess -/
section GUESS
variable {N M tp : Int} {L : Nat → Int} {PH PF PB : List Int} {σ σ' μ μ' : kM} {q q' : Nat → Int} {f : Int} {F : Nat → Int}
theorem c_allFelt (h : CN N M tp L PH PF PB σ q) (hF : CF σ f F) {n : Int} (hn : 0 ≤ n ∧ n ≤ 20) : ∃ r σ', pf_Oracle_allFelt_57 σ n = some (r, σ') ∧ frF σ σ' ∧ (r = 0 ∧ ¬ tH N M PH PF PB L f F n.toNat (trow q) ∨ r = 1 ∧ tH N M PH PF PB L f F n.toNat (trow q) ∧ (5 ≤ n → ∀ p : Nat, p < 8 → σ' 60 p = yrs N M PH PF PB L 5 (trow q) (9 + p))) := by
  unfold pf_Oracle_allFelt_57
  obtain ⟨σ1, a1, a2, a3⟩ := c_begin h
  rw [kbind_eq a1]
  obtain ⟨r, g1, g2⟩ := kOk_for (body := fun st => pf_Oracle_allFelt_57_l6 st.1 n st.2) (P := Sum.elim (fun s => frF σ s ∧ ¬ tH N M PH PF PB L f F n.toNat (trow q)) (fun s => frF σ s ∧ tH N M PH PF PB L f F n.toNat (trow q) ∧ (5 ≤ n → ∀ p : Nat, p < 8 → s 60 p = yrs N M PH PF PB L 5 (trow q) (9 + p)))) n.toNat (fun i st => st.2 = (i : Int) + 1 ∧ TC N M tp L PH PF PB st.1 (yrs N M PH PF PB L i (trow q)) ∧ frF σ st.1 ∧ tH N M PH PF PB L f F i (trow q) ∧ (5 ≤ i → ∀ p : Nat, p < 8 → st.1 60 p = yrs N M PH PF PB L 5 (trow q) (9 + p))) (fun i st hi hI => by
    have c0 : ¬ n < (i : Int) + 1 := by omega
    have cc : ∀ x : kM, pf_Oracle_allFelt_57_l6_j63 x n ((i : Int) + 1) = some (Sum.inl (x, ((i + 1 : Nat) : Int) + 1)) := fun x => by
      unfold pf_Oracle_allFelt_57_l6_j63
      rw [klet_eq, w32_s (by omega) (by omega)]
      rfl
    have ci : ((i + 1 : Nat) : Int) = (i : Int) + 1 := rfl
    have hin : i + 1 ≤ n.toNat := hi
    obtain ⟨σ2, x⟩ := st
    obtain ⟨rfl, h1, h2, h3, h4⟩ := hI
    have h1 : TC N M tp L PH PF PB σ2 (yrs N M PH PF PB L i (trow q)) := h1
    have h2 : frF σ σ2 := h2
    obtain ⟨σ3, t1, t2, t3⟩ := c_tstep h1 0
    have t2 : TC N M tp L PH PF PB σ3 (yrs N M PH PF PB L (i + 1) (trow q)) := t2
    have h3f : frF σ σ3 := h2.trans (frF.fr64 t3)
    have e6 : σ3 65 6 = yrs N M PH PF PB L (i + 1) (trow q) 195 := t2.2.2.1.2.2.2.2.2.1
    obtain ⟨r, u1, u2⟩ := c_agrees (hF.kp h3f.kp) ((i : Int) + 1) (σ3 65 6)
    rw [e6] at u2
    show kOk (pf_Oracle_allFelt_57_l6 σ2 n ((i : Int) + 1)) _
    unfold pf_Oracle_allFelt_57_l6
    rw [if_neg c0, kbind_eq t1, kbind_eq u1]
    rcases u2 with ⟨rfl, u3⟩ | ⟨rfl, u3⟩
    · rw [if_pos rfl]
      exact ⟨_, rfl, h3f, fun hh => u3 (hh (i + 1) (by omega) hin)⟩
    · rw [if_neg (by decide)]
      have hT : tH N M PH PF PB L f F (i + 1) (trow q) := by
        intro k k1 k2
        by_cases e : k = i + 1
        · subst e
          exact u3
        · exact h3 k k1 (by omega)
      by_cases e5 : (i : Int) + 1 = 5
      · rw [if_pos e5, klet_eq, cc]
        have i5 : i + 1 = 5 := by omega
        refine ⟨_, rfl, rfl, t2.put (by decide), h3f.trans frF.put60, hT, fun _ p hp => ?_⟩
        show kst σ3 60 (va_cpy (σ3 59) (σ3 60) 9 0 8) 60 p = _
        rw [kst_eq]
        unfold va_cpy
        rw [if_pos ⟨by omega, by omega⟩, show 9 + (p - 0) = (9 + (p : Int)).toNat by omega, t2.2.2.1.1.scars (by omega) (by omega), i5, show (9 + (p : Int)).toNat = 9 + p by omega]
      · rw [if_neg e5, cc]
        refine ⟨_, rfl, rfl, t2, h3f, hT, fun h5 p hp => ?_⟩
        show σ3 60 p = _
        rw [t3 60 (by decide) (by decide) (by decide) (by decide) (by decide) (by decide) (by decide) (by decide)]
        exact h4 (by omega) p hp) (fun st hI => by
    obtain ⟨σ2, x⟩ := st
    obtain ⟨rfl, h1, h2, h3, h4⟩ := hI
    refine ⟨.inr (.inr σ2), ?_, h2, h3, fun h5 => h4 (by omega)⟩
    show pf_Oracle_allFelt_57_l6 σ2 n (((n.toNat : Nat) : Int) + 1) = _
    unfold pf_Oracle_allFelt_57_l6
    rw [if_pos (by omega)]) (kFuel_lt (by omega)) (σ1, 1) ⟨rfl, a2, frF.fr64 a3, fun k k1 k2 => absurd k1 (by omega), fun h5 => absurd h5 (by omega)⟩
  rw [kbind_eq g1]
  cases r with
  | inl s => exact ⟨0, s, rfl, g2.1, Or.inl ⟨rfl, g2.2⟩⟩
  | inr s => exact ⟨1, s, rfl, g2.1, Or.inr ⟨rfl, g2.2⟩⟩
/-- kept, and the rows that are laid out -/
def kpU (μ μ' : kM) : Prop := kpT μ μ' ∧ μ' 21 = μ 21
theorem kpU.rfl {μ : kM} : kpU μ μ := ⟨⟨kpM.rfl, Eq.refl _⟩, Eq.refl _⟩
theorem kpU.trans {μ μ' μ'' : kM} (h : kpU μ μ') (h' : kpU μ' μ'') : kpU μ μ'' := ⟨h.1.trans h'.1, h'.2.trans h.2⟩
theorem kpU.fr {μ μ' : kM} (h : frM 145 μ μ') : kpU μ μ' := ⟨kpT.fr h, h.1 21 (by decide) (by decide) (by decide)⟩
theorem TN.k20 (h : TN N M tp L PH PF PB μ q) (hc : ∀ c : Nat, c ≠ 20 → μ' c = μ c) : TN N M tp L PH PF PB μ' q := by
  obtain ⟨h1, h2, h3, ⟨w1, w2, w3, w4⟩, h5⟩ := h
  refine ⟨h1, h2.kept (fun j a b => by rw [hc 0 (by decide)]) (hc 1 (by decide)), h3.kept (hc 8 (by decide)), ⟨fun k hk => ?_, fun k hk => ?_, ?_, ?_⟩, h5⟩
  · rw [hc 10 (by decide), hc 11 (by decide), hc 12 (by decide), hc 13 (by decide)]
    exact w1 k hk
  · rw [hc 14 (by decide)]
    exact w2 k hk
  · rw [hc 0 (by decide)]
    exact w3
  · rw [hc 0 (by decide)]
    exact w4
theorem kpU.k20 (hc : ∀ c : Nat, c ≠ 20 → μ' c = μ c) : kpU μ μ' := ⟨⟨⟨fun c h => hc c (by omega), fun j _ => by rw [hc 0 (by decide)], fun k _ => by rw [hc 8 (by decide)]⟩, by rw [hc 0 (by decide)]⟩, hc 21 (by decide)⟩
theorem m_isFelt (h : TN N M tp L PH PF PB μ q) (h48 : μ 0 48 = 0) (hf : μ 0 53 = f) (hf8 : 0 ≤ f ∧ f ≤ 8) (hF : μ 19 = F) : ∃ r μ', mm_isFelt μ = some (r, μ') ∧ kpU μ μ' ∧ (r = 0 ∧ ¬ tH N M PH PF PB L f F 20 q ∨ r = 1 ∧ tH N M PH PF PB L f F 20 q ∧ ∀ p : Nat, (p : Int) < N → μ' 20 p = yrs N M PH PF PB L 5 q (9 + p)) := by
  have hn1 := h.1.1
  unfold mm_isFelt
  obtain ⟨r, g1, g2⟩ := kOk_for (body := fun st => mm_isFelt_l2 st.1 st.2) (P := Sum.elim (fun s => kpU μ s ∧ ¬ tH N M PH PF PB L f F 20 q) (fun s => kpU μ s ∧ tH N M PH PF PB L f F 20 q ∧ ∀ p : Nat, (p : Int) < N → s 20 p = yrs N M PH PF PB L 5 q (9 + p))) 20 (fun i st => st.2 = (i : Int) + 1 ∧ TN N M tp L PH PF PB st.1 (yrs N M PH PF PB L i q) ∧ kpU μ st.1 ∧ tH N M PH PF PB L f F i q ∧ (5 ≤ i → ∀ p : Nat, (p : Int) < N → st.1 20 p = yrs N M PH PF PB L 5 q (9 + p))) (fun i st hi hI => by
    have c0 : ¬ (20 : Int) < (i : Int) + 1 := by omega
    have cc : ∀ x : kM, mm_isFelt_l2_j112 x ((i : Int) + 1) = some (Sum.inl (x, ((i + 1 : Nat) : Int) + 1)) := fun x => by
      unfold mm_isFelt_l2_j112
      rw [klet_eq, w32_s (by omega) (by omega)]
      rfl
    obtain ⟨μ2, x⟩ := st
    obtain ⟨rfl, h1, h2, h3, h4⟩ := hI
    have h1 : TN N M tp L PH PF PB μ2 (yrs N M PH PF PB L i q) := h1
    have h2 : kpU μ μ2 := h2
    obtain ⟨μ3, t1, t2, t4, t3⟩ := m_tstep h1 (acc := 0) (by rw [h2.1.1.2.1 48 (by decide)]; exact h48)
    have t2 : TN N M tp L PH PF PB μ3 (yrs N M PH PF PB L (i + 1) q) := t2
    have h3f : kpU μ μ3 := h2.trans (kpU.fr t3)
    have e6 : μ3 0 49 = yrs N M PH PF PB L (i + 1) q 195 := t4.1
    have e19 : μ3 19 = F := (h3f.1.1.1 19 (by decide)).trans hF
    obtain ⟨r, u1, u2⟩ := m_agrees (μ := μ3) ((h3f.1.1.2.1 53 (by decide)).trans hf) hf8 ((i : Int) + 1)
    rw [e6, e19] at u2
    show kOk (mm_isFelt_l2 μ2 ((i : Int) + 1)) _
    unfold mm_isFelt_l2
    rw [if_neg c0, kbind_eq t1, kbind_eq u1]
    rcases u2 with ⟨rfl, u3⟩ | ⟨rfl, u3⟩
    · exact ⟨_, rfl, h3f, fun hh => u3 (hh (i + 1) (by omega) (by omega))⟩
    · dsimp only
      have hT : tH N M PH PF PB L f F (i + 1) q := by
        intro k k1 k2
        by_cases e : k = i + 1
        · subst e
          exact u3
        · exact h3 k k1 (by omega)
      by_cases e5 : (i : Int) + 1 = 5
      · have i5 : i + 1 = 5 := by omega
        obtain ⟨μ4, v1, v2, v3⟩ := kl_M (body := fun st => mm_isFelt_l82 st.1 ((i : Int) + 1) st.2) (fun k μ4 => (∀ c : Nat, c ≠ 20 → μ4 c = μ3 c) ∧ ∀ p : Nat, p < k → μ4 20 p = yrs N M PH PF PB L 5 q (9 + p)) (fun k => (k : Int)) N.toNat (by omega) (fun k μ4 hk hs => by
          obtain ⟨s1, s2⟩ := hs
          have s1 : ∀ c : Nat, c ≠ 20 → μ4 c = μ3 c := s1
          have ew := kw_inc (i := k) (by omega)
          have e8 := t2.2.2.1.at (j := (154 + (k : Int)).toNat) (i := 9 + (k : Int)) (by omega) (by omega) (by decide) (by omega)
          refine ⟨kst μ4 20 (kup (μ4 20) k (μ4 8 (154 + (k : Int)).toNat)), ?_, fun c hc => by rw [kst_ne hc]; exact s1 c hc, fun p hp => ?_⟩
          · show mm_isFelt_l82 μ4 ((i : Int) + 1) (k : Int) = _
            unfold mm_isFelt_l82
            rw [s1 0 (by decide), t2.2.1.2.1, if_neg (by omega), w32_s (v := 154 + (k : Int)) (by omega) (by omega), kchk_t (by omega), kchk_t (by omega), klet_eq, klet_eq, ew, Int.toNat_natCast]
          · rw [kst_eq]
            by_cases e : p = k
            · subst e
              rw [kup_eq, s1 8 (by decide), e8, i5, show (9 + (p : Int)).toNat = 9 + p by omega]
            · rw [kup_ne e]
              exact s2 p (by omega)) (fun μ4 hs => by
          refine ⟨μ4, ?_, hs⟩
          show mm_isFelt_l82 μ4 ((i : Int) + 1) ((N.toNat : Nat) : Int) = _
          unfold mm_isFelt_l82
          rw [hs.1 0 (by decide), t2.2.1.2.1, if_pos (by omega)]) (σ := μ3) ⟨fun _ _ => rfl, fun p hp => absurd hp (by omega)⟩ (b0 := 0) rfl
        rw [if_pos e5, kbind_eq v1, cc]
        exact ⟨_, rfl, rfl, t2.k20 v2, h3f.trans (kpU.k20 v2), hT, fun _ p hp => v3 p (by omega)⟩
      · rw [if_neg e5, cc]
        refine ⟨_, rfl, rfl, t2, h3f, hT, fun h5 p hp => ?_⟩
        show μ3 20 p = _
        rw [t3.1 20 (by decide) (by decide) (by decide)]
        exact h4 (by omega) p hp) (fun st hI => by
    obtain ⟨μ2, x⟩ := st
    obtain ⟨rfl, h1, h2, h3, h4⟩ := hI
    refine ⟨.inr (.inr μ2), ?_, h2, h3, fun p hp => h4 (by decide) p hp⟩
    show mm_isFelt_l2 μ2 (((20 : Nat) : Int) + 1) = _
    unfold mm_isFelt_l2
    rw [if_pos (by decide)]) (kFuel_lt (by decide)) (μ, 1) ⟨rfl, h, kpU.rfl, fun k k1 k2 => absurd k1 (by omega), fun h5 => absurd h5 (by omega)⟩
  rw [kbind_eq g1]
  cases r with
  | inl s => exact ⟨0, s, rfl, g2.1, Or.inl ⟨rfl, g2.2⟩⟩
  | inr s => exact ⟨1, s, rfl, g2.1, Or.inr ⟨rfl, g2.2⟩⟩
/-- the place of what a guess speaks of, and the row by it -/
def gAt (g : Nat) : Nat := 113 + 4 * (g / 100) + g / 10 % 10
def gRow (q : Nat → Int) (g : Nat) : Nat → Int := kup (trow q) (gAt g) ((g % 10 : Nat) : Int)
def gOK (N M tp : Int) (PH PF PB : List Int) (L : Nat → Int) (f : Int) (F : Nat → Int) (q : Nat → Int) (g : Nat) : Prop := ((g / 10 % 10 : Nat) : Int) < tp ∧ q (gAt g) ≠ ((g % 10 : Nat) : Int) ∧ tH N M PH PF PB L f F 20 (gRow q g)
theorem m_isGuess (h : MN N M tp L PH PF PB μ q) (hf : μ 0 53 = f) (hf8 : 0 ≤ f ∧ f ≤ 8) (hF : μ 19 = F) {g : Nat} (hg : (g : Int) < 100 * N) : ∃ r μ', mm_isGuess μ (g : Int) = some (r, μ') ∧ kpU μ μ' ∧ (r = 0 ∧ ¬ gOK N M tp PH PF PB L f F q g ∨ r = 1 ∧ gOK N M tp PH PF PB L f F q g ∧ ∀ p : Nat, (p : Int) < N → μ' 20 p = yrs N M PH PF PB L 5 (gRow q g) (9 + p)) := by
  have hn1 := h.1.1
  have hn3 := h.1.2.2.1
  have e1 : kdiv (g : Int) 100 = ((g / 100 : Nat) : Int) := by
    rw [kdiv_nn ⟨by omega, by omega⟩ (by decide)]
    rfl
  have e2 : krem (kdiv (g : Int) 10) 10 = ((g / 10 % 10 : Nat) : Int) := by
    rw [kdiv_nn ⟨by omega, by omega⟩ (by decide), krem_nn ⟨by omega, by omega⟩ (by decide)]
    rfl
  have e3 : krem (g : Int) 10 = ((g % 10 : Nat) : Int) := by
    rw [krem_nn ⟨by omega, by omega⟩ (by decide)]
    rfl
  have ea : w32 (w32 (113 + w32 (4 * ((g / 100 : Nat) : Int))) + ((g / 10 % 10 : Nat) : Int)) = (gAt g : Int) := by
    unfold gAt
    rw [w32_s (v := 4 * ((g / 100 : Nat) : Int)) (by omega) (by omega), w32_s (v := 113 + 4 * ((g / 100 : Nat) : Int)) (by omega) (by omega), w32_s (by omega) (by omega)]
    omega
  have ha : gAt g = 113 + 4 * (g / 100) + g / 10 % 10 := rfl
  have hv : g % 10 < 10 := Nat.mod_lt _ (by decide)
  have h100 : g / 100 < 8 := by omega
  unfold mm_isGuess
  rw [e1, e2, e3, ea, klet_eq, h.2.1.1]
  by_cases c1 : tp ≤ ((g / 10 % 10 : Nat) : Int)
  · rw [if_pos c1]
    exact ⟨0, μ, rfl, kpU.rfl, Or.inl ⟨rfl, fun hh => absurd hh.1 (by omega)⟩⟩
  · have hat : 113 ≤ gAt g ∧ gAt g < 145 := by omega
    have e8 : μ 8 (gAt g) = q (gAt g) := h.2.2.1.at (i := (gAt g : Int)) (by omega) (by omega) (by decide) (by omega)
    rw [if_neg c1, kchk_t (by omega), Int.toNat_natCast, e8]
    by_cases c2 : q (gAt g) = ((g % 10 : Nat) : Int)
    · rw [if_pos c2]
      exact ⟨0, μ, rfl, kpU.rfl, Or.inl ⟨rfl, fun hh => hh.2.1 c2⟩⟩
    · rw [if_neg c2]
      obtain ⟨μ1, t1, t2, t3⟩ := m_tries h
      obtain ⟨u1, u2⟩ := m_tset t2 (i := (gAt g : Int)) (j := (145 + (gAt g : Int)).toNat) (v := ((g % 10 : Nat) : Int)) (by omega) (by omega) rfl (by unfold bd; omega)
      rw [Int.toNat_natCast] at u1
      have hk : kpU μ (kst μ1 8 (kup (μ1 8) (145 + (gAt g : Int)).toNat ((g % 10 : Nat) : Int))) := kpU.fr (t3.trans u2)
      obtain ⟨r, μ2, v1, v2, v3⟩ := m_isFelt (f := f) (F := F) u1 ((hk.1.1.2.1 48 (by decide)).trans h.2.2.2.2) ((hk.1.1.2.1 53 (by decide)).trans hf) hf8 ((hk.1.1.1 19 (by decide)).trans hF)
      rw [kbind_eq t1, w32_s (v := 145 + (gAt g : Int)) (by omega) (by omega), kchk_t (by omega), klet_eq, kbind_eq v1]
      dsimp only
      rw [kchk_t (by omega)]
      refine ⟨r, μ2, rfl, hk.trans v2, ?_⟩
      rcases v3 with ⟨r0, v4⟩ | ⟨r1, v4, v5⟩
      · exact Or.inl ⟨r0, fun hh => v4 hh.2.2⟩
      · exact Or.inr ⟨r1, ⟨by omega, c2, v4⟩, v5⟩
theorem RCr.setT {W : Nat} (h : RCr N M tp L σ W q) (hW : 6 < W) {i : Nat} (v : Int) : RCr N M tp L (kst σ 5 (kup (σ 5) i v)) W (kup q (113 + i) v) := by
  intro k hk ho
  have h1 := h k hk ho
  unfold vC at *
  rw [kst_ne (show W ≠ 5 by omega), kst_ne (show (4 : Nat) ≠ 5 by decide), kst_ne (show (6 : Nat) ≠ 5 by decide), kst_eq]
  by_cases c : k < 113
  · rw [kup_ne (show k ≠ 113 + i by omega), ← h1]
    by_cases c1 : k < 17
    · rw [if_pos c1, if_pos c1]
    rw [if_neg c1, if_neg c1]
    by_cases c2 : k < 29
    · rw [if_pos c2, if_pos c2]
    rw [if_neg c2, if_neg c2]
    by_cases c3 : k < 61
    · rw [if_pos c3, if_pos c3]
    rw [if_neg c3, if_neg c3]
    by_cases c4 : k < 65
    · rw [if_pos c4, if_pos c4]
    rw [if_neg c4, if_neg c4]
    by_cases c5 : k < 89
    · rw [if_pos c5, if_pos c5]
    rw [if_neg c5, if_neg c5, if_pos c, if_pos c]
  · rw [if_neg (by omega), if_neg (by omega), if_neg (by omega), if_neg (by omega), if_neg (by omega), if_neg c] at h1 ⊢
    by_cases e : k = 113 + i
    · subst e
      rw [kup_eq, show 113 + i - 113 = i by omega, kup_eq]
    · rw [kup_ne e, kup_ne (by omega)]
      exact h1
theorem CN.setT (h : CN N M tp L PH PF PB σ q) {i : Nat} {v : Int} (hi : i < 32) (hv : 0 ≤ v ∧ v ≤ 9) : CN N M tp L PH PF PB (kst σ 5 (kup (σ 5) i v)) (kup q (113 + i) v) :=
  ⟨h.1, h.2.1.kept (kst_ne (by decide)) (kst_ne (by decide)) (kst_ne (by decide)) (kst_ne (by decide)) (kst_ne (by decide)), h.2.2.1.setT (by decide) v, h.2.2.2.up (fun _ => by unfold bd; omega)⟩
theorem trow_up {i : Nat} {v : Int} (hi : i < 145) : trow (kup q i v) = kup (trow q) i v := by
  funext k
  unfold trow
  by_cases e : k = i
  · subst e
    rw [kup_eq, kup_eq, if_pos hi]
  · rw [kup_ne e, kup_ne e]
theorem c_suppose {p t v : Int} (hp : 0 ≤ p ∧ p < 8) (ht : 0 ≤ t ∧ t < 4) : pf_Law_suppose_3 σ p t v = some (kst σ 5 (kup (σ 5) (4 * p + t).toNat v)) := by
  unfold pf_Law_suppose_3
  rw [w32_s (v := p * 4) (by omega) (by omega), w32_s (v := p * 4 + t) (by omega) (by omega), kchk_t (by omega), klet_eq, show p * 4 + t = 4 * p + t by omega]
theorem c_truthOf {p t : Int} (hp : 0 ≤ p ∧ p < 8) (ht : 0 ≤ t ∧ t < 4) : pf_Law_truthOf_3 σ p t = some (σ 5 (4 * p + t).toNat) := by
  unfold pf_Law_truthOf_3
  rw [w32_s (v := p * 4) (by omega) (by omega), w32_s (v := p * 4 + t) (by omega) (by omega), kchk_t (by omega), show p * 4 + t = 4 * p + t by omega]
end GUESS

/-! CALLS: game -/
section GAME
variable {N M tp : Int} {L : Nat → Int} {PH PF PB : List Int} {σ σ' μ μ' : kM} {q q' : Nat → Int}
def brn (L : Nat → Int) (b : Int) (w : Int) (q : Nat → Int) : Nat → Int := if b = 1 then kup q (21 + w).toNat (nxt L q w) else q
def gP (w : Int) (r : Nat → Int) : Int := w32 (r (17 + w).toNat - w32 (3 * r (25 + w).toNat))
/-- the state behind four years, by two choices -/
def gS (N M : Int) (PH PF PB : List Int) (L : Nat → Int) (q : Nat → Int) (w o a b : Int) : Nat → Int := yrs N M PH PF PB L 4 (brn L b o (brn L a w (trow q)))
theorem brn_comm {w o a b : Int} (hw : 0 ≤ w) (ho : 0 ≤ o) (hne : w ≠ o) : brn L b o (brn L a w q) = brn L a w (brn L b o q) := by
  unfold brn
  by_cases h1 : a = 1
  · by_cases h2 : b = 1
    · rw [if_pos h1, if_pos h2, if_pos h2, if_pos h1]
      have e1 : nxt L (kup q (21 + w).toNat (nxt L q w)) o = nxt L q o := by
        unfold nxt
        rw [kup_ne (show (21 + o).toNat ≠ (21 + w).toNat by omega)]
      have e2 : nxt L (kup q (21 + o).toNat (nxt L q o)) w = nxt L q w := by
        unfold nxt
        rw [kup_ne (show (21 + w).toNat ≠ (21 + o).toNat by omega)]
      rw [e1, e2]
      exact kup_comm (by omega)
    · rw [if_pos h1, if_neg h2, if_neg h2, if_pos h1]
  · by_cases h2 : b = 1
    · simp only [if_neg h1, if_pos h2]
    · simp only [if_neg h1, if_neg h2]
theorem c_brn (h : TC N M tp L PH PF PB σ q) {w b : Int} (hw : 0 ≤ w ∧ w < M) (hb : b = 1) : ∃ σ', pf_Stage_turnPage_64 σ w = some σ' ∧ TC N M tp L PH PF PB σ' (brn L b w q) ∧ fr64 σ σ' := by
  unfold brn
  rw [if_pos hb]
  exact c_tburn h hw
theorem m_brn (h : TN N M tp L PH PF PB μ q) {w b : Int} (hw : 0 ≤ w ∧ w < M) (hb : b = 1) : ∃ μ', mm_burns μ 145 w = some μ' ∧ TN N M tp L PH PF PB μ' (brn L b w q) ∧ frM 145 μ μ' := by
  unfold brn
  rw [if_pos hb]
  exact m_tburn h hw
theorem c_gain (h : TC N M tp L PH PF PB σ q) {w : Int} (hw : 0 ≤ w ∧ w < M) : pf_Oracle_gainOf_57 σ w = some (gP w q) := by
  have hn2 := h.1.2.1
  unfold pf_Oracle_gainOf_57 gP
  rw [w32_s (v := 49 + w) (by omega) (by omega), kchk_t (by omega), w32_s (v := 57 + w) (by omega) (by omega), kchk_t (by omega), h.2.2.1.1.pence hw.1 (by omega), h.2.2.1.1.sits hw.1 (by omega)]
theorem m_gains (h : MN N M tp L PH PF PB μ q) {w o a b : Int} (hw : 0 ≤ w ∧ w < M) (ho : 0 ≤ o ∧ o < M) : ∃ μ', mm_gains μ w o a b = some (gP w (gS N M PH PF PB L q w o a b), μ') ∧ frM 145 μ μ' := by
  have hn2 := h.1.2.1
  obtain ⟨μ1, a1, a2, a3⟩ := m_tries h
  have j31 : ∀ (μ2 : kM) (r : Nat → Int), TN N M tp L PH PF PB μ2 r → frM 145 μ μ2 → ∃ μ', mm_gains_j31 μ2 w = some (gP w (yrs N M PH PF PB L 4 r), μ') ∧ frM 145 μ μ' := by
    intro μ2 r h1 h2
    obtain ⟨μ3, t1, t2, t3⟩ := m_yl (body := fun st => mm_gains_l34 st.1 w st.2) (fun i => (i : Int)) 4 (by decide) h1 (by rw [h2.2.1 48 (by decide) (by decide) (by decide) (by decide)]; exact h.2.2.2.2) (fun i μ4 μ5 hi hy => by
      show mm_gains_l34 μ4 w (i : Int) = _
      unfold mm_gains_l34
      rw [if_neg (by omega), kbind_eq hy, klet_eq, w32_s (by omega) (by omega)]
      rfl) (fun μ4 => by
      show mm_gains_l34 μ4 w ((4 : Nat) : Int) = _
      unfold mm_gains_l34
      rw [if_pos (by decide)]) (b0 := 0) rfl
    refine ⟨μ3, ?_, h2.trans t3⟩
    unfold mm_gains_j31 gP
    rw [kbind_eq t1, w32_s (v := 162 + w) (by omega) (by omega), kchk_t (by omega), w32_s (v := 170 + w) (by omega) (by omega), kchk_t (by omega), t2.2.2.1.at (j := (162 + w).toNat) (i := 17 + w) (by omega) (by omega) (by decide) (by omega), t2.2.2.1.at (j := (170 + w).toNat) (i := 25 + w) (by omega) (by omega) (by decide) (by omega)]
  have j17 : ∀ (μ2 : kM) (r : Nat → Int), TN N M tp L PH PF PB μ2 r → frM 145 μ μ2 → ∃ μ', mm_gains_j17 μ2 w o b = some (gP w (yrs N M PH PF PB L 4 (brn L b o r)), μ') ∧ frM 145 μ μ' := by
    intro μ2 r h1 h2
    unfold mm_gains_j17
    by_cases hb : b = 1
    · obtain ⟨μ3, t1, t2, t3⟩ := m_brn h1 ho hb
      rw [if_pos hb, kbind_eq t1]
      exact j31 μ3 _ t2 (h2.trans t3)
    · rw [if_neg hb, show brn L b o r = r from if_neg hb]
      exact j31 μ2 r h1 h2
  unfold mm_gains gS
  rw [kbind_eq a1]
  by_cases ha : a = 1
  · obtain ⟨μ3, t1, t2, t3⟩ := m_brn a2 hw ha
    rw [if_pos ha, kbind_eq t1]
    exact j17 μ3 _ t2 (a3.trans t3)
  · rw [if_neg ha, show brn L a w (trow q) = trow q from if_neg ha]
    exact j17 μ1 _ a2 a3
abbrev cA (k : Nat) : Int := ((k / 2 : Nat) : Int)
abbrev cB (k : Nat) : Int := ((k % 2 : Nat) : Int)
theorem TC.put (h : TC N M tp L PH PF PB σ q) {c : Nat} {f : Nat → Int} (hc : 60 ≤ c ∧ c ≤ 64) : TC N M tp L PH PF PB (kst σ c f) q := by
  have e : ∀ k : Nat, k ≠ c → kst σ c f k = σ k := fun k hk => kst_ne hk
  exact ⟨h.1, h.2.1.kept (e _ (by omega)) (e _ (by omega)) (e _ (by omega)) (e _ (by omega)) (e _ (by omega)), ⟨h.2.2.1.1.kept (e _ (by omega)) (e _ (by omega)) (e _ (by omega)) (e _ (by omega)), h.2.2.1.2.kept (e _ (by omega)) (e _ (by omega)) (e _ (by omega)) (e _ (by omega)) (e _ (by omega))⟩, h.2.2.2⟩
theorem c_game1 (h : CN N M tp L PH PF PB σ q) {w o : Int} (hw : 0 ≤ w ∧ w < M) (ho : 0 ≤ o ∧ o < M) : ∃ σ', kloop (fun st => pf_Oracle_playGame_57_l2 st.1 w o st.2) kFuel (σ, 0) = some σ' ∧ (∀ k : Nat, k < 4 → σ' 62 k = gP w (gS N M PH PF PB L q w o (cA k) (cB k)) ∧ σ' 63 k = gP o (gS N M PH PF PB L q w o (cA k) (cB k))) ∧ kpC σ σ' := by
  have hn2 := h.1.2.1
  obtain ⟨σ1, b1, b2⟩ := kl_M (body := fun st => pf_Oracle_playGame_57_l2 st.1 w o st.2) (fun i σ1 => (∀ k : Nat, k < i → σ1 62 k = gP w (gS N M PH PF PB L q w o (cA k) (cB k)) ∧ σ1 63 k = gP o (gS N M PH PF PB L q w o (cA k) (cB k))) ∧ kpC σ σ1) (fun i => (i : Int)) 4 (by decide) (fun i σ1 hi hs => by
    obtain ⟨hs1, hs2⟩ := hs
    have h3 : CN N M tp L PH PF PB σ1 q := h.kp hs2
    obtain ⟨σ2, t1, t2, t3⟩ := c_begin h3
    have j39 : ∀ (σ3 : kM), TC N M tp L PH PF PB σ3 (brn L (cB i) o (brn L (cA i) w (trow q))) → fr64 σ1 σ3 → ∃ σ4, pf_Oracle_playGame_57_l2_j39 σ3 w o (i : Int) = some (Sum.inl (σ4, ((i + 1 : Nat) : Int))) ∧ (∀ k : Nat, k < i + 1 → σ4 62 k = gP w (gS N M PH PF PB L q w o (cA k) (cB k)) ∧ σ4 63 k = gP o (gS N M PH PF PB L q w o (cA k) (cB k))) ∧ kpC σ σ4 := by
      intro σ3 u1 u2
      obtain ⟨σ4, v1, v2, v3⟩ := c_letGo u1 (n := 4) (by decide) (by decide)
      have v2 : TC N M tp L PH PF PB σ4 (gS N M PH PF PB L q w o (cA i) (cB i)) := v2
      have g1 := c_gain v2 hw
      generalize hG : gS N M PH PF PB L q w o (cA i) (cB i) = G at v2 g1
      have g2 := c_gain (v2.put (c := 62) (f := kup (σ4 62) i (gP w G)) (by decide)) ho
      refine ⟨kst (kst σ4 62 (kup (σ4 62) i (gP w G))) 63 (kup (σ4 63) i (gP o G)), ?_, fun k hk => ?_, ((hs2.trans (kpC.fr64 (u2.trans v3))).trans (kpC.put (by decide))).trans (kpC.put (by decide))⟩
      · unfold pf_Oracle_playGame_57_l2_j39
        rw [kbind_eq v1, kbind_eq g1, kchk_t (by omega), klet_eq, Int.toNat_natCast, kbind_eq g2, kchk_t (by omega), klet_eq, klet_eq, kst_ne (show (63 : Nat) ≠ 62 by decide), w32_s (by omega) (by omega)]
        rfl
      · rw [kst_ne (show (62 : Nat) ≠ 63 by decide), kst_eq, kst_eq]
        by_cases e : k = i
        · subst e
          rw [kup_eq, kup_eq, hG]
          exact ⟨rfl, rfl⟩
        · rw [kup_ne e, kup_ne e]
          have f62 : σ4 62 = σ1 62 := (u2.trans v3) 62 (by decide) (by decide) (by decide) (by decide) (by decide) (by decide) (by decide) (by decide)
          have f63 : σ4 63 = σ1 63 := (u2.trans v3) 63 (by decide) (by decide) (by decide) (by decide) (by decide) (by decide) (by decide) (by decide)
          rw [f62, f63]
          exact hs1 k (by omega)
    have j24 : ∀ (σ3 : kM), TC N M tp L PH PF PB σ3 (brn L (cA i) w (trow q)) → fr64 σ1 σ3 → ∃ σ4, pf_Oracle_playGame_57_l2_j24 σ3 w o (i : Int) = some (Sum.inl (σ4, ((i + 1 : Nat) : Int))) ∧ (∀ k : Nat, k < i + 1 → σ4 62 k = gP w (gS N M PH PF PB L q w o (cA k) (cB k)) ∧ σ4 63 k = gP o (gS N M PH PF PB L q w o (cA k) (cB k))) ∧ kpC σ σ4 := by
      intro σ3 u1 u2
      have ek : krem (i : Int) 2 = cB i := by
        rw [krem_nn (by omega) ⟨by omega, by omega⟩]
        show (i : Int) % 2 = ((i % 2 : Nat) : Int)
        omega
      unfold pf_Oracle_playGame_57_l2_j24
      rw [ek]
      by_cases hb : cB i = 1
      · obtain ⟨σ4, v1, v2, v3⟩ := c_brn u1 ho hb
        rw [if_pos hb, kbind_eq v1]
        exact j39 σ4 v2 (u2.trans v3)
      · rw [if_neg hb]
        exact j39 σ3 (by rw [show brn L (cB i) o (brn L (cA i) w (trow q)) = brn L (cA i) w (trow q) from if_neg hb]; exact u1) u2
    show ∃ σ2, pf_Oracle_playGame_57_l2 σ1 w o (i : Int) = _ ∧ _
    unfold pf_Oracle_playGame_57_l2
    rw [if_neg (by omega), kbind_eq t1]
    by_cases ha : (i : Int) < 2
    · rw [if_pos ha]
      have e0 : ¬ cA i = 1 := by
        show ¬ ((i / 2 : Nat) : Int) = 1
        omega
      exact j24 σ2 (by rw [show brn L (cA i) w (trow q) = trow q from if_neg e0]; exact t2) t3
    · rw [if_neg ha]
      have e1 : cA i = 1 := by
        show ((i / 2 : Nat) : Int) = 1
        omega
      obtain ⟨σ4, v1, v2, v3⟩ := c_brn t2 hw e1
      rw [kbind_eq v1]
      exact j24 σ4 v2 (t3.trans v3)) (fun σ1 hs => by
    refine ⟨σ1, ?_, hs⟩
    show pf_Oracle_playGame_57_l2 σ1 w o ((4 : Nat) : Int) = _
    unfold pf_Oracle_playGame_57_l2
    rw [if_pos (by decide)]) (σ := σ) ⟨fun k hk => absurd hk (by omega), kpC.rfl⟩ (b0 := 0) rfl
  exact ⟨σ1, b1, b2⟩
end GAME

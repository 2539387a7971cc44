/-! CALLS: readings. The class's answer, all of it -/
section RDD
variable {N M tp : Int} {L : Nat → Int} {PH PF PB : List Int} {σ σ' μ μ' : kM} {q : Nat → Int}
theorem rq_w {M : Int} {w : Nat} (hn2 : 0 ≤ M ∧ M ≤ 4) (hw : w < M.toNat) : w32 ((w : Int) + 1) = ((w + 1 : Nat) : Int) ∧ (¬ M ≤ (w : Int)) ∧ (0 ≤ (w : Int) ∧ (w : Int) < 4) ∧ w32 (57 + (w : Int)) = ((57 + w : Nat) : Int) ∧ (0 ≤ ((57 + w : Nat) : Int) ∧ ((57 + w : Nat) : Int) < 85) ∧ (57 + (w : Int)).toNat = 57 + w ∧ (25 + (w : Int)).toNat = 25 + w := by
  refine ⟨kw_inc (by omega), by omega, by omega, ?_, by omega, by omega, by omega⟩
  rw [w32_s (by omega) (by omega)]
  rfl
theorem rq_r {S : Nat → Bool} {w : Nat} (hw : w < 4) : w32 ((rdc S w : Int) + 1) = ((rdc S w + 1 : Nat) : Int) ∧ w32 ((rdc S w : Int) + 0) = (rdc S w : Int) := by
  have h := rdc_le (S := S) w
  generalize rdc S w = z at *
  refine ⟨kw_inc (by omega), ?_⟩
  rw [Int.add_zero]
  exact w32_s (by omega) (by omega)
theorem c_sitsQ (h : CN N M tp L PH PF PB σ q) {w : Nat} (hw : w < M.toNat) : pf_Court_sits_50 σ (w : Int) = some (if qS q w = true then 1 else 0) := by
  obtain ⟨ew, cm, c4, e57, c57, f1, f2⟩ := rq_w h.1.2.1 hw
  have hs := h.2.2.1.sits c4.1 c4.2
  rw [f1, f2] at hs
  unfold pf_Court_sits_50 qS
  rw [e57, kchk_t c57, Int.toNat_natCast, hs]
  by_cases c : 0 < q (25 + w)
  · rw [if_neg (Int.not_le.mpr c), if_pos (decide_eq_true c)]
  · rw [if_pos (Int.not_lt.mp c), if_neg (by rw [decide_eq_false c]; decide)]
/-- ahead of the poet w -/
def AI (PH : List Int) (N : Int) (q : Nat → Int) (σ : kM) (w : Nat) (σ1 : kM) : Prop := frQ σ σ1 ∧ (∀ j : Nat, j < w → σ1 55 j = -1) ∧ (∀ j p : Nat, j < w → p < N.toNat → σ1 54 (8 * j + p) = qr PH q j p)
theorem c_areach (h : CN N M tp L PH PF PB σ q) : ∃ σ', kloop (fun st => pf_Court_assignReadings_50_l4 st.1 st.2.1 st.2.2) kFuel (σ, 0, 0) = some (σ', (rdc (qS q) M.toNat : Int)) ∧ AI PH N q σ M.toNat σ' := by
  have hn1 := h.1.1
  have hn2 := h.1.2.1
  have m9 : M.toNat < 100000000 := by omega
  have mM : M ≤ ((M.toNat : Nat) : Int) := by omega
  have m4 : ∀ w : Nat, w < M.toNat → w < 4 := fun w h => by omega
  obtain ⟨σ1, b1, b2⟩ := kl_G (body := fun st => pf_Court_assignReadings_50_l4 st.1 st.2.1 st.2.2) (fun w σ1 => AI PH N q σ w σ1) (fun w => ((rdc (qS q) w : Int), (w : Int))) M.toNat (rdc (qS q) M.toNat : Int) m9 (fun w σ1 hw hs => by
    obtain ⟨ew, cm, c4, e57, c57, f1, f2⟩ := rq_w hn2 hw
    obtain ⟨r1, r2⟩ := rq_r (S := qS q) (m4 w hw)
    obtain ⟨s1, s2, s3⟩ := hs
    have s1 : frQ σ σ1 := s1
    have s2 : ∀ j : Nat, j < w → σ1 55 j = -1 := s2
    have s3 : ∀ j p : Nat, j < w → p < N.toNat → σ1 54 (8 * j + p) = qr PH q j p := s3
    have hf2 : frQ σ (kst (kst σ1 55 (kup (σ1 55) w (-1))) 56 (kup (kst σ1 55 (kup (σ1 55) w (-1)) 56) w (-1))) := fun c a b d e f => by
      rw [kst_ne f, kst_ne e]
      exact s1 c a b d e f
    have g55 : kst (kst σ1 55 (kup (σ1 55) w (-1))) 56 (kup (kst σ1 55 (kup (σ1 55) w (-1)) 56) w (-1)) 55 = kup (σ1 55) w (-1) := by rw [kst_ne (by decide), kst_eq]
    have g54 : kst (kst σ1 55 (kup (σ1 55) w (-1))) 56 (kup (kst σ1 55 (kup (σ1 55) w (-1)) 56) w (-1)) 54 = σ1 54 := by rw [kst_ne (by decide), kst_ne (by decide)]
    show ∃ σ2, pf_Court_assignReadings_50_l4 σ1 (rdc (qS q) w : Int) (w : Int) = some (Sum.inl (σ2, (rdc (qS q) (w + 1) : Int), ((w + 1 : Nat) : Int))) ∧ AI PH N q σ (w + 1) σ2
    unfold pf_Court_assignReadings_50_l4
    rw [(h.kp s1.kp).2.1.2.2.1, if_neg cm, kchk_t c4, klet_eq, kchk_t c4, klet_eq, Int.toNat_natCast]
    generalize kst (kst σ1 55 (kup (σ1 55) w (-1))) 56 (kup (kst σ1 55 (kup (σ1 55) w (-1)) 56) w (-1)) = σ2 at *
    have hC2 := h.kp hf2.kp
    have fin : ∀ x y : Int, w32 (y + x) = (rdc (qS q) (w + 1) : Int) → ∃ σ3, pf_Court_assignReadings_50_l4_j43 σ2 (w : Int) x y = some (Sum.inl (σ3, (rdc (qS q) (w + 1) : Int), ((w + 1 : Nat) : Int))) ∧ AI PH N q σ (w + 1) σ3 := by
      intro x y hxy
      obtain ⟨σ3, t1, t2, t3, t4⟩ := c_reach hC2 hw (x := w32 (y + x))
      unfold pf_Court_assignReadings_50_l4_j43
      rw [klet_eq, kbind_eq t1, klet_eq, ew, hxy]
      refine ⟨σ3, rfl, fun c a b d e f => by rw [t2 c a b d]; exact hf2 c a b d e f, fun j hj => ?_, fun j p hj hp => ?_⟩
      · rw [t2 55 (by decide) (by decide) (by decide), g55]
        by_cases e : j = w
        · subst e
          rw [kup_eq]
        · rw [kup_ne e]
          exact s2 j (by omega)
      · by_cases e : j = w
        · subst e
          exact t3 p hp
        · rw [t4 _ (by omega), g54]
          exact s3 j p (by omega) hp
    rw [kbind_eq (c_sitsQ hC2 hw)]
    have er : rdc (qS q) (w + 1) = if qS q w = true then rdc (qS q) w else rdc (qS q) w + 1 := rfl
    by_cases c : qS q w = true
    · rw [if_pos c] at er
      rw [if_pos c, if_neg (by decide)]
      exact fin 0 _ (by rw [er]; exact r2)
    · rw [if_neg c] at er
      rw [if_neg c, if_pos rfl]
      exact fin 1 _ (by rw [er]; exact r1)) (fun σ1 hs => by
    refine ⟨σ1, ?_, hs⟩
    show pf_Court_assignReadings_50_l4 σ1 (rdc (qS q) M.toNat : Int) ((M.toNat : Nat) : Int) = _
    unfold pf_Court_assignReadings_50_l4
    rw [(h.kp hs.1.kp).2.1.2.2.1, if_pos mM]) (σ := σ) ⟨frQ.rfl, fun j hj => absurd hj (Nat.not_lt_zero _), fun j p hj => absurd hj (Nat.not_lt_zero _)⟩ (b0 := (0, 0)) rfl
  exact ⟨σ1, b1, b2⟩
theorem rd_idle {S : Nat → Bool} {M N : Int} (hn1 : 0 ≤ N ∧ N ≤ 8) (hn2 : 0 ≤ M ∧ M ≤ 4) : max (w32 ((rdc S M.toNat : Int) - N)) 0 = (rM S M.toNat N.toNat M.toNat 0 : Int) := by
  have h1 := rdc_le (S := S) M.toNat
  have e1 : rM S M.toNat N.toNat M.toNat 0 = rdc S M.toNat - N.toNat := by
    unfold rM
    rw [rdc_all, fc_0 N.toNat (by omega)]
  rw [e1]
  generalize rdc S M.toNat = z at *
  rw [w32_s (by omega) (by omega)]
  omega
theorem c_assign (h : CN N M tp L PH PF PB σ q) : ∃ (σ' : kM) (x : Nat → Int), pf_Court_assignReadings_50 σ = some σ' ∧ kpC σ σ' ∧ (∀ j : Nat, j < M.toNat → x j = -1) ∧ σ' 50 8 = rI (qr PH q) (qS q) M.toNat N.toNat M.toNat 0 ∧ ∀ j : Nat, j < 4 → σ' 56 j = rR (qr PH q) (qS q) M.toNat N.toNat M.toNat 0 x j := by
  have hn1 := h.1.1
  have hn2 := h.1.2.1
  have nN : ((N.toNat : Nat) : Int) = N := by omega
  have mM : ((M.toNat : Nat) : Int) = M := by omega
  have n8 : N.toNat ≤ 8 := by omega
  have m4 : M.toNat ≤ 4 := by omega
  have m8 : M.toNat < 8 := by omega
  have hs0 : 0 ≤ (0 : Int) ∧ (0 : Int) + 9 * ((M.toNat : Nat) : Int) ≤ 1000 := by omega
  have hr : ∀ w p : Nat, w < M.toNat → p < N.toNat → 0 ≤ qr PH q w p ∧ qr PH q w p ≤ 9 := fun w p hw hp => (qr_rng h.1 h.2.2.2 hw hp).1
  have hid := rd_idle (S := qS q) hn1 hn2
  obtain ⟨σ1, b1, b2, b3, b4⟩ := c_areach h
  have hC1 := h.kp b2.kp
  have hK : RK (qr PH q) (qS q) M.toNat N.toNat (kst σ1 50 (kup (σ1 50) 8 (-1))) := by
    refine ⟨by rw [kst_ne (by decide), nN]; exact hC1.2.1.2.1, by rw [kst_ne (by decide), mM]; exact hC1.2.1.2.2.1, fun w hw => ?_, fun w p hw hp => by rw [kst_ne (by decide)]; exact b4 w p hw hp⟩
    obtain ⟨ew, cm, c4, e57, c57, f1, f2⟩ := rq_w hn2 hw
    have hs := hC1.2.2.1.sits c4.1 c4.2
    rw [f1, f2] at hs
    rw [kst_ne (by decide), hs]
    exact ⟨fun hh => Int.not_le.mpr (of_decide_eq_true hh), fun hh => Int.not_lt.mp (of_decide_eq_false hh)⟩
  obtain ⟨σ2, a1, a2, a3, a4, -⟩ := sr_all hr n8 m4 M.toNat 8 0 0 (kst σ1 50 (kup (σ1 50) 8 (-1))) (Nat.le_refl _) m8 hK (by decide) (fun j _ hj => by rw [kst_ne (by decide)]; exact b3 j hj) hs0
  have hI0 := (rV_rng (S := qS q) hr n8 m4 M.toNat 0 (Nat.le_refl _) (by decide)).1
  have hI0 : 0 ≤ rI (qr PH q) (qS q) M.toNat N.toNat M.toNat 0 := hI0
  rw [kst_eq, kup_eq, Int.zero_add] at a4
  obtain ⟨a5, a6⟩ := a4 (Int.lt_of_lt_of_le (by decide) hI0)
  rw [Nat.sub_self] at a1
  have a1 : pf_gA 8 0 (kst σ1 50 (kup (σ1 50) 8 (-1))) 0 0 (rM (qS q) M.toNat N.toNat M.toNat 0 : Int) 0 = some σ2 := a1
  refine ⟨σ2, _, ?_, b2.kp.trans ((kpC.put (by decide)).trans (fun c hc => a2.1 c (by omega) (by omega) (by omega))), fun j hj => ?_, a5, a6⟩
  · unfold pf_Court_assignReadings_50
    rw [kbind_eq b1]
    dsimp only
    rw [klet_eq, kst_ne (show (3 : Nat) ≠ 50 by decide), hC1.2.1.2.1, hid, kbind_eq a1]
  · rw [kst_ne (by decide)]
    exact b3 j hj
end RDD

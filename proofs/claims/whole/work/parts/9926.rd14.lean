/-! CALLS: readings. The reference's answer -/
theorem rj_n {N : Int} {n j : Nat} (hn : n = N.toNat) (hN : 0 ≤ N ∧ N ≤ 8) (hj : j < n) : (n : Int) - 1 - (j : Int) = ((n - 1 - j : Nat) : Int) ∧ w32 ((n : Int) - 1 - (j : Int) + -1) = (n : Int) - 1 - ((j + 1 : Nat) : Int) ∧ (¬ (n : Int) - 1 - (j : Int) < 0) ∧ n - 1 - j < n := by
  refine ⟨by omega, ?_, by omega, by omega⟩
  rw [w32_s (by omega) (by omega)]
  omega
theorem rj_w {M w : Nat} (hw : w < M) : M - 1 - w + 1 = M - w ∧ M - (M - w) = w ∧ M - (M - 1 - w) = w + 1 ∧ M - 1 - (M - 1 - w) = w ∧ M - w ≤ M ∧ M - 1 - w ≤ M := by omega
section RPC
variable {N M tp : Int} {L : Nat → Int} {PH PF PB : List Int} {σ σ' μ μ' : kM} {q : Nat → Int}
theorem m_cand (h : MN N M tp L PH PF PB μ q) (hT : TBL PH q M N M.toNat μ) {w p : Nat} {hd : Int} (hw : w < M.toNat) (hp : p < N.toNat) (h0 : 0 ≤ hd ∧ hd < 256) (hh : hd < kshl 1 N) : w32 (qr PH q w p + μ 18 (256 * (w + 1) + (orb hd p).toNat)) = qr PH q w p + qV PH q M N (M.toNat - 1 - w) (orb hd p) := by
  have hn1 := h.1.1
  have p8 : p < 8 := by omega
  have pN : (p : Int) < N := by omega
  obtain ⟨v1, v2, v3, v4, v5, v6⟩ := rj_w hw
  have ho := orb_rng h0 p8
  have hl := orb_lt h0.1 hn1 pN hh
  have hr := (qr_rng h.1 h.2.2.2.1 hw hp).1
  have hv2 := qV_rng (PH := PH) h.1 h.2.2.2.1 v6 ho
  have e3 : (((orb hd p).toNat : Nat) : Int) = orb hd p := Int.toNat_of_nonneg ho.1
  have eT2 := hT (M.toNat - 1 - w) v6 (orb hd p).toNat (by rw [e3]; exact hl)
  rw [v3, e3] at eT2
  rw [eT2]
  clear hl hT e3 ho hh eT2
  generalize qV PH q M N (M.toNat - 1 - w) (orb hd p) = y at *
  generalize qr PH q w p = x at *
  exact w32_s (by omega) (by omega)
theorem m_its (h : MN N M tp L PH PF PB μ q) (hT : TBL PH q M N M.toNat μ) {w : Nat} {hd x1 x3 : Int} (hw : w < M.toNat) (h0 : 0 ≤ hd ∧ hd < 256) (hh : hd < kshl 1 N) : ∃ μ', kloop (fun st => mm_readings_l67 st.1 x1 hd x3 st.2.1 (w : Int) st.2.2) kFuel (μ, -1, w32 (N - 1)) = some (μ', pC (qr PH q) (qS q) M.toNat N.toNat w hd) ∧ scrM μ μ' := by
  have hn1 := h.1.1
  have hn2 := h.1.2.1
  have n9 : N.toNat < 100000000 := by omega
  have n8 : N.toNat ≤ 8 := by omega
  have w5 : w < 5 := by omega
  have hd8 : hd.toNat < 256 := by omega
  have ehd : ((hd.toNat : Nat) : Int) = hd := by omega
  have e0 : w32 (N - 1) = ((N.toNat : Nat) : Int) - 1 - ((0 : Nat) : Int) := by
    rw [w32_s (by omega) (by omega)]
    omega
  have ee : ((N.toNat : Nat) : Int) - 1 - ((N.toNat : Nat) : Int) < 0 := by omega
  obtain ⟨v1, v2, v3, v4, v5, v6⟩ := rj_w hw
  obtain ⟨e25, c25, -⟩ := rt_s hn2 hw
  obtain ⟨ep, cp, -⟩ := rt_p w5 hd8
  rw [ehd] at ep
  have eT := hT (M.toNat - w) v5 hd.toNat (by rw [ehd]; exact hh)
  rw [v2, ehd] at eT
  rw [e0]
  cases hS : qS q w with
  | true =>
    obtain ⟨g1, g2, g3⟩ := m_sits h hw
    have hb : mm_readings_l67 μ x1 hd x3 (-1) (w : Int) (((N.toNat : Nat) : Int) - 1 - ((0 : Nat) : Int)) = some (Sum.inr (μ, -1)) := by
      unfold mm_readings_l67
      by_cases c : ((N.toNat : Nat) : Int) - 1 - ((0 : Nat) : Int) < 0
      · rw [if_pos c]
      · rw [if_neg c, e25, kchk_t c25, Int.toNat_natCast, g1, if_neg (g2 hS).1]
    refine ⟨μ, ?_, scrM.rfl⟩
    rw [show pC (qr PH q) (qS q) M.toNat N.toNat w hd = -1 from if_pos hS]
    exact kloop_r (n := 99999999) hb
  | false =>
    have eC : pC (qr PH q) (qS q) M.toNat N.toNat w hd = rC (fun p => qr PH q w p + qV PH q M N (M.toNat - 1 - w) (orb hd p)) hd (qV PH q M N (M.toNat - w) hd) N.toNat N.toNat := by
      unfold pC rc1
      rw [if_neg (by rw [hS]; decide), v4, v1]
    rw [eC]
    generalize hX : qV PH q M N (M.toNat - w) hd = X at *
    generalize hf : (fun p => qr PH q w p + qV PH q M N (M.toNat - 1 - w) (orb hd p)) = f
    have hfp : ∀ p : Nat, p < N.toNat → w32 (qr PH q w p + μ 18 (256 * (w + 1) + (orb hd p).toNat)) = f p := fun p hp => by
      rw [m_cand h hT hw hp h0 hh, ← hf]
    exact kl_S (body := fun st => mm_readings_l67 st.1 x1 hd x3 st.2.1 (w : Int) st.2.2) (fun μ1 => scrM μ μ1) (fun j => (rC f hd X N.toNat j, ((N.toNat : Nat) : Int) - 1 - (j : Int))) N.toNat (rC f hd X N.toNat N.toNat) n9 (fun j μ1 hj hs => by
      obtain ⟨i1, i2, i3, i4⟩ := rj_n rfl hn1 hj
      have hs : scrM μ μ1 := hs
      have h1 := h.scr hs
      obtain ⟨g1, g2, g3⟩ := m_sits h1 hw
      obtain ⟨μ2, t1, t2⟩ := m_readsTo h1 hw i4 h0
      rw [hs 18 (by decide) (by decide), hfp _ i4, ← i1] at t1
      have e : rC f hd X N.toNat (j + 1) = if kand (kshr hd ((N.toNat - 1 - j : Nat) : Int)) 1 = 0 then (if f (N.toNat - 1 - j) = X then ((N.toNat - 1 - j : Nat) : Int) else rC f hd X N.toNat j) else rC f hd X N.toNat j := rfl
      rw [← i1] at e
      show ∃ μ2, mm_readings_l67 μ1 x1 hd x3 (rC f hd X N.toNat j) (w : Int) (((N.toNat : Nat) : Int) - 1 - (j : Int)) = some (Sum.inl (μ2, rC f hd X N.toNat (j + 1), ((N.toNat : Nat) : Int) - 1 - ((j + 1 : Nat) : Int))) ∧ scrM μ μ2
      unfold mm_readings_l67 mm_readings_l67_j123
      rw [if_neg i3, e25, kchk_t c25, Int.toNat_natCast, g1, if_pos (g3 hS).1, klet_eq, i2, e]
      by_cases c : kand (kshr hd (((N.toNat : Nat) : Int) - 1 - (j : Int))) 1 = 0
      · rw [if_pos c, if_pos c, kbind_eq t1]
        dsimp only
        rw [ep, kchk_t cp, Int.toNat_natCast, t2 18 (by decide) (by decide), hs 18 (by decide) (by decide), eT, klet_eq, klet_eq]
        by_cases d : f (N.toNat - 1 - j) = X
        · rw [if_pos d, if_pos d]
          exact ⟨μ2, rfl, hs.trans t2⟩
        · rw [if_neg d, if_neg d]
          exact ⟨μ2, rfl, hs.trans t2⟩
      · rw [if_neg c, if_neg c]
        exact ⟨μ1, rfl, hs⟩) (fun μ1 hs => by
      refine ⟨μ1, ?_, hs⟩
      show mm_readings_l67 μ1 x1 hd x3 (rC f hd X N.toNat N.toNat) (w : Int) (((N.toNat : Nat) : Int) - 1 - ((N.toNat : Nat) : Int)) = _
      unfold mm_readings_l67
      rw [if_pos ee]) (σ := μ) scrM.rfl (b0 := (-1, ((N.toNat : Nat) : Int) - 1 - ((0 : Nat) : Int))) rfl
end RPC

/-! CALLS: readings. The reference's table, laid out -/
section RTE
variable {N M tp : Int} {L : Nat → Int} {PH PF PB : List Int} {σ σ' μ μ' : kM} {q : Nat → Int}
abbrev qV (PH : List Int) (q : Nat → Int) (M N : Int) : Nat → Int → Int := rV (qr PH q) (qS q) M.toNat N.toNat
theorem qV_rng (hE : EN N M tp L PH PF PB) (hI : IV M tp L q) {k : Nat} {h : Int} (hk : k ≤ M.toNat) (h0 : 0 ≤ h ∧ h < 256) : -5000 ≤ qV PH q M N k h ∧ qV PH q M N k h ≤ 100 := by
  have hn1 := hE.1
  have hn2 := hE.2.1
  have n8 : N.toNat ≤ 8 := by omega
  have m4 : M.toNat ≤ 4 := by omega
  have k4 : k ≤ 4 := by omega
  have h1 := rV_rng (S := qS q) (r := qr PH q) (M := M.toNat) (n := N.toNat) (fun w p hw hp => (qr_rng hE hI hw hp).1) n8 m4 k h hk h0
  have h2 : rM (qS q) M.toNat N.toNat k h ≤ k := Nat.le_trans (Nat.sub_le _ _) (rN_le k)
  show -5000 ≤ rV (qr PH q) (qS q) M.toNat N.toNat k h ∧ rV (qr PH q) (qS q) M.toNat N.toNat k h ≤ 100
  generalize rM (qS q) M.toNat N.toNat k h = z at *
  generalize rV (qr PH q) (qS q) M.toNat N.toNat k h = y at *
  omega
/-- the table of the last k poets is laid -/
def TBL (PH : List Int) (q : Nat → Int) (M N : Int) (k : Nat) (μ : kM) : Prop := ∀ k' : Nat, k' ≤ k → ∀ h : Nat, (h : Int) < kshl 1 N → μ 18 (256 * (M.toNat - k') + h) = qV PH q M N k' (h : Int)
theorem rt_k {M : Int} {k : Nat} (hn2 : 0 ≤ M ∧ M ≤ 4) (hk : k < M.toNat) : M.toNat - 1 - k < M.toNat ∧ M.toNat - 1 - k + 1 = M.toNat - k ∧ M.toNat - 1 - k = M.toNat - (k + 1) ∧ k ≤ M.toNat ∧ k + 1 ≤ M.toNat := by omega
/-- one place of the table -/
theorem m_place (h : MN N M tp L PH PF PB μ q) {k : Nat} {hd : Nat} (hk : k < M.toNat) (hh : (hd : Int) < kshl 1 N) (hT : TBL PH q M N k μ) : ∃ v μ', mm_readsToNobody μ ((M.toNat - 1 - k : Nat) : Int) (hd : Int) = some v ∧ kloop (fun st => mm_laysReadings_l64 st.1 ((M.toNat - 1 - k : Nat) : Int) (hd : Int) st.2.1 st.2.2) kFuel (μ, v, 0) = some (μ', qV PH q M N (k + 1) (hd : Int)) ∧ scrM μ μ' := by
  have hn1 := h.1.1
  have hn2 := h.1.2.1
  have hsh := ksh_rng hn1.1 hn1.2
  have h0 : 0 ≤ (hd : Int) ∧ (hd : Int) < 256 := by omega
  obtain ⟨hw, ew, ew2, k1, k2⟩ := rt_k hn2 hk
  have nob := m_nobody h hw h0
  have hv := qV_rng (PH := PH) h.1 h.2.2.2.1 k1 h0
  rw [ew, Int.toNat_natCast, hT k (Nat.le_refl _) hd hh] at nob
  cases hS : qS q (M.toNat - 1 - k) with
  | true =>
    rw [hS, if_pos rfl, Int.sub_zero] at nob
    have e1 : w32 (qV PH q M N k (hd : Int)) = qV PH q M N k (hd : Int) := w32_s (by omega) (by omega)
    rw [e1] at nob
    refine ⟨_, μ, nob, ?_, scrM.rfl⟩
    have e2 : qV PH q M N (k + 1) (hd : Int) = qV PH q M N k (hd : Int) := rV_s hS
    rw [e2]
    obtain ⟨e25, c25, -⟩ := rt_s hn2 hw
    obtain ⟨g1, g2, g3⟩ := m_sits h hw
    have hbody : mm_laysReadings_l64 μ ((M.toNat - 1 - k : Nat) : Int) (hd : Int) (qV PH q M N k (hd : Int)) 0 = some (Sum.inr (μ, qV PH q M N k (hd : Int))) := by
      unfold mm_laysReadings_l64
      by_cases c : μ 0 2 ≤ 0
      · rw [if_pos c]
      · rw [if_neg c, e25, kchk_t c25, Int.toNat_natCast, g1, if_neg (g2 hS).1]
    exact kloop_r (n := 99999999) hbody
  | false =>
    rw [hS, if_neg (by decide)] at nob
    have e1 : w32 (qV PH q M N k (hd : Int) - 1000) = qV PH q M N k (hd : Int) - 1000 := w32_s (by omega) (by omega)
    rw [e1] at nob
    obtain ⟨μ1, t1, t2⟩ := m_rx (v := qV PH q M N k (hd : Int) - 1000) (f := fun p => qr PH q (M.toNat - 1 - k) p + qV PH q M N k (orb (hd : Int) p)) h hw h0 hS (fun p hp hf => by
      have p8 : p < 8 := by omega
      have pN : (p : Int) < N := by omega
      have ho := orb_rng h0 p8
      have hl := orb_lt h0.1 hn1 pN hh
      have hr := (qr_rng h.1 h.2.2.2.1 hw hp).1
      have hv2 := qV_rng (PH := PH) h.1 h.2.2.2.1 k1 ho
      have e3 : (((orb (hd : Int) p).toNat : Nat) : Int) = orb (hd : Int) p := Int.toNat_of_nonneg ho.1
      rw [ew, hT k (Nat.le_refl _) (orb (hd : Int) p).toNat (by rw [e3]; exact hl), e3]
      clear hl hv hT e3 nob e1 ho hh
      generalize qV PH q M N k (orb (hd : Int) p) = y at *
      generalize qr PH q (M.toNat - 1 - k) p = x at *
      exact w32_s (by omega) (by omega))
    refine ⟨_, μ1, nob, ?_, t2⟩
    rw [t1]
    have e2 : qV PH q M N (k + 1) (hd : Int) = rX (fun p => qr PH q (M.toNat - 1 - k) p + qV PH q M N k (orb (hd : Int) p)) (hd : Int) (qV PH q M N k (hd : Int) - 1000) N.toNat := rV_r hS
    rw [e2]
end RTE

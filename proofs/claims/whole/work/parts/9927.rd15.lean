/-! CALLS: readings, the answer -/
section RPD
variable {N M tp : Int} {L : Nat → Int} {PH PF PB : List Int} {σ σ' μ μ' : kM} {q : Nat → Int}
abbrev qH (PH : List Int) (q : Nat → Int) (M N : Int) : Nat → Int × Int := pH (qr PH q) (qS q) M.toNat N.toNat
abbrev qC (PH : List Int) (q : Nat → Int) (M N : Int) (i : Nat) : Int := pC (qr PH q) (qS q) M.toNat N.toNat i (qH PH q M N i).1
theorem qH_n {i : Nat} (c : qC PH q M N i = -1) : qH PH q M N (i + 1) = qH PH q M N i := if_pos c
theorem qH_c {i p : Nat} (c : qC PH q M N i = (p : Int)) : qH PH q M N (i + 1) = (orb (qH PH q M N i).1 p, (qH PH q M N i).2 + qr PH q i p) := by
  have e : qH PH q M N (i + 1) = if qC PH q M N i = -1 then qH PH q M N i else (orb (qH PH q M N i).1 (qC PH q M N i).toNat, (qH PH q M N i).2 + qr PH q i (qC PH q M N i).toNat) := rfl
  rw [e, c, if_neg (by omega), Int.toNat_natCast]
theorem rk_s {s x : Int} {i : Nat} (hs : 0 ≤ s ∧ s ≤ 9 * (i : Int)) (hx : 0 ≤ x ∧ x ≤ 9) (hi : i < 5) : w32 (s + x) = s + x ∧ 0 ≤ s + x ∧ s + x ≤ 9 * ((i + 1 : Nat) : Int) := ⟨w32_s (by omega) (by omega), by omega, by omega⟩
theorem rk_m {s : Int} {i : Nat} (hs : 0 ≤ s ∧ s ≤ 9 * (i : Int)) : 0 ≤ s ∧ s ≤ 9 * ((i + 1 : Nat) : Int) := by omega
theorem qH_inv (hE : EN N M tp L PH PF PB) (hI : IV M tp L q) : ∀ i : Nat, i ≤ M.toNat → (0 ≤ (qH PH q M N i).1 ∧ (qH PH q M N i).1 < 256) ∧ (qH PH q M N i).1 < kshl 1 N ∧ 0 ≤ (qH PH q M N i).2 ∧ (qH PH q M N i).2 ≤ 9 * (i : Int) := by
  have hn1 := hE.1
  have hn2 := hE.2.1
  have n8 : N.toNat ≤ 8 := by omega
  have pN : ∀ p : Nat, p < N.toNat → (p : Int) < N := fun p hp => by omega
  have m5 : ∀ i : Nat, i < M.toNat → i < 5 := fun i hi => by omega
  have hsh := (ksh_rng hn1.1 hn1.2).1
  intro i
  induction i with
  | zero => intro _; exact ⟨⟨by show (0 : Int) ≤ 0; decide, by show (0 : Int) < 256; decide⟩, Int.lt_of_lt_of_le (show (0 : Int) < 1 by decide) hsh, Int.le_refl 0, Int.le_refl 0⟩
  | succ i ih =>
    intro hi
    obtain ⟨i1, i2, i3⟩ := ih (Nat.le_of_succ_le hi)
    rcases pC_is (r := qr PH q) (S := qS q) (M := M.toNat) (n := N.toNat) (i := i) (h := (qH PH q M N i).1) with c | ⟨p, p1, p2, -⟩
    · rw [qH_n c]
      exact ⟨i1, i2, rk_m i3⟩
    · rw [qH_c p2]
      exact ⟨orb_rng i1 (Nat.lt_of_lt_of_le p1 n8), orb_lt i1.1 hn1 (pN p p1) i2, (rk_s i3 (qr_rng hE hI hi p1).1 (m5 i hi)).2⟩
theorem TBL.scr {k : Nat} (h : TBL PH q M N k μ) (hs : scrM μ μ') : TBL PH q M N k μ' := fun k' a h' b => by
  rw [hs 18 (by decide) (by decide)]
  exact h k' a h' b
theorem m_rpath (h : MN N M tp L PH PF PB μ q) (hT : TBL PH q M N M.toNat μ) {x : Int} : ∃ e, kloop (fun st => mm_readings_l47 st.1 x st.2.1 st.2.2.1 st.2.2.2) kFuel (μ, 0, 0, 0) = some e ∧ ((∃ (μ' : kM) (j : Nat), e = Sum.inl (μ', qC PH q M N j) ∧ j < M.toNat ∧ x = (j : Int) ∧ scrM μ μ') ∨ ∃ μ' : kM, e = Sum.inr (μ', (qH PH q M N M.toNat).2) ∧ (∀ j : Nat, j < M.toNat → x ≠ (j : Int)) ∧ scrM μ μ') := by
  have hn1 := h.1.1
  have hn2 := h.1.2.1
  have m9 : M.toNat < 100000000 := by omega
  have mM : M ≤ ((M.toNat : Nat) : Int) := by omega
  have m5 : ∀ i : Nat, i < M.toNat → i < 5 := fun i hi => by omega
  have cM : ∀ i : Nat, i < M.toNat → ¬ M ≤ (i : Int) := fun i hi => by omega
  obtain ⟨e, g1, g2⟩ := kOk_for (body := fun st => mm_readings_l47 st.1 x st.2.1 st.2.2.1 st.2.2.2) (P := fun e => (∃ (μ' : kM) (j : Nat), e = Sum.inl (μ', qC PH q M N j) ∧ j < M.toNat ∧ x = (j : Int) ∧ scrM μ μ') ∨ ∃ μ' : kM, e = Sum.inr (μ', (qH PH q M N M.toNat).2) ∧ (∀ j : Nat, j < M.toNat → x ≠ (j : Int)) ∧ scrM μ μ') M.toNat (fun i st => st.2.1 = (qH PH q M N i).1 ∧ st.2.2.1 = (qH PH q M N i).2 ∧ st.2.2.2 = (i : Int) ∧ (∀ j : Nat, j < i → x ≠ (j : Int)) ∧ scrM μ st.1) (fun i st hi hI => by
    obtain ⟨μ1, a, b, c⟩ := st
    obtain ⟨i1, i2, i3, i4, i5⟩ := hI
    have i1 : a = (qH PH q M N i).1 := i1
    have i2 : b = (qH PH q M N i).2 := i2
    have i3 : c = (i : Int) := i3
    have i5 : scrM μ μ1 := i5
    subst i1 i2 i3
    have h1 : MN N M tp L PH PF PB μ1 q := h.scr i5
    obtain ⟨k1, k2, k3⟩ := qH_inv (PH := PH) h.1 h.2.2.2.1 i (Nat.le_of_lt hi)
    obtain ⟨μ2, t1, t2⟩ := m_its (x1 := x) (x3 := (qH PH q M N i).2) h1 (hT.scr i5) hi k1 k2
    have ew := kw_inc (i := i) (Nat.lt_trans (m5 i hi) (by decide))
    have i4' : x ≠ (i : Int) → ∀ j : Nat, j < i + 1 → x ≠ (j : Int) := fun hx j hj => by
      by_cases e : j = i
      · rw [e]
        exact hx
      · exact i4 j (Nat.lt_of_le_of_ne (Nat.le_of_lt_succ hj) e)
    show kOk (mm_readings_l47 μ1 x (qH PH q M N i).1 (qH PH q M N i).2 (i : Int)) _
    unfold mm_readings_l47
    rw [h1.2.1.2.2.1, if_neg (cM i hi), klet_eq, klet_eq, h1.2.1.2.1, kbind_eq t1]
    dsimp only
    by_cases cx : (i : Int) = x
    · rw [if_pos cx]
      exact ⟨_, rfl, Or.inl ⟨μ2, i, rfl, hi, cx.symm, i5.trans t2⟩⟩
    · rw [if_neg cx]
      have cx' : x ≠ (i : Int) := fun e => cx e.symm
      rcases pC_is (r := qr PH q) (S := qS q) (M := M.toNat) (n := N.toNat) (i := i) (h := (qH PH q M N i).1) with c | ⟨p, p1, p2, -⟩
      · rw [if_pos c]
        unfold mm_readings_l47_j176
        rw [klet_eq, ew]
        exact ⟨_, rfl, by rw [qH_n c], by rw [qH_n c], rfl, i4' cx', i5.trans t2⟩
      · have p2 : qC PH q M N i = (p : Int) := p2
        have np : ¬ (p : Int) = -1 := fun hh => absurd hh (by have := Int.natCast_nonneg p; intro h2; rw [h2] at this; exact absurd this (by decide))
        obtain ⟨e21, c21, -, -, -, ⟨d1, d2, d3, d4⟩, f1, f2, f3, f4⟩ := rt_n (h := 0) hn1 hn2 hi p1 (by decide)
        have h2 := h1.scr t2
        have enx := h2.2.2.1.at (j := 21 + i) (i := 21 + (i : Int)) f3 f4 (by decide) f1.symm
        rw [f2] at enx
        obtain ⟨hq, hx, hL⟩ := qr_rng h.1 h.2.2.2.1 hi p1
        obtain ⟨μ3, u1, u2⟩ := m_inNow h2 d1 d2 d3 d4 hx.1 (by rw [Int.toNat_natCast]; exact hx.2)
        have u1 : mm_inchesOf μ2 0 (i : Int) (p : Int) (q (21 + i)) = some (qr PH q i p, μ3) := u1
        obtain ⟨s1, -⟩ := rk_s k3 hq (m5 i hi)
        rw [show pC (qr PH q) (qS q) M.toNat N.toNat i (qH PH q M N i).1 = (p : Int) from p2, if_neg np, e21, kchk_t c21, Int.toNat_natCast, enx, kbind_eq u1]
        dsimp only
        unfold mm_readings_l47_j176
        rw [klet_eq, klet_eq, klet_eq, ew, s1]
        exact ⟨_, rfl, by rw [qH_c p2], by rw [qH_c p2], rfl, i4' cx', i5.trans (t2.trans u2)⟩) (fun st hI => by
    obtain ⟨μ1, a, b, c⟩ := st
    obtain ⟨i1, i2, i3, i4, i5⟩ := hI
    have i2 : b = (qH PH q M N M.toNat).2 := i2
    have i3 : c = ((M.toNat : Nat) : Int) := i3
    have i5 : scrM μ μ1 := i5
    subst i2 i3
    refine ⟨.inr (.inr (μ1, (qH PH q M N M.toNat).2)), ?_, Or.inr ⟨μ1, rfl, i4, i5⟩⟩
    show mm_readings_l47 μ1 x a (qH PH q M N M.toNat).2 ((M.toNat : Nat) : Int) = _
    have h1 : MN N M tp L PH PF PB μ1 q := h.scr i5
    unfold mm_readings_l47
    rw [h1.2.1.2.2.1, if_pos mM]) (kFuel_lt m9) (μ, 0, 0, 0) ⟨rfl, rfl, rfl, fun j hj => absurd hj (Nat.not_lt_zero _), scrM.rfl⟩
  exact ⟨e, g1, g2⟩
end RPD

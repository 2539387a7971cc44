/-! CALLS: best, game -/
section BEST
variable {N M tp : Int} {L : Nat → Int} {PH PF PB : List Int} {σ σ' μ μ' : kM} {q q' : Nat → Int}
theorem CN.fr (h : CN N M tp L PH PF PB σ q) (hf : fr64 σ σ') : CN N M tp L PH PF PB σ' q := h.kp (kpC.fr64 hf)
theorem MN.fr (h : MN N M tp L PH PF PB μ q) (hf : frM 145 μ μ') : MN N M tp L PH PF PB μ' q := h.kp (kpM.fr hf)
def bpF (N M : Int) (PH PF PB : List Int) (L : Nat → Int) (q : Nat → Int) (n : Nat) (i : Nat) (s : Int × Int) : Int × Int :=
  if q (25 + (i : Int)).toNat ≤ 0 then s else if sSum (yrs N M PH PF PB L n (kup (trow q) (25 + (i : Int)).toNat 0)) 1 N.toNat ≤ s.1 then s else (sSum (yrs N M PH PF PB L n (kup (trow q) (25 + (i : Int)).toNat 0)) 1 N.toNat, (i : Int))
def bbF (N M : Int) (PH PF PB : List Int) (L : Nat → Int) (q : Nat → Int) (n : Nat) (i : Nat) (s : Int × Int) : Int × Int :=
  if L i ≤ 1 then s else if s.1 ≤ yrs N M PH PF PB L n (kup (trow q) (21 + (i : Int)).toNat (nxt L (trow q) (i : Int))) 193 then s else (yrs N M PH PF PB L n (kup (trow q) (21 + (i : Int)).toNat (nxt L (trow q) (i : Int))) 193, (i : Int))
theorem c_bestP (h : CN N M tp L PH PF PB σ q) {n : Int} (hn0 : 0 ≤ n) (hn : n ≤ 60) : ∃ σ', pf_Oracle_bestPardon_57 σ n = some ((kit (bpF N M PH PF PB L q n.toNat) M.toNat (sSum (yrs N M PH PF PB L n.toNat (trow q)) 1 N.toNat, -1)).2, σ') ∧ fr64 σ σ' := by
  have hn1 := h.1.1
  have hn2 := h.1.2.1
  unfold pf_Oracle_bestPardon_57
  obtain ⟨σ1, a1, a2, a3⟩ := c_begin h
  obtain ⟨σ2, a4, a5, a6⟩ := c_letGo a2 hn0 (by omega)
  have f2 : fr64 σ σ2 := a3.trans a6
  rw [a1]
  simp only [Option.bind]
  rw [a4]
  simp only
  rw [a5.2.1.2.1, c_total58 (q := yrs N M PH PF PB L n.toNat (trow q)) (a' := 1) hn1.1 (by decide) (by omega) (fun i h0 h1 => a5.2.2.1.1.money h0 (by omega))]
  simp only [klet]
  generalize sSum (yrs N M PH PF PB L n.toNat (trow q)) 1 N.toNat = base
  obtain ⟨σ3, b1, b2⟩ := kl_S (body := fun st => pf_Oracle_bestPardon_57_l30 st.1 n st.2.1 st.2.2.1 st.2.2.2) (fr64 σ) (fun i => ((kit (bpF N M PH PF PB L q n.toNat) i (base, -1)).1, (kit (bpF N M PH PF PB L q n.toNat) i (base, -1)).2, (i : Int))) M.toNat (kit (bpF N M PH PF PB L q n.toNat) M.toNat (base, -1)).2 (by omega) (fun i σ3 hi hs => by
    have h3 : CN N M tp L PH PF PB σ3 q := h.fr hs
    show ∃ σ4, pf_Oracle_bestPardon_57_l30 σ3 n (kit (bpF N M PH PF PB L q n.toNat) i (base, -1)).1 (kit (bpF N M PH PF PB L q n.toNat) i (base, -1)).2 (i : Int) = some (Sum.inl (σ4, (bpF N M PH PF PB L q n.toNat i (kit (bpF N M PH PF PB L q n.toNat) i (base, -1))).1, (bpF N M PH PF PB L q n.toNat i (kit (bpF N M PH PF PB L q n.toNat) i (base, -1))).2, ((i + 1 : Nat) : Int))) ∧ fr64 σ σ4
    generalize kit (bpF N M PH PF PB L q n.toNat) i (base, -1) = s
    unfold pf_Oracle_bestPardon_57_l30 pf_Oracle_bestPardon_57_l30_j113 bpF
    rw [h3.2.1.2.2.1, if_neg (by omega), w32_s (v := 57 + (i : Int)) (by omega) (by omega), kchk_t (by omega), h3.2.2.1.sits (by omega) (by omega)]
    simp only [klet]
    rw [w32_s (v := (i : Int) + 1) (by omega) (by omega)]
    by_cases c1 : q (25 + (i : Int)).toNat ≤ 0
    · rw [if_pos c1, if_pos c1]
      exact ⟨σ3, rfl, hs⟩
    · rw [if_neg c1, if_neg c1]
      obtain ⟨σ4, t1, t2, t3⟩ := c_begin h3
      have t4 := c_tset t2 (i := (25 + (i : Int)).toNat) (j := (57 + (i : Int)).toNat) (v := 0) (by omega) (by unfold bd; omega)
      obtain ⟨σ5, t5, t6, t7⟩ := c_letGo t4.1 hn0 (by omega)
      rw [t1]
      simp only [Option.bind]
      rw [kchk_t (by omega), t5]
      simp only
      rw [t6.2.1.2.1, c_total58 (q := yrs N M PH PF PB L n.toNat (kup (trow q) (25 + (i : Int)).toNat 0)) (a' := 1) hn1.1 (by decide) (by omega) (fun i h0 h1 => t6.2.2.1.1.money h0 (by omega))]
      simp only
      refine ⟨σ5, ?_, ((hs.trans t3).trans t4.2).trans t7⟩
      generalize sSum (yrs N M PH PF PB L n.toNat (kup (trow q) (25 + (i : Int)).toNat 0)) 1 N.toNat = V
      by_cases c2 : V ≤ s.1
      · rw [if_pos c2, if_pos c2]
        rfl
      · rw [if_neg c2, if_neg c2]
        rfl) (fun σ3 hs => by
    have h3 : CN N M tp L PH PF PB σ3 q := h.fr hs
    refine ⟨σ3, ?_, hs⟩
    show pf_Oracle_bestPardon_57_l30 σ3 n _ _ ((M.toNat : Nat) : Int) = _
    unfold pf_Oracle_bestPardon_57_l30
    rw [h3.2.1.2.2.1, if_pos (by omega)]) f2 (b0 := (base, -1, 0)) rfl
  rw [b1]
  exact ⟨σ3, rfl, b2⟩
end BEST

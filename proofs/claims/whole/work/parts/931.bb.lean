/-! best: burners -/
section BEST
variable {N M tp : Int} {L : Nat → Int} {PH PF PB : List Int} {σ σ' μ μ' : kM} {q q' : Nat → Int}
theorem kbind_eq {α β : Type} {o : Option α} {a : α} {f : α → Option β} (h : o = some a) : o.bind f = f a := by rw [h]; rfl
theorem c_bestB (h : CN N M tp L PH PF PB σ q) {n : Int} (hn0 : 0 ≤ n) (hn : n ≤ 60) : ∃ σ', pf_Oracle_bestBurner_57 σ n = some ((kit (bbF N M PH PF PB L q n.toNat) M.toNat (yrs N M PH PF PB L n.toNat (trow q) 193, -1)).2, σ') ∧ fr64 σ σ' := by
  have hn1 := h.1.1
  have hn2 := h.1.2.1
  unfold pf_Oracle_bestBurner_57
  obtain ⟨σ1, a1, a2, a3⟩ := c_begin h
  obtain ⟨σ2, a4, a5, a6⟩ := c_letGo a2 hn0 (by omega)
  have f2 : fr64 σ σ2 := a3.trans a6
  rw [a1]
  simp only [Option.bind]
  rw [a4]
  simp only [klet]
  rw [a5.2.2.1.2.2.2.1]
  generalize yrs N M PH PF PB L n.toNat (trow q) 193 = base
  obtain ⟨σ3, b1, b2⟩ := kl_S (body := fun st => pf_Oracle_bestBurner_57_l22 st.1 n st.2.1 st.2.2.1 st.2.2.2) (fr64 σ) (fun i => ((kit (bbF N M PH PF PB L q n.toNat) i (base, -1)).1, (kit (bbF N M PH PF PB L q n.toNat) i (base, -1)).2, (i : Int))) M.toNat (kit (bbF N M PH PF PB L q n.toNat) M.toNat (base, -1)).2 (by omega) (fun i σ3 hi hs => by
    have h3 : CN N M tp L PH PF PB σ3 q := h.fr hs
    show ∃ σ4, pf_Oracle_bestBurner_57_l22 σ3 n (kit (bbF N M PH PF PB L q n.toNat) i (base, -1)).1 (kit (bbF N M PH PF PB L q n.toNat) i (base, -1)).2 (i : Int) = some (Sum.inl (σ4, (bbF N M PH PF PB L q n.toNat i (kit (bbF N M PH PF PB L q n.toNat) i (base, -1))).1, (bbF N M PH PF PB L q n.toNat i (kit (bbF N M PH PF PB L q n.toNat) i (base, -1))).2, ((i + 1 : Nat) : Int))) ∧ fr64 σ σ4
    generalize kit (bbF N M PH PF PB L q n.toNat) i (base, -1) = s
    have hli := h3.2.1.2.2.2.1 (i : Int) (by omega) (by omega)
    rw [Int.toNat_natCast] at hli
    unfold pf_Oracle_bestBurner_57_l22 pf_Oracle_bestBurner_57_l22_j88 bbF
    rw [h3.2.1.2.2.1, if_neg (by omega), kchk_t (by omega), Int.toNat_natCast, hli]
    simp only [klet]
    rw [w32_s (v := (i : Int) + 1) (by omega) (by omega)]
    by_cases c1 : L i ≤ 1
    · rw [if_pos c1, if_pos c1]
      exact ⟨σ3, rfl, hs⟩
    · rw [if_neg c1, if_neg c1]
      obtain ⟨σ4, t1, t2, t3⟩ := c_begin h3
      obtain ⟨σ4', u1, u2, u3⟩ := c_tburn t2 (w := (i : Int)) (by omega)
      obtain ⟨σ5, t5, t6, t7⟩ := c_letGo u2 hn0 (by omega)
      rw [kbind_eq t1, kbind_eq u1, kbind_eq t5, t6.2.2.1.2.2.2.1]
      refine ⟨σ5, ?_, ((hs.trans t3).trans u3).trans t7⟩
      generalize yrs N M PH PF PB L n.toNat (kup (trow q) (21 + (i : Int)).toNat (nxt L (trow q) (i : Int))) 193 = V
      by_cases c2 : s.1 ≤ V
      · rw [if_pos c2, if_pos c2]
        rfl
      · rw [if_neg c2, if_neg c2]
        rfl) (fun σ3 hs => by
    have h3 : CN N M tp L PH PF PB σ3 q := h.fr hs
    refine ⟨σ3, ?_, hs⟩
    show pf_Oracle_bestBurner_57_l22 σ3 n _ _ ((M.toNat : Nat) : Int) = _
    unfold pf_Oracle_bestBurner_57_l22
    rw [h3.2.1.2.2.1, if_pos (by omega)]) f2 (b0 := (base, -1, 0)) rfl
  rw [b1]
  exact ⟨σ3, rfl, b2⟩
end BEST

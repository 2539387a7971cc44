/-! CALLS: game -/
section GAME6
variable {N M tp : Int} {L : Nat → Int} {PH PF PB : List Int} {σ σ' μ μ' : kM} {q q' : Nat → Int}
theorem m_game (h : MN N M tp L PH PF PB μ q) {w o x : Int} (hw : 0 ≤ w ∧ w < M) (ho : 0 ≤ o ∧ o < M) (hne : w ≠ o) : ∃ μ', kloop (fun st => mm_game_l59 st.1 w o x st.2.1 st.2.2.1 st.2.2.2) kFuel (μ, 0, -1, 0) = some (μ', (gF (gH N M PH PF PB L q w o) 4).1, (gF (gH N M PH PF PB L q w o) 4).2) ∧ frM 145 μ μ' := by
  generalize hG : gH N M PH PF PB L q w o = G
  obtain ⟨μ1, b1, b2⟩ := kl_S (body := fun st => mm_game_l59 st.1 w o x st.2.1 st.2.2.1 st.2.2.2) (fun μ1 => frM 145 μ μ1) (fun i => ((gF G i).1, (gF G i).2, (i : Int))) 4 ((gF G 4).1, (gF G 4).2) (by decide) (fun i μ1 hi hs => by
    have q5 : (i : Int) < 100 := by omega
    have hinv := gF_inv G i
    obtain ⟨μ2, t1, t2⟩ := m_gstep (h.fr hs) (x := x) hw ho hne hi (n := (gF G i).1) (f := (gF G i).2) ⟨hinv.1, Int.lt_of_le_of_lt hinv.2.1 q5⟩ hinv.2.2
    rw [hG] at t1
    exact ⟨μ2, t1, hs.trans t2⟩) (fun μ1 hs => by
    refine ⟨μ1, ?_, hs⟩
    show mm_game_l59 μ1 w o x (gF G 4).1 (gF G 4).2 ((4 : Nat) : Int) = _
    unfold mm_game_l59
    rw [if_pos (by decide)]) (σ := μ) frM.rfl (b0 := (0, -1, 0)) rfl
  exact ⟨μ1, b1, b2⟩
end GAME6

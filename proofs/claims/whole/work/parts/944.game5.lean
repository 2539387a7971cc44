/-! CALLS: game, the reference's loop -/
section GAME5
variable {N M tp : Int} {L : Nat → Int} {PH PF PB : List Int} {σ σ' μ μ' : kM} {q q' : Nat → Int}
theorem m_gstep (h : MN N M tp L PH PF PB μ q) {w o x n f : Int} (hw : 0 ≤ w ∧ w < M) (ho : 0 ≤ o ∧ o < M) (hne : w ≠ o) {i : Nat} (hi : i < 4) (hn : 0 ≤ n ∧ n < 100) (hf : n = 0 ↔ f = -1) : ∃ μ', mm_game_l59 μ w o x n f (i : Int) = some (Sum.inl (μ', (if gH N M PH PF PB L q w o i = true then (n + 1, (if n = 0 then 10 * cA i + cB i else f)) else (n, f)).1, (if gH N M PH PF PB L q w o i = true then (n + 1, (if n = 0 then 10 * cA i + cB i else f)) else (n, f)).2, ((i + 1 : Nat) : Int))) ∧ frM 145 μ μ' := by
  have q1 : ¬ (4 : Int) ≤ (i : Int) := by omega
  have ew : w32 ((i : Int) + 1) = ((i + 1 : Nat) : Int) := by
    rw [w32_s (by omega) (by omega)]
    rfl
  have b1 : cA i = ((i / 2 : Nat) : Int) := rfl
  have b2 : cB i = ((i % 2 : Nat) : Int) := rfl
  have wA : w32 (1 - cA i) = 1 - cA i := w32_s (by omega) (by omega)
  have wB : w32 (1 - cB i) = 1 - cB i := w32_s (by omega) (by omega)
  have e10 : w32 (w32 (10 * cA i) + cB i) = 10 * cA i + cB i := by
    rw [w32_s (v := 10 * cA i) (by omega) (by omega), w32_s (by omega) (by omega)]
  have en : w32 (n + 1) = n + 1 := w32_s (by omega) (by omega)
  obtain ⟨μ1, r1, s1⟩ := m_gains h (a := 1 - cA i) (b := cB i) hw ho
  obtain ⟨μ2, r2, s2⟩ := m_gains (h.fr s1) (a := cA i) (b := cB i) hw ho
  have h2 := (h.fr s1).fr s2
  obtain ⟨μ3, r3, s3⟩ := m_gains h2 (a := 1 - cB i) (b := cA i) ho hw
  obtain ⟨μ4, r4, s4⟩ := m_gains (h2.fr s3) (a := cB i) (b := cA i) ho hw
  rw [gS_comm hw.1 ho.1 hne] at r3 r4
  unfold mm_game_l59 mm_game_l59_j149
  rw [if_neg q1, klet_eq, klet_eq, (kd2 i hi).1, (kd2 i hi).2, wA, wB, kbind_eq r1]
  dsimp only
  rw [kbind_eq r2]
  dsimp only
  by_cases g1 : gP w (gS N M PH PF PB L q w o (cA i) (cB i)) < gP w (gS N M PH PF PB L q w o (1 - cA i) (cB i))
  · have eg : ¬ gH N M PH PF PB L q w o i = true := fun hh => (of_decide_eq_true hh).1 g1
    rw [if_pos g1, klet_eq, ew, if_neg eg]
    exact ⟨μ2, rfl, s1.trans s2⟩
  · rw [if_neg g1, kbind_eq r3]
    dsimp only
    rw [kbind_eq r4]
    dsimp only
    by_cases g2 : gP o (gS N M PH PF PB L q w o (cA i) (cB i)) < gP o (gS N M PH PF PB L q w o (cA i) (1 - cB i))
    · have eg : ¬ gH N M PH PF PB L q w o i = true := fun hh => (of_decide_eq_true hh).2 g2
      rw [if_neg (Int.not_le.mpr g2), klet_eq, ew, if_neg eg]
      exact ⟨μ4, rfl, (s1.trans s2).trans (s3.trans s4)⟩
    · have eg : gH N M PH PF PB L q w o i = true := decide_eq_true ⟨g1, g2⟩
      rw [if_pos (Int.not_lt.mp g2), klet_eq, en, if_pos eg]
      by_cases e0 : n = 0
      · rw [if_pos (hf.mp e0), klet_eq, klet_eq, e10, ew, if_pos e0]
        exact ⟨μ4, rfl, (s1.trans s2).trans (s3.trans s4)⟩
      · rw [if_neg (fun hh => e0 (hf.mpr hh)), klet_eq, ew, if_neg e0]
        exact ⟨μ4, rfl, (s1.trans s2).trans (s3.trans s4)⟩
end GAME5

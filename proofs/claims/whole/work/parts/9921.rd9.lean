/-! CALLS: readings. The reference's table, steps -/
section RTC
variable {N M tp : Int} {L : Nat → Int} {PH PF PB : List Int} {σ σ' μ μ' : kM} {q : Nat → Int}
theorem m_readsTo (h : MN N M tp L PH PF PB μ q) {w p : Nat} {hd : Int} (hw : w < M.toNat) (hp : p < N.toNat) (h0 : 0 ≤ hd ∧ hd < 256) : ∃ μ', mm_readsTo μ (w : Int) (p : Int) hd = some (w32 (qr PH q w p + μ 18 (256 * (w + 1) + (orb hd p).toNat)), μ') ∧ scrM μ μ' := by
  have hn1 := h.1.1
  have hn2 := h.1.2.1
  have p8 : p < 8 := by omega
  obtain ⟨e21, c21, ew, e18, c18, ⟨d1, d2, d3, d4⟩, f1, f2, f3, f4⟩ := rt_n hn1 hn2 hw hp (orb_rng h0 p8)
  obtain ⟨-, hx, hL⟩ := qr_rng h.1 h.2.2.2.1 hw hp
  have enx := h.2.2.1.at (j := 21 + w) (i := 21 + (w : Int)) f3 f4 (by decide) f1.symm
  rw [f2] at enx
  obtain ⟨μ2, t1, t2⟩ := m_inNow h d1 d2 d3 d4 hx.1 (by rw [Int.toNat_natCast]; exact hx.2)
  refine ⟨μ2, ?_, t2⟩
  unfold mm_readsTo
  rw [e21, kchk_t c21, Int.toNat_natCast, enx, kbind_eq t1]
  dsimp only
  rw [ew, e18, kchk_t c18, Int.toNat_natCast, t2 18 (by decide) (by decide)]
  rfl
theorem rt_s {M : Int} {w : Nat} (hn2 : 0 ≤ M ∧ M ≤ 4) (hw : w < M.toNat) : w32 (25 + (w : Int)) = ((25 + w : Nat) : Int) ∧ (0 ≤ ((25 + w : Nat) : Int) ∧ ((25 + w : Nat) : Int) < 290) ∧ (0 + (25 + (w : Int))).toNat = 25 + w ∧ (25 + (w : Int)).toNat = 25 + w ∧ (0 ≤ 25 + (w : Int) ∧ 25 + (w : Int) < 145) ∧ (0 ≤ (w : Int) ∧ (w : Int) < 4) := by
  refine ⟨?_, by omega, by omega, by omega, by omega, by omega⟩
  rw [w32_s (by omega) (by omega)]
  rfl
/-- who sits, as the reference looks -/
theorem m_sits (h : MN N M tp L PH PF PB μ q) {w : Nat} (hw : w < M.toNat) : μ 8 (25 + w) = q (25 + w) ∧ (qS q w = true → ¬ q (25 + w) = 0 ∧ ¬ q (25 + w) ≤ 0) ∧ (qS q w = false → q (25 + w) = 0 ∧ q (25 + w) ≤ 0) := by
  obtain ⟨e25, c25, f1, f2, ⟨f3, f4⟩, f5, f6⟩ := rt_s h.1.2.1 hw
  have e := h.2.2.1.at (j := 25 + w) (i := 25 + (w : Int)) f3 f4 (by decide) f1.symm
  have hs := h.2.2.2.1.sits f5 f6
  rw [f2] at e hs
  refine ⟨e, fun hh => ?_, fun hh => ?_⟩
  · have := of_decide_eq_true hh
    omega
  · have := of_decide_eq_false hh
    omega
theorem m_nobody (h : MN N M tp L PH PF PB μ q) {w : Nat} {hd : Int} (hw : w < M.toNat) (h0 : 0 ≤ hd ∧ hd < 256) : mm_readsToNobody μ (w : Int) hd = some (w32 (μ 18 (256 * (w + 1) + hd.toNat) - (if qS q w = true then 0 else 1000))) := by
  have hn2 := h.1.2.1
  obtain ⟨e25, c25, -⟩ := rt_s hn2 hw
  obtain ⟨g1, g2, g3⟩ := m_sits h hw
  obtain ⟨-, -, ew, e18, c18, -⟩ := rt_n (N := 8) (p := 0) (by decide) hn2 hw (by decide) h0
  unfold mm_readsToNobody mm_readsToNobody_j33
  rw [ew, e18, kchk_t c18, e25, kchk_t c25, Int.toNat_natCast, Int.toNat_natCast, g1]
  cases hS : qS q w with
  | true => rw [if_neg (g2 hS).2, if_pos rfl]
  | false => rw [if_pos (g3 hS).2, if_neg (by decide)]
end RTC

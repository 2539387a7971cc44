/-! CALLS: game, the class's second loop -/
section GAME3
variable {σ : kM}
theorem l84_at {x y z : Int} (hy : kxor x 2 = y) (hz : kxor x 1 = z) : pf_Oracle_playGame_57_l84 σ x = if 4 ≤ x then some (Sum.inr σ) else kchk (0 ≤ x ∧ x < 4) (kchk (0 ≤ y ∧ y < 4) (if σ 62 x.toNat < σ 62 y.toNat then pf_Oracle_playGame_57_l84_j137 σ x else kchk (0 ≤ x ∧ x < 4) (kchk (0 ≤ z ∧ z < 4) (if σ 63 x.toNat < σ 63 z.toNat then pf_Oracle_playGame_57_l84_j137 σ x else (pf_Oracle_addFound_57 σ (w32 (w32 (kdiv x 2 * 10) + krem x 2))).bind fun s => pf_Oracle_playGame_57_l84_j137 s x)))) := by
  subst hy
  subst hz
  rfl
end GAME3

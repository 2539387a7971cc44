/-! CALLS: game, second half -/
section GAME2
variable {N M tp : Int} {L : Nat → Int} {PH PF PB : List Int} {σ σ' μ μ' : kM} {q q' : Nat → Int}
/-- a choice that neither leaves -/
def gG (A B : Int → Int → Int) (k : Nat) : Bool := decide (¬ A (cA k) (cB k) < A (1 - cA k) (cB k) ∧ ¬ B (cA k) (cB k) < B (cA k) (1 - cB k))
def gF (G : Nat → Bool) : Nat → Int × Int
  | 0 => (0, -1)
  | i + 1 => if G i = true then ((gF G i).1 + 1, if (gF G i).1 = 0 then 10 * cA i + cB i else (gF G i).2) else gF G i
theorem gF_t {G : Nat → Bool} {i : Nat} (h : G i = true) : gF G (i + 1) = ((gF G i).1 + 1, if (gF G i).1 = 0 then 10 * cA i + cB i else (gF G i).2) := by
  show (if G i = true then _ else _) = _
  rw [if_pos h]
theorem gF_f {G : Nat → Bool} {i : Nat} (h : G i = false) : gF G (i + 1) = gF G i := by
  show (if G i = true then _ else _) = _
  rw [if_neg (by rw [h]; decide)]
theorem gF_inv (G : Nat → Bool) (i : Nat) : 0 ≤ (gF G i).1 ∧ (gF G i).1 ≤ i ∧ ((gF G i).1 = 0 ↔ (gF G i).2 = -1) := by
  induction i with
  | zero => exact ⟨Int.le_refl 0, Int.le_refl 0, ⟨fun _ => rfl, fun _ => rfl⟩⟩
  | succ i ih =>
    cases e : G i with
    | true =>
      rw [gF_t e]
      have hA : (0 : Int) ≤ cA i := Int.natCast_nonneg _
      have hB : (0 : Int) ≤ cB i := Int.natCast_nonneg _
      refine ⟨?_, ?_, ?_⟩
      · show 0 ≤ (gF G i).1 + 1
        omega
      · show (gF G i).1 + 1 ≤ _
        omega
      · show (gF G i).1 + 1 = 0 ↔ (if (gF G i).1 = 0 then 10 * cA i + cB i else (gF G i).2) = -1
        by_cases e2 : (gF G i).1 = 0
        · rw [if_pos e2]
          omega
        · rw [if_neg e2]
          omega
    | false =>
      rw [gF_f e]
      omega
theorem kx2 : ∀ i : Nat, i < 4 → kxor (i : Int) 2 = (((i + 2) % 4 : Nat) : Int) := by decide +kernel
theorem kx1 : ∀ i : Nat, i < 4 → kxor (i : Int) 1 = ((i + 1 - 2 * (i % 2) : Nat) : Int) := by decide +kernel
theorem cx2 : ∀ i : Nat, i < 4 → cA ((i + 2) % 4) = 1 - cA i ∧ cB ((i + 2) % 4) = cB i := by decide +kernel
theorem cx1 : ∀ i : Nat, i < 4 → cA (i + 1 - 2 * (i % 2)) = cA i ∧ cB (i + 1 - 2 * (i % 2)) = 1 - cB i := by decide +kernel
theorem kd2 : ∀ i : Nat, i < 4 → kdiv (i : Int) 2 = cA i ∧ krem (i : Int) 2 = cB i := by decide +kernel
theorem c_addF {x : Int} (h2 : 0 ≤ σ 57 2 ∧ σ 57 2 < 100) : ∃ σ', pf_Oracle_addFound_57 σ x = some σ' ∧ σ' 57 2 = σ 57 2 + 1 ∧ σ' 57 3 = (if σ 57 2 = 0 then x else σ 57 3) ∧ (∀ c : Nat, c ≠ 57 → σ' c = σ c) := by
  unfold pf_Oracle_addFound_57 pf_Oracle_addFound_57_j12
  by_cases e : σ 57 2 = 0
  · rw [if_pos e, if_pos e, klet_eq, klet_eq]
    refine ⟨_, rfl, ?_, ?_, fun c hc => by rw [kst_ne hc, kst_ne hc]⟩
    · rw [kst_eq, kup_eq, kst_eq, kup_ne (by decide), w32_s (by omega) (by omega)]
    · rw [kst_eq, kup_ne (by decide), kst_eq, kup_eq]
  · rw [if_neg e, if_neg e, klet_eq]
    refine ⟨_, rfl, ?_, ?_, fun c hc => by rw [kst_ne hc]⟩
    · rw [kst_eq, kup_eq, w32_s (by omega) (by omega)]
    · rw [kst_eq, kup_ne (by decide)]
end GAME2

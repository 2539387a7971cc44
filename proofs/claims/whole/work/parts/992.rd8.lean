/-! CALLS: readings. The reference's table -/
theorem orb_sh : ∀ h : Fin 256, ∀ n : Fin 9, ∀ p : Fin 8, p.val < n.val → (h.val : Int) < kshl 1 (n.val : Int) → kor (h.val : Int) (kshl 1 (p.val : Int)) < kshl 1 (n.val : Int) := by decide +kernel
theorem orb_lt {h N : Int} {p : Nat} (h0 : 0 ≤ h) (hN : 0 ≤ N ∧ N ≤ 8) (hp : (p : Int) < N) (hh : h < kshl 1 N) : orb h p < kshl 1 N := by
  have hr := ksh_rng hN.1 hN.2
  have h1 := orb_sh ⟨h.toNat, by omega⟩ ⟨N.toNat, by omega⟩ ⟨p, by omega⟩
  simp only [Int.toNat_of_nonneg h0, Int.toNat_of_nonneg hN.1] at h1
  exact h1 (by omega) hh
def frL (μ μ' : kM) : Prop := ∀ c : Nat, c ≠ 15 → c ≠ 16 → c ≠ 18 → μ' c = μ c
theorem frL.rfl {μ : kM} : frL μ μ := fun _ _ _ _ => Eq.refl _
theorem frL.trans {μ μ' μ'' : kM} (h : frL μ μ') (h' : frL μ' μ'') : frL μ μ'' := fun c a b d => (h' c a b d).trans (h c a b d)
theorem frL.scr {μ μ' : kM} (h : scrM μ μ') : frL μ μ' := fun c a b _ => h c a b
theorem frL.put {μ : kM} {g : Nat → Int} : frL μ (kst μ 18 g) := fun c _ _ d => kst_ne d
theorem frL.kp {μ μ' : kM} (h : frL μ μ') : kpT μ μ' := ⟨⟨fun c hc => h c (by omega) (by omega) (by omega), fun j _ => by rw [h 0 (by decide) (by decide) (by decide)], fun k _ => by rw [h 8 (by decide) (by decide) (by decide)]⟩, by rw [h 0 (by decide) (by decide) (by decide)]⟩
section RTB
variable {N M tp : Int} {L : Nat → Int} {PH PF PB : List Int} {σ σ' μ μ' : kM} {q : Nat → Int}
theorem rt_n {N M h : Int} {w p : Nat} (hn1 : 0 ≤ N ∧ N ≤ 8) (hn2 : 0 ≤ M ∧ M ≤ 4) (hw : w < M.toNat) (hp : p < N.toNat) (h0 : 0 ≤ h ∧ h < 256) : w32 (21 + (w : Int)) = ((21 + w : Nat) : Int) ∧ (0 ≤ ((21 + w : Nat) : Int) ∧ ((21 + w : Nat) : Int) < 290) ∧ w32 ((w : Int) + 1) = ((w + 1 : Nat) : Int) ∧ (w32 (w32 (256 * ((w + 1 : Nat) : Int)) + h) = ((256 * (w + 1) + h.toNat : Nat) : Int)) ∧ (0 ≤ ((256 * (w + 1) + h.toNat : Nat) : Int) ∧ ((256 * (w + 1) + h.toNat : Nat) : Int) < 1280) ∧ (0 ≤ (w : Int) ∧ (w : Int) < M ∧ 0 ≤ (p : Int) ∧ (p : Int) < N) ∧ (0 + (21 + (w : Int))).toNat = 21 + w ∧ (21 + (w : Int)).toNat = 21 + w ∧ (0 ≤ 21 + (w : Int) ∧ 21 + (w : Int) < 145) := by
  refine ⟨?_, by omega, kw_inc (by omega), ?_, by omega, by omega, by omega, by omega, by omega⟩
  · rw [w32_s (by omega) (by omega)]
    rfl
  · rw [w32_s (v := 256 * ((w + 1 : Nat) : Int)) (by omega) (by omega), w32_s (by omega) (by omega)]
    omega
end RTB

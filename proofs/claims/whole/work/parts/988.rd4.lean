/-! CALLS: readings. The class's answer -/
section SRB
variable {r : Nat → Nat → Int} {S : Nat → Bool} {M n : Nat} {σ σ' : kM}
theorem rM_1 {k : Nat} {h : Int} (hS : S (M - 1 - k) = false) (c : rM S M n (k + 1) h ≠ 0) : rM S M n (k + 1) h = rM S M n k h + 1 := by
  have e : rN S M (k + 1) = rN S M k + 1 := if_neg (by rw [hS]; decide)
  unfold rM at c ⊢
  rw [e] at c ⊢
  omega
theorem rN_le : ∀ k : Nat, rN S M k ≤ k := by
  intro k
  induction k with
  | zero => exact Nat.le_refl _
  | succ k ih =>
    show (if S (M - 1 - k) = true then rN S M k else rN S M k + 1) ≤ _
    split <;> omega
theorem rM_w {k : Nat} {h : Int} (hk : k ≤ 4) (hm : rM S M n (k + 1) h = rM S M n k h + 1) : w32 ((rM S M n (k + 1) h : Int) - 1) = (rM S M n k h : Int) := by
  have h1 : rM S M n k h ≤ k := Nat.le_trans (Nat.sub_le _ _) (rN_le k)
  rw [hm]
  generalize rM S M n k h = z at *
  rw [w32_s (by omega) (by omega)]
  omega
theorem rM_p {z : Nat} (c : z ≠ 0) : ¬ (z : Int) ≤ 0 := by omega
theorem rd_n {w p n : Nat} (hp : p < n) (hn : n ≤ 8) (w4 : w < 4) : w32 ((p : Int) + 1) = ((p + 1 : Nat) : Int) ∧ p < 8 ∧ (¬ (n : Int) ≤ (p : Int)) ∧ w32 (w32 ((w : Int) * 8) + (p : Int)) = ((8 * w + p : Nat) : Int) ∧ (0 ≤ ((8 * w + p : Nat) : Int) ∧ ((8 * w + p : Nat) : Int) < 32) := by
  refine ⟨kw_inc (by omega), by omega, by omega, ?_, by omega⟩
  rw [w32_s (v := (w : Int) * 8) (by omega) (by omega), w32_s (by omega) (by omega)]
  omega
theorem rd_s {s x : Int} {k : Nat} (hs : 0 ≤ s ∧ s + 9 * ((k + 1 : Nat) : Int) ≤ 1000) (hx : 0 ≤ x ∧ x ≤ 9) : w32 (s + x) = s + x ∧ 0 ≤ s + x ∧ s + x + 9 * (k : Int) ≤ 1000 := by
  refine ⟨w32_s (by omega) (by omega), by omega, by omega⟩
/-- the loop over people -/
theorem sr_loop {k d : Nat} {h s : Int} (hr : ∀ w p : Nat, w < M → p < n → 0 ≤ r w p ∧ r w p ≤ 9) (hn : n ≤ 8) (hM : M ≤ 4) (hk : k + 1 ≤ M) (hK : RK r S M n σ) (h0 : 0 ≤ h ∧ h < 256) (hS : S (M - 1 - k) = false) (hx : σ 55 (M - 1 - k) = -1) (h55 : ∀ j : Nat, M - k ≤ j → j < M → σ 55 j = -1) (hs : 0 ≤ s ∧ s + 9 * ((k + 1 : Nat) : Int) ≤ 1000)
    (ih : ∀ (h s : Int) (σ : kM), RK r S M n σ → 0 ≤ h ∧ h < 256 → (∀ j : Nat, M - k ≤ j → j < M → σ 55 j = -1) → 0 ≤ s ∧ s + 9 * (k : Int) ≤ 1000 → ∃ σ', pf_gA d 0 σ ((M - k : Nat) : Int) h (rM S M n k h : Int) s = some σ' ∧ SR r S M n k h s σ σ') :
    ∃ σ1, kloop (fun st => pf_Court_assignFrom_50_l41 (pf_gA d) st.1 ((M - 1 - k : Nat) : Int) h (rM S M n (k + 1) h : Int) s st.2) kFuel (σ, 0) = some σ1 ∧ BI r S M n k h s (M - 1 - k) σ n σ1 := by
  have hw : M - 1 - k < M := by omega
  have w4 : M - 1 - k < 4 := by omega
  have e1 : w32 (((M - 1 - k : Nat) : Int) + 1) = ((M - k : Nat) : Int) := by
    rw [kw_inc (by omega), show M - k = M - 1 - k + 1 by omega]
  have e2 : M - k = M - 1 - k + 1 := by omega
  have hor : ∀ p : Nat, p < n → frb h p → rM S M n k (orb h p) = rM S M n (k + 1) h := fun p hp hf => rM_or hS h0 hn hp hf
  rw [e2] at ih h55
  clear hS
  rw [e2] at e1
  generalize M - 1 - k = w at *
  have cw4 : 0 ≤ (w : Int) ∧ (w : Int) < 4 := by omega
  have n9 : n < 100000000 := by omega
  exact kl_M (body := fun st => pf_Court_assignFrom_50_l41 (pf_gA d) st.1 (w : Int) h (rM S M n (k + 1) h : Int) s st.2) (fun p σ1 => BI r S M n k h s w σ p σ1) (fun i => (i : Int)) n n9 (fun p σ1 hp hb => by
    obtain ⟨ewp, p8, cn, ei, ci⟩ := rd_n hp hn w4
    obtain ⟨es, hs2⟩ := rd_s hs (hr w p hw hp)
    have hb : BI r S M n k h s w σ p σ1 := hb
    have hK1 := hK.fr hb.1
    show ∃ σ2, pf_Court_assignFrom_50_l41 (pf_gA d) σ1 (w : Int) h (rM S M n (k + 1) h : Int) s (p : Int) = some (Sum.inl (σ2, ((p + 1 : Nat) : Int))) ∧ BI r S M n k h s w σ (p + 1) σ2
    unfold pf_Court_assignFrom_50_l41 pf_Court_assignFrom_50_l41_j99
    rw [hK1.1, if_neg cn]
    by_cases c : kand (kshr h (p : Int)) 1 = 0
    · obtain ⟨v, hv⟩ := hb.2.1
      have hK2 := hK1.fr (frR.put55 (g := kup (σ1 55) w (p : Int)))
      obtain ⟨σ2, a1, a2⟩ := ih (orb h p) (s + r w p) (kst σ1 55 (kup (σ1 55) w (p : Int))) hK2 (orb_rng h0 p8) (fun j j1 j2 => by
        rw [kst_eq, hv, kup_up, kup_ne (Nat.ne_of_gt j1)]
        exact h55 j j1 j2) hs2
      rw [hor p hp c] at a1
      have e54 : kst σ1 55 (kup (σ1 55) w (p : Int)) 54 (8 * w + p) = r w p := hK2.2.2.2 w p hw hp
      rw [if_pos c, kchk_t cw4, klet_eq, ei, kchk_t ci, Int.toNat_natCast, Int.toNat_natCast, e54, es, e1, kbind_eq a1, klet_eq, ewp]
      exact ⟨σ2, rfl, BI_step hb c a2⟩
    · rw [if_neg c, klet_eq, ewp]
      exact ⟨σ1, rfl, BI_skip hb c⟩) (fun σ1 hb => by
    refine ⟨σ1, ?_, hb⟩
    have hK1 := hK.fr hb.1
    show pf_Court_assignFrom_50_l41 (pf_gA d) σ1 (w : Int) h (rM S M n (k + 1) h : Int) s (n : Int) = _
    unfold pf_Court_assignFrom_50_l41
    rw [hK1.1, if_pos (Int.le_refl _)]) (σ := σ) ⟨frR.rfl, ⟨-1, by rw [← hx, kup_id]⟩, Or.inl ⟨rfl, rfl, fun p' hp' => absurd hp' (Nat.not_lt_zero _)⟩⟩ (b0 := 0) rfl
end SRB

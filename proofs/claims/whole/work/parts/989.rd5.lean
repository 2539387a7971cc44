/-! CALLS: readings. The class's search -/
section SRC
variable {r : Nat → Nat → Int} {S : Nat → Bool} {M n : Nat} {σ σ' : kM}
theorem rd_w {M k : Nat} (hk : k + 1 ≤ M) (hM : M ≤ 4) : M - (k + 1) = M - 1 - k ∧ M - 1 - k < M ∧ M - k = M - 1 - k + 1 ∧ w32 (((M - 1 - k : Nat) : Int) + 1) = ((M - k : Nat) : Int) ∧ ((M - 1 - k : Nat) : Int) < (M : Int) ∧ (0 ≤ ((M - 1 - k : Nat) : Int) ∧ ((M - 1 - k : Nat) : Int) < 4) := by
  refine ⟨by omega, by omega, by omega, ?_, by omega, by omega⟩
  rw [kw_inc (by omega), show M - k = M - 1 - k + 1 by omega]
theorem rd_k {s : Int} {k : Nat} (hs : 0 ≤ s ∧ s + 9 * ((k + 1 : Nat) : Int) ≤ 1000) : 0 ≤ s ∧ s + 9 * (k : Int) ≤ 1000 := by omega
theorem sr_all (hr : ∀ w p : Nat, w < M → p < n → 0 ≤ r w p ∧ r w p ≤ 9) (hn : n ≤ 8) (hM : M ≤ 4) : ∀ (k d : Nat) (h s : Int) (σ : kM), k ≤ M → k < d → RK r S M n σ → 0 ≤ h ∧ h < 256 → (∀ j : Nat, M - k ≤ j → j < M → σ 55 j = -1) → 0 ≤ s ∧ s + 9 * (k : Int) ≤ 1000 → ∃ σ', pf_gA d 0 σ ((M - k : Nat) : Int) h (rM S M n k h : Int) s = some σ' ∧ SR r S M n k h s σ σ' := by
  intro k
  induction k with
  | zero =>
    intro d h s σ _ hd hK h0 h55 hs
    obtain ⟨d, rfl⟩ : ∃ d', d = d' + 1 := ⟨d - 1, by omega⟩
    obtain ⟨σ1, a1, a2⟩ := sr_keep (r := r) (S := S) h s hK
    refine ⟨σ1, ?_, a2⟩
    show pf_Court_assignFrom_50 (pf_gA d) σ ((M - 0 : Nat) : Int) h (rM S M n 0 h : Int) s = some σ1
    unfold pf_Court_assignFrom_50
    rw [hK.2.1, Nat.sub_zero, if_neg (Int.lt_irrefl _), kbind_eq a1]
  | succ k ih =>
    intro d h s σ hk hd hK h0 h55 hs
    obtain ⟨d, rfl⟩ : ∃ d', d = d' + 1 := ⟨d - 1, by omega⟩
    obtain ⟨ew, hw, ew2, e1, cw, cw4⟩ := rd_w hk hM
    have hkM : k ≤ M := Nat.le_of_succ_le hk
    have hkd : k < d := Nat.lt_of_succ_lt_succ hd
    have hs1 := rd_k hs
    have hx := h55 (M - 1 - k) (Nat.le_of_eq ew) hw
    have h55' : ∀ j : Nat, M - k ≤ j → j < M → σ 55 j = -1 := fun j a b => h55 j (by rw [ew]; rw [ew2] at a; exact Nat.le_of_succ_le a) b
    rw [ew]
    show ∃ σ', pf_Court_assignFrom_50 (pf_gA d) σ ((M - 1 - k : Nat) : Int) h (rM S M n (k + 1) h : Int) s = some σ' ∧ SR r S M n (k + 1) h s σ σ'
    unfold pf_Court_assignFrom_50
    rw [hK.2.1, if_pos cw, kbind_eq (c_sitsR hK hM hw), e1]
    cases hS : S (M - 1 - k) with
    | true =>
      rw [if_pos rfl, if_neg (by decide), rM_s hS]
      obtain ⟨σ1, a1, a2⟩ := ih d h s σ hkM hkd hK h0 h55' hs1
      rw [kbind_eq a1]
      refine ⟨σ1, rfl, ?_⟩
      have eI : rI r S M n (k + 1) h = rI r S M n k h := by
        unfold rI
        rw [rV_s hS, rM_s hS]
      have eR : rR r S M n (k + 1) h (σ 55) = rR r S M n k h (σ 55) := if_pos hS
      unfold SR
      rw [eI, eR]
      exact a2
    | false =>
      rw [if_neg (show ¬ (false = true) by decide), if_pos rfl]
      obtain ⟨σ1, b1, b2⟩ := sr_loop (d := d) hr hn hM hk hK h0 hS hx h55' hs (fun h s σ a b c e => ih d h s σ hkM hkd a b c e)
      rw [kbind_eq b1, kchk_t cw4, klet_eq, Int.toNat_natCast]
      by_cases c : rM S M n (k + 1) h = 0
      · rw [if_pos (by rw [c]; decide)]
        exact ⟨_, rfl, sr_fin0 hr hn hM hk h0 hS b2 hx c⟩
      · have hm := rM_1 hS c
        have ei := rM_w (Nat.le_trans hkM hM) hm
        obtain ⟨v, hv⟩ := b2.2.1
        have hK2 := (hK.fr b2.1).fr (frR.put55 (g := kup (σ1 55) (M - 1 - k) (-1)))
        obtain ⟨σ2, a1, a2⟩ := ih d h s (kst σ1 55 (kup (σ1 55) (M - 1 - k) (-1))) hkM hkd hK2 h0 (fun j j1 j2 => by
          rw [kst_eq, hv, kup_up, kup_ne (by rw [ew2] at j1; exact Nat.ne_of_gt j1)]
          exact h55' j j1 j2) hs1
        rw [if_neg (rM_p c), ei, kbind_eq a1]
        exact ⟨σ2, rfl, sr_fin1 hn h0 hS b2 hx hm a2⟩
end SRC

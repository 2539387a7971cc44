/-! CALLS: game, the class's second loop, run -/
section GAME4
variable {N M tp : Int} {L : Nat → Int} {PH PF PB : List Int} {σ σ' μ μ' : kM} {q q' : Nat → Int}
theorem c_game2 {A B : Int → Int → Int} (hA : ∀ k : Nat, k < 4 → σ 62 k = A (cA k) (cB k) ∧ σ 63 k = B (cA k) (cB k)) (h2 : σ 57 2 = 0) (h3 : σ 57 3 = -1) : ∃ σ', kloop (fun st => pf_Oracle_playGame_57_l84 st.1 st.2) kFuel (σ, 0) = some σ' ∧ (∀ c : Nat, c ≠ 57 → σ' c = σ c) ∧ σ' 57 2 = (gF (gG A B) 4).1 ∧ σ' 57 3 = (gF (gG A B) 4).2 := by
  obtain ⟨σ9, f1, f2⟩ := kl_M (body := fun st => pf_Oracle_playGame_57_l84 st.1 st.2) (fun i σ1 => (∀ c : Nat, c ≠ 57 → σ1 c = σ c) ∧ σ1 57 2 = (gF (gG A B) i).1 ∧ σ1 57 3 = (gF (gG A B) i).2) (fun i => (i : Int)) 4 (by decide) (fun i σ1 hi hs => by
    have q1 : ¬ (4 : Int) ≤ (i : Int) := by omega
    have q2 : 0 ≤ (i : Int) ∧ (i : Int) < 4 := by omega
    have q3 : 0 ≤ (((i + 2) % 4 : Nat) : Int) ∧ (((i + 2) % 4 : Nat) : Int) < 4 := by omega
    have q4 : 0 ≤ ((i + 1 - 2 * (i % 2) : Nat) : Int) ∧ ((i + 1 - 2 * (i % 2) : Nat) : Int) < 4 := by omega
    have q5 : (i : Int) < 100 := by omega
    have ew : w32 ((i : Int) + 1) = ((i + 1 : Nat) : Int) := by
      rw [w32_s (by omega) (by omega)]
      rfl
    have e10 : w32 (w32 (cA i * 10) + cB i) = 10 * cA i + cB i := by
      have b1 : cA i = ((i / 2 : Nat) : Int) := rfl
      have b2 : cB i = ((i % 2 : Nat) : Int) := rfl
      rw [w32_s (v := cA i * 10) (by omega) (by omega), w32_s (by omega) (by omega)]
      omega
    have n2 : (i + 2) % 4 < 4 := by omega
    have n1 : i + 1 - 2 * (i % 2) < 4 := by omega
    obtain ⟨hs1, hs2, hs3⟩ := hs
    have hs1 : ∀ c : Nat, c ≠ 57 → σ1 c = σ c := hs1
    have hs2 : σ1 57 2 = (gF (gG A B) i).1 := hs2
    have hs3 : σ1 57 3 = (gF (gG A B) i).2 := hs3
    have hinv := gF_inv (gG A B) i
    have hA2 := hA _ n2
    have hA1 := hA _ n1
    rw [(cx2 i hi).1, (cx2 i hi).2] at hA2
    rw [(cx1 i hi).1, (cx1 i hi).2] at hA1
    show ∃ σ2, pf_Oracle_playGame_57_l84 σ1 (i : Int) = some (Sum.inl (σ2, ((i + 1 : Nat) : Int))) ∧ (∀ c : Nat, c ≠ 57 → σ2 c = σ c) ∧ σ2 57 2 = (gF (gG A B) (i + 1)).1 ∧ σ2 57 3 = (gF (gG A B) (i + 1)).2
    rw [l84_at (kx2 i hi) (kx1 i hi), if_neg q1, kchk_t q2, kchk_t q3, Int.toNat_natCast, Int.toNat_natCast, Int.toNat_natCast]
    have j : ∀ s : kM, pf_Oracle_playGame_57_l84_j137 s (i : Int) = some (Sum.inl (s, ((i + 1 : Nat) : Int))) := fun s => by
      unfold pf_Oracle_playGame_57_l84_j137
      rw [klet_eq, ew]
    rw [hs1 62 (by decide), hs1 63 (by decide), (hA i hi).1, (hA i hi).2, hA2.1, hA1.2, (kd2 i hi).1, (kd2 i hi).2]
    by_cases g1 : A (cA i) (cB i) < A (1 - cA i) (cB i)
    · rw [if_pos g1, j]
      have eg : gG A B i = false := decide_eq_false (fun hh => hh.1 g1)
      rw [gF_f eg]
      exact ⟨σ1, rfl, hs1, hs2, hs3⟩
    · rw [if_neg g1, kchk_t q2, kchk_t q4]
      by_cases g2 : B (cA i) (cB i) < B (cA i) (1 - cB i)
      · rw [if_pos g2, j]
        have eg : gG A B i = false := decide_eq_false (fun hh => hh.2 g2)
        rw [gF_f eg]
        exact ⟨σ1, rfl, hs1, hs2, hs3⟩
      · rw [if_neg g2]
        have eg : gG A B i = true := decide_eq_true ⟨g1, g2⟩
        rw [e10]
        obtain ⟨σ2, t1, t2, t3, t4⟩ := c_addF (σ := σ1) (x := 10 * cA i + cB i) (by rw [hs2]; exact ⟨hinv.1, Int.lt_of_le_of_lt hinv.2.1 q5⟩)
        rw [kbind_eq t1, j, gF_t eg]
        rw [hs2] at t2 t3
        rw [hs3] at t3
        exact ⟨σ2, rfl, fun c hc => (t4 c hc).trans (hs1 c hc), t2, t3⟩) (fun σ1 hs => by
    refine ⟨σ1, ?_, hs⟩
    show pf_Oracle_playGame_57_l84 σ1 ((4 : Nat) : Int) = _
    unfold pf_Oracle_playGame_57_l84
    rw [if_pos (by decide)]) (σ := σ) ⟨fun _ _ => rfl, h2, h3⟩ (b0 := 0) rfl
  exact ⟨σ9, f1, f2⟩
abbrev gH (N M : Int) (PH PF PB : List Int) (L : Nat → Int) (q : Nat → Int) (w o : Int) : Nat → Bool := gG (fun a b => gP w (gS N M PH PF PB L q w o a b)) (fun a b => gP o (gS N M PH PF PB L q w o a b))
theorem c_play (h : CN N M tp L PH PF PB σ q) {w o : Int} (hw : 0 ≤ w ∧ w < M) (ho : 0 ≤ o ∧ o < M) : ∃ σ', pf_Oracle_playGame_57 σ w o = some σ' ∧ σ' 57 2 = (gF (gH N M PH PF PB L q w o) 4).1 ∧ σ' 57 3 = (gF (gH N M PH PF PB L q w o) 4).2 ∧ kpC σ σ' := by
  obtain ⟨σ1, a1, a2, a3⟩ := c_game1 h hw ho
  obtain ⟨σ2, b1, b2, b3, b4⟩ := c_game2 (σ := kst (kst σ1 57 (kup (σ1 57) 2 0)) 57 (kup (kst σ1 57 (kup (σ1 57) 2 0) 57) 3 (-1))) (A := fun a b => gP w (gS N M PH PF PB L q w o a b)) (B := fun a b => gP o (gS N M PH PF PB L q w o a b)) (fun k hk => by
    rw [kst_ne (show (62 : Nat) ≠ 57 by decide), kst_ne (show (62 : Nat) ≠ 57 by decide), kst_ne (show (63 : Nat) ≠ 57 by decide), kst_ne (show (63 : Nat) ≠ 57 by decide)]
    exact a2 k hk) (by rw [kst_eq, kup_ne (by decide), kst_eq, kup_eq]) (by rw [kst_eq, kup_eq])
  refine ⟨σ2, ?_, b3, b4, a3.trans (fun c hc => ?_)⟩
  · unfold pf_Oracle_playGame_57
    rw [kbind_eq a1, klet_eq, klet_eq, kbind_eq b1]
  · rw [b2 c (by omega), kst_ne (by omega), kst_ne (by omega)]
theorem gS_comm {w o a b : Int} (hw : 0 ≤ w) (ho : 0 ≤ o) (hne : w ≠ o) : gS N M PH PF PB L q o w b a = gS N M PH PF PB L q w o a b := by
  unfold gS
  rw [brn_comm hw ho hne]
end GAME4

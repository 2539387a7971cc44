section TOK
variable {T : Nat → Int} {n : Nat} {σ : kM}
theorem tpC.kept {σ' : kM} (h : tpC T n σ) (h1 : σ' 1 = σ 1) : tpC T n σ' := fun k hk => by
  rw [h1]
  exact h k hk
def frT (σ σ' : kM) (i : Nat) : Prop := (∀ c : Nat, c < 24 ∨ 28 < c → σ' c = σ c) ∧ (∀ j : Nat, j ≠ 5 → σ' 24 j = σ 24 j) ∧ σ' 24 5 = ((i + 1 : Nat) : Int) ∧ ∀ j : Nat, j ≠ i → σ' 25 j = σ 25 j ∧ σ' 26 j = σ 26 j ∧ σ' 27 j = σ 27 j ∧ σ' 28 j = σ 28 j
abbrev adM (σ : kM) (i : Nat) (a b c d : Int) : kM := kst (kst (kst (kst (kst σ 26 (kup (σ 26) i b)) 27 (kup (σ 27) i c)) 25 (kup (σ 25) i a)) 28 (kup (σ 28) i d)) 24 (kup (σ 24) 5 ((i + 1 : Nat) : Int))
theorem adM_fr (σ : kM) (i : Nat) (a b c d : Int) : frT σ (adM σ i a b c d) i ∧ adM σ i a b c d 25 i = a ∧ adM σ i a b c d 26 i = b ∧ adM σ i a b c d 27 i = c ∧ adM σ i a b c d 28 i = d := by
  have e25 : adM σ i a b c d 25 = kup (σ 25) i a := by
    show kst _ 24 _ 25 = _
    rw [kst_ne (by decide), kst_ne (by decide), kst_eq]
  have e26 : adM σ i a b c d 26 = kup (σ 26) i b := by
    show kst _ 24 _ 26 = _
    rw [kst_ne (by decide), kst_ne (by decide), kst_ne (by decide), kst_ne (by decide), kst_eq]
  have e27 : adM σ i a b c d 27 = kup (σ 27) i c := by
    show kst _ 24 _ 27 = _
    rw [kst_ne (by decide), kst_ne (by decide), kst_ne (by decide), kst_eq]
  have e28 : adM σ i a b c d 28 = kup (σ 28) i d := by
    show kst _ 24 _ 28 = _
    rw [kst_ne (by decide), kst_eq]
  have e24 : adM σ i a b c d 24 = kup (σ 24) 5 ((i + 1 : Nat) : Int) := by
    show kst _ 24 _ 24 = _
    rw [kst_eq]
  refine ⟨⟨fun q hq => ?_, fun j hj => by rw [e24, kup_ne hj], by rw [e24, kup_eq], fun j hj => by rw [e25, e26, e27, e28, kup_ne hj, kup_ne hj, kup_ne hj, kup_ne hj]; exact ⟨rfl, rfl, rfl, rfl⟩⟩, by rw [e25, kup_eq], by rw [e26, kup_eq], by rw [e27, kup_eq], by rw [e28, kup_eq]⟩
  show kst _ 24 _ q = _
  rw [kst_ne (by omega), kst_ne (by omega), kst_ne (by omega), kst_ne (by omega), kst_ne (by omega)]
theorem c_add160 {i : Nat} (hi : i < 700) {a b c d : Int} : pf_Tokens_addToken_24_j160 (kst (kst σ 26 (kup (σ 26) i b)) 27 (kup (σ 27) i c)) d a (i : Int) = (if σ 24 5 = (i : Int) then some (adM σ i a b c d) else pf_Tokens_addToken_24_j160 (kst (kst σ 26 (kup (σ 26) i b)) 27 (kup (σ 27) i c)) d a (i : Int)) := by
  by_cases h : σ 24 5 = (i : Int)
  · rw [if_pos h]
    have c1 : 0 ≤ (i : Int) ∧ (i : Int) < 701 := by omega
    have ew := kw_inc (i := i) (by omega)
    unfold pf_Tokens_addToken_24_j160 pf_Tokens_addToken_24_j171
    rw [kchk_t c1, klet_eq, kst_ne (show (24 : Nat) ≠ 25 by decide), kst_ne (show (24 : Nat) ≠ 27 by decide), kst_ne (show (24 : Nat) ≠ 26 by decide), h, kchk_t c1, klet_eq, klet_eq, Int.toNat_natCast, kst_ne (show (24 : Nat) ≠ 28 by decide), kst_ne (show (24 : Nat) ≠ 25 by decide), kst_ne (show (24 : Nat) ≠ 27 by decide), kst_ne (show (24 : Nat) ≠ 26 by decide), h, ew, kst_ne (show (28 : Nat) ≠ 25 by decide), kst_ne (show (28 : Nat) ≠ 27 by decide), kst_ne (show (28 : Nat) ≠ 26 by decide), kst_ne (show (25 : Nat) ≠ 27 by decide), kst_ne (show (25 : Nat) ≠ 26 by decide)]
  · rw [if_neg h]
theorem c_addToken {i s e : Nat} (hn : n ≤ 700) (ht : tpC T n σ) (hi : σ 24 5 = (i : Int)) (h7 : i < 700) (hs : s < n) (g1 : s < e) (g2 : e ≤ n) (gL : pL (T s) = true → ∀ j, s ≤ j → j < e → pL (T j) = true) (gD : pD (T s) = true → ∀ j, s ≤ j → j < e → pD (T j) = true) : ∃ σ', pf_Tokens_addToken_24 σ (s : Int) (e : Int) = some σ' ∧ frT σ σ' i ∧ tkC T s e (σ' 25 i) (σ' 26 i) (σ' 27 i) (σ' 28 i) := by
  have c1 : 0 ≤ (i : Int) ∧ (i : Int) < 701 := by omega
  have c2 : (i : Int) < 700 := by omega
  have c3 : 0 ≤ (s : Int) ∧ (s : Int) < 700 := by omega
  have ew := kw_inc (i := i) (by omega)
  have el : w32 ((e : Int) - (s : Int)) = ((e - s : Nat) : Int) := by
    rw [w32_s (by omega) (by omega)]
    omega
  obtain ⟨t1, t2⟩ := ht s hs
  have q24 : ∀ f g : Nat → Int, kst (kst σ 26 f) 27 g 24 = σ 24 := fun f g => by rw [kst_ne (by decide), kst_ne (by decide)]
  have q1 : ∀ f g : Nat → Int, kst (kst σ 26 f) 27 g 1 = σ 1 := fun f g => by rw [kst_ne (by decide), kst_ne (by decide)]
  have e0 : pf_Tokens_addToken_24 σ (s : Int) (e : Int) = (klet (kst (kst σ 26 (kup (σ 26) i (s : Int))) 27 (kup (σ 27) i ((e - s : Nat) : Int))) fun σ_4 =>
      if pL (T s) = true then
        kchk (0 ≤ (i : Int) ∧ (i : Int) < 701) <| klet (kst σ_4 25 (kup (σ_4 25) i 2)) fun σ_27 => (pf_Word_spelt_1 σ_27 (s : Int) (e : Int)).bind fun r_28 => kchk (0 ≤ (σ_27 24 5) ∧ (σ_27 24 5) < 701) <| klet (kst σ_27 28 (kup (σ_27 28) ((σ_27 24 5).toNat) r_28)) fun σ_30 => pf_Tokens_addToken_24_j171 σ_30
      else if pD (T s) = true then
        kchk (0 ≤ (i : Int) ∧ (i : Int) < 701) <| klet (kst σ_4 25 (kup (σ_4 25) i 1)) fun σ_20 => (pf_Tokens_valueOf_24 σ_20 (s : Int) (e : Int)).bind fun r_21 => kchk (0 ≤ (σ_20 24 5) ∧ (σ_20 24 5) < 701) <| klet (kst σ_20 28 (kup (σ_20 28) ((σ_20 24 5).toNat) r_21)) fun σ_23 => pf_Tokens_addToken_24_j171 σ_23
      else if sgB (T s) ≤ 0 then pf_Tokens_addToken_24_j137 σ_4 32 else pf_Tokens_addToken_24_j137 σ_4 (kc16 (sgB (T s)))) := by
    unfold pf_Tokens_addToken_24
    rw [hi, if_pos c2, kchk_t c1, klet_eq, kst_ne (show (24 : Nat) ≠ 26 by decide), hi, kchk_t c1, klet_eq, kchk_t c3, klet_eq, kst_ne (show (27 : Nat) ≠ 26 by decide), q1, q24, hi, Int.toNat_natCast, Int.toNat_natCast, t2, kbind_eq (sgB_L t1), el]
    show _ = ite (pL (T s) = true) _ _
    by_cases cL : pL (T s) = true
    · rw [if_pos cL, if_neg (by decide), if_pos cL]
    · rw [if_neg cL, if_pos rfl, if_neg cL, kchk_t c3, kbind_eq (sgB_D t1)]
      by_cases cD : pD (T s) = true
      · rw [if_pos cD, if_neg (by decide), if_pos cD]
        rfl
      · rw [if_neg cD, if_pos rfl, if_neg cD, kchk_t c3, kchk_t c3]
  rw [e0, klet_eq]
  generalize hσ : kst (kst σ 26 (kup (σ 26) i (s : Int))) 27 (kup (σ 27) i ((e - s : Nat) : Int)) = σ1
  have r24 : σ1 24 = σ 24 := by rw [← hσ]; exact q24 _ _
  have r1 : σ1 1 = σ 1 := by rw [← hσ]; exact q1 _ _
  have r25 : σ1 25 = σ 25 := by rw [← hσ, kst_ne (by decide), kst_ne (by decide)]
  have r28 : σ1 28 = σ 28 := by rw [← hσ, kst_ne (by decide), kst_ne (by decide)]
  by_cases cL : pL (T s) = true
  · have hL := gL cL
    rw [if_pos cL, kchk_t c1, klet_eq]
    obtain ⟨w, hw1, hw2⟩ := c_spelt (σ := kst σ1 25 (kup (σ1 25) i 2)) hn ((ht.kept r1).kept (by rw [kst_ne (by decide)])) g1 g2 hL
    rw [kbind_eq hw1, kst_ne (show (24 : Nat) ≠ 25 by decide), r24, hi, kchk_t c1, klet_eq, Int.toNat_natCast, kst_ne (show (28 : Nat) ≠ 25 by decide)]
    have h := adM_fr σ i 2 (s : Int) ((e - s : Nat) : Int) (w : Int)
    refine ⟨_, ?_, h.1, ?_⟩
    · unfold pf_Tokens_addToken_24_j171
      rw [klet_eq, kst_ne (show (24 : Nat) ≠ 28 by decide), kst_ne (show (24 : Nat) ≠ 25 by decide), r24, hi, ew, r28, r25, ← hσ]
    · rw [h.2.1, h.2.2.1, h.2.2.2.1, h.2.2.2.2]
      exact ⟨rfl, rfl, fun _ => ⟨rfl, w, rfl, hw2⟩, fun x => absurd x (pLD cL), fun x => absurd cL x⟩
  · rw [if_neg cL]
    by_cases cD : pD (T s) = true
    · have hD := gD cD
      rw [if_pos cD, kchk_t c1, klet_eq]
      have hw1 := c_valueOf (σ := kst σ1 25 (kup (σ1 25) i 1)) hn ((ht.kept r1).kept (by rw [kst_ne (by decide)])) g2 (by omega) hD
      rw [kbind_eq hw1, kst_ne (show (24 : Nat) ≠ 25 by decide), r24, hi, kchk_t c1, klet_eq, Int.toNat_natCast, kst_ne (show (28 : Nat) ≠ 25 by decide)]
      have h := adM_fr σ i 1 (s : Int) ((e - s : Nat) : Int) (zvC T s (e - s))
      refine ⟨_, ?_, h.1, ?_⟩
      · unfold pf_Tokens_addToken_24_j171
        rw [klet_eq, kst_ne (show (24 : Nat) ≠ 28 by decide), kst_ne (show (24 : Nat) ≠ 25 by decide), r24, hi, ew, r28, r25, ← hσ]
      · rw [h.2.1, h.2.2.1, h.2.2.2.1, h.2.2.2.2]
        exact ⟨rfl, rfl, fun x => absurd x cL, fun _ => ⟨rfl, rfl⟩, fun _ x => absurd cD x⟩
    · rw [if_neg cD]
      have fin : ∀ z : Int, 0 ≤ z → z < 128 → (pG (T s) = true → z = T s) → (¬ pG (T s) = true → ¬ pG z = true) → ∃ σ', pf_Tokens_addToken_24_j137 σ1 z = some σ' ∧ frT σ σ' i ∧ tkC T s e (σ' 25 i) (σ' 26 i) (σ' 27 i) (σ' 28 i) := by
        intro z z0 z1 hz hz'
        obtain ⟨r, hr1, hr2⟩ := ix_of σ1 z0 z1
        unfold pf_Tokens_addToken_24_j137
        rw [kbind_eq hr1, r24, hi]
        by_cases cG : pG (T s) = true
        · have ez := hz cG
          have h := adM_fr σ i 3 (s : Int) ((e - s : Nat) : Int) z
          rw [if_neg (fun x => (hr2.mp x) (by rw [ez]; exact cG)), ← hσ, c_add160 h7, if_pos hi]
          refine ⟨_, rfl, h.1, ?_⟩
          rw [h.2.1, h.2.2.1, h.2.2.2.1, h.2.2.2.2]
          exact ⟨rfl, rfl, fun x => absurd x cL, fun x => absurd x cD, fun _ _ => ⟨fun _ => ⟨rfl, ez⟩, fun x => absurd cG x⟩⟩
        · have h := adM_fr σ i 4 (s : Int) ((e - s : Nat) : Int) z
          rw [if_pos (hr2.mpr (hz' cG)), ← hσ, c_add160 h7, if_pos hi]
          refine ⟨_, rfl, h.1, ?_⟩
          rw [h.2.1, h.2.2.1, h.2.2.2.1, h.2.2.2.2]
          exact ⟨rfl, rfl, fun x => absurd x cL, fun x => absurd x cD, fun _ _ => ⟨fun x => absurd x cG, fun _ => rfl⟩⟩
      by_cases cz : sgB (T s) ≤ 0
      · rw [if_pos cz]
        refine fin 32 (by decide) (by decide) (fun x => ?_) (fun _ => by decide)
        have := pG_lt x
        unfold sgB at cz
        rw [if_pos (by omega)] at cz
        omega
      · rw [if_neg cz]
        have e : sgB (T s) = T s ∧ 0 < T s ∧ T s < 128 := by
          unfold sgB at *
          by_cases x : T s < 128
          · rw [if_pos x] at cz
            rw [if_pos x]
            omega
          · rw [if_neg x] at cz
            omega
        have ek := kc16_of ⟨(T s).toNat, by omega⟩
        simp only [Int.toNat_of_nonneg (show 0 ≤ T s by omega)] at ek
        rw [e.1, ek]
        exact fin (T s) (by omega) (by omega) (fun _ => rfl) (fun x => x)
end TOK

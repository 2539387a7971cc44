/-! state: the class's row of tokens -/
def pG (c : Int) : Bool := decide (c = 59 ∨ c = 40 ∨ c = 41 ∨ c = 43 ∨ c = 45 ∨ c = 42 ∨ c = 47 ∨ c = 60 ∨ c = 61)
theorem pG_t {c : Int} : pG c = true ↔ (c = 59 ∨ c = 40 ∨ c = 41 ∨ c = 43 ∨ c = 45 ∨ c = 42 ∨ c = 47 ∨ c = 60 ∨ c = 61) := decide_eq_true_iff
theorem ix_any (σ τ : kM) (c : Int) : pf_String_indexOf_0f7a4 σ 18 c = pf_String_indexOf_0f7a4 τ 18 c := by
  unfold pf_String_indexOf_0f7a4 pf_String_indexOf_7cf53 pf_String_isLatin1_aae02 pf_String_length_8abf5 pf_String_coder_7d493 pf_StringLatin1_indexOf_4cfef pf_StringLatin1_canEncode_9a6ad pf_StringLatin1_indexOfChar_4cfef pf_StringLatin1_indexOfChar_4cfef_l7
  rfl
theorem ix_sg : ∀ c : Fin 128, (pf_String_indexOf_0f7a4 (fun _ _ => 0) 18 (c.val : Int)).map (fun r => decide (r < 0)) = some (! pG (c.val : Int)) := by decide +kernel
theorem ix_of (σ : kM) {c : Int} (h0 : 0 ≤ c) (h1 : c < 128) : ∃ r, pf_String_indexOf_0f7a4 σ 18 c = some r ∧ (r < 0 ↔ ¬ pG c = true) := by
  have h := ix_sg ⟨c.toNat, by omega⟩
  simp only [Int.toNat_of_nonneg h0] at h
  rw [ix_any _ σ] at h
  cases e : pf_String_indexOf_0f7a4 σ 18 c with
  | none => rw [e] at h; cases h
  | some r =>
    rw [e] at h
    refine ⟨r, rfl, ?_⟩
    have h : decide (r < 0) = ! pG c := Option.some.inj h
    constructor
    · intro x y
      rw [y, decide_eq_true x] at h
      cases h
    · intro x
      have y : pG c = false := by
        cases e : pG c
        · rfl
        · exact absurd e x
      rw [y] at h
      exact of_decide_eq_true h
theorem kc16_of : ∀ c : Fin 128, kc16 (c.val : Int) = (c.val : Int) := by decide +kernel
def tkC (T : Nat → Int) (n s : Nat) (kd st ln vl : Int) : Prop := st = (s : Int) ∧ ln = ((tE T n s - s : Nat) : Int) ∧ (pL (T s) = true → kd = 2 ∧ ∃ w : Nat, vl = (w : Int) ∧ WP T s (tE T n s - s) w) ∧ (pD (T s) = true → kd = 1 ∧ vl = zvC T s (tE T n s - s)) ∧ (¬ pL (T s) = true → ¬ pD (T s) = true → (pG (T s) = true → kd = 3 ∧ vl = T s) ∧ (¬ pG (T s) = true → kd = 4))
theorem pLD {c : Int} (h : pL c = true) : ¬ pD c = true := by
  intro h2
  have := pL_t.mp h
  have := pD_t.mp h2
  omega
theorem pG_lt {c : Int} (h : pG c = true) : 0 < c ∧ c < 128 := by
  have := pG_t.mp h
  omega
theorem tE_L {T : Nat → Int} {n s : Nat} (h : s < n) (hp : pL (T s) = true) : tE T n s = tN pL T n (s + 1) ∧ ∀ j, s ≤ j → j < tE T n s → pL (T j) = true := by
  have e : tE T n s = tN pL T n (s + 1) := by
    unfold tE
    rw [if_neg (by omega), if_pos hp]
  refine ⟨e, fun j h1 h2 => ?_⟩
  by_cases c : j = s
  · rw [c]
    exact hp
  · rw [e] at h2
    exact (tN_in pL T (k := s + 1) (by omega) h2).2
theorem tE_D {T : Nat → Int} {n s : Nat} (h : s < n) (hp : pD (T s) = true) : tE T n s = tN pD T n (s + 1) ∧ ∀ j, s ≤ j → j < tE T n s → pD (T j) = true := by
  have e : tE T n s = tN pD T n (s + 1) := by
    unfold tE
    rw [if_neg (by omega), if_neg (fun x => pLD x hp), if_pos hp]
  refine ⟨e, fun j h1 h2 => ?_⟩
  by_cases c : j = s
  · rw [c]
    exact hp
  · rw [e] at h2
    exact (tN_in pD T (k := s + 1) (by omega) h2).2
theorem tE_O {T : Nat → Int} {n s : Nat} (h : s < n) (h1 : ¬ pL (T s) = true) (h2 : ¬ pD (T s) = true) : tE T n s = s + 1 := by
  unfold tE
  rw [if_neg (by omega), if_neg h1, if_neg h2]
section TOK
variable {T : Nat → Int} {n : Nat} {σ : kM}
theorem tpC.kept {σ' : kM} (h : tpC T n σ) (h1 : σ' 1 = σ 1) : tpC T n σ' := fun k hk => by
  rw [h1]
  exact h k hk
def frT (σ σ' : kM) (i : Nat) : Prop := (∀ c : Nat, c < 24 ∨ 28 < c → σ' c = σ c) ∧ (∀ j : Nat, j ≠ 5 → σ' 24 j = σ 24 j) ∧ σ' 24 5 = ((i + 1 : Nat) : Int) ∧ ∀ j : Nat, j ≠ i → σ' 25 j = σ 25 j ∧ σ' 26 j = σ 26 j ∧ σ' 27 j = σ 27 j ∧ σ' 28 j = σ 28 j
abbrev adM (σ : kM) (i : Nat) (a b c d : Int) : kM := kst (kst (kst (kst (kst σ 26 (kup (σ 26) i b)) 27 (kup (σ 27) i c)) 25 (kup (σ 25) i a)) 28 (kup (σ 28) i d)) 24 (kup (σ 24) 5 ((i + 1 : Nat) : Int))
theorem adM_fr (σ : kM) (i : Nat) (a b c d : Int) : frT σ (adM σ i a b c d) i ∧ adM σ i a b c d 25 i = a ∧ adM σ i a b c d 26 i = b ∧ adM σ i a b c d 27 i = c ∧ adM σ i a b c d 28 i = d := by
  have e25 : adM σ i a b c d 25 = kup (σ 25) i a := by
    show kst _ 24 _ 25 = _
    rw [kst_ne (by decide), kst_ne (by decide), kst_eq]
  have e26 : adM σ i a b c d 26 = kup (σ 26) i b := by
    show kst _ 24 _ 26 = _
    rw [kst_ne (by decide), kst_ne (by decide), kst_ne (by decide), kst_ne (by decide), kst_eq]
  have e27 : adM σ i a b c d 27 = kup (σ 27) i c := by
    show kst _ 24 _ 27 = _
    rw [kst_ne (by decide), kst_ne (by decide), kst_ne (by decide), kst_eq]
  have e28 : adM σ i a b c d 28 = kup (σ 28) i d := by
    show kst _ 24 _ 28 = _
    rw [kst_ne (by decide), kst_eq]
  have e24 : adM σ i a b c d 24 = kup (σ 24) 5 ((i + 1 : Nat) : Int) := by
    show kst _ 24 _ 24 = _
    rw [kst_eq]
  refine ⟨⟨fun q hq => ?_, fun j hj => by rw [e24, kup_ne hj], by rw [e24, kup_eq], fun j hj => by rw [e25, e26, e27, e28, kup_ne hj, kup_ne hj, kup_ne hj, kup_ne hj]; exact ⟨rfl, rfl, rfl, rfl⟩⟩, by rw [e25, kup_eq], by rw [e26, kup_eq], by rw [e27, kup_eq], by rw [e28, kup_eq]⟩
  show kst _ 24 _ q = _
  rw [kst_ne (by omega), kst_ne (by omega), kst_ne (by omega), kst_ne (by omega), kst_ne (by omega)]
theorem c_add160 {i : Nat} (hi : i < 700) {a b c d : Int} : pf_Tokens_addToken_24_j160 (kst (kst σ 26 (kup (σ 26) i b)) 27 (kup (σ 27) i c)) d a (i : Int) = (if σ 24 5 = (i : Int) then some (adM σ i a b c d) else pf_Tokens_addToken_24_j160 (kst (kst σ 26 (kup (σ 26) i b)) 27 (kup (σ 27) i c)) d a (i : Int)) := by
  by_cases h : σ 24 5 = (i : Int)
  · rw [if_pos h]
    have c1 : 0 ≤ (i : Int) ∧ (i : Int) < 701 := by omega
    have ew := kw_inc (i := i) (by omega)
    unfold pf_Tokens_addToken_24_j160 pf_Tokens_addToken_24_j171
    rw [kchk_t c1, klet_eq, kst_ne (show (24 : Nat) ≠ 25 by decide), kst_ne (show (24 : Nat) ≠ 27 by decide), kst_ne (show (24 : Nat) ≠ 26 by decide), h, kchk_t c1, klet_eq, klet_eq, Int.toNat_natCast, kst_ne (show (24 : Nat) ≠ 28 by decide), kst_ne (show (24 : Nat) ≠ 25 by decide), kst_ne (show (24 : Nat) ≠ 27 by decide), kst_ne (show (24 : Nat) ≠ 26 by decide), h, ew, kst_ne (show (28 : Nat) ≠ 25 by decide), kst_ne (show (28 : Nat) ≠ 27 by decide), kst_ne (show (28 : Nat) ≠ 26 by decide), kst_ne (show (25 : Nat) ≠ 27 by decide), kst_ne (show (25 : Nat) ≠ 26 by decide)]
  · rw [if_neg h]
theorem c_addToken {i s : Nat} (hn : n ≤ 700) (ht : tpC T n σ) (hi : σ 24 5 = (i : Int)) (h7 : i < 700) (hs : s < n) : ∃ σ', pf_Tokens_addToken_24 σ (s : Int) ((tE T n s : Nat) : Int) = some σ' ∧ frT σ σ' i ∧ tkC T n s (σ' 25 i) (σ' 26 i) (σ' 27 i) (σ' 28 i) := by
  obtain ⟨g1, g2⟩ := tE_ge (T := T) hs
  have c1 : 0 ≤ (i : Int) ∧ (i : Int) < 701 := by omega
  have c2 : (i : Int) < 700 := by omega
  have c3 : 0 ≤ (s : Int) ∧ (s : Int) < 700 := by omega
  have ew := kw_inc (i := i) (by omega)
  have el : w32 (((tE T n s : Nat) : Int) - (s : Int)) = ((tE T n s - s : Nat) : Int) := by
    rw [w32_s (by omega) (by omega)]
    omega
  obtain ⟨t1, t2⟩ := ht s hs
  have q24 : ∀ f g : Nat → Int, kst (kst σ 26 f) 27 g 24 = σ 24 := fun f g => by rw [kst_ne (by decide), kst_ne (by decide)]
  have q1 : ∀ f g : Nat → Int, kst (kst σ 26 f) 27 g 1 = σ 1 := fun f g => by rw [kst_ne (by decide), kst_ne (by decide)]
  have e0 : pf_Tokens_addToken_24 σ (s : Int) ((tE T n s : Nat) : Int) = (klet (kst (kst σ 26 (kup (σ 26) i (s : Int))) 27 (kup (σ 27) i ((tE T n s - s : Nat) : Int))) fun σ_4 =>
      if pL (T s) = true then
        kchk (0 ≤ (i : Int) ∧ (i : Int) < 701) <| klet (kst σ_4 25 (kup (σ_4 25) i 2)) fun σ_27 => (pf_Word_spelt_1 σ_27 (s : Int) ((tE T n s : Nat) : Int)).bind fun r_28 => kchk (0 ≤ (σ_27 24 5) ∧ (σ_27 24 5) < 701) <| klet (kst σ_27 28 (kup (σ_27 28) ((σ_27 24 5).toNat) r_28)) fun σ_30 => pf_Tokens_addToken_24_j171 σ_30
      else if pD (T s) = true then
        kchk (0 ≤ (i : Int) ∧ (i : Int) < 701) <| klet (kst σ_4 25 (kup (σ_4 25) i 1)) fun σ_20 => (pf_Tokens_valueOf_24 σ_20 (s : Int) ((tE T n s : Nat) : Int)).bind fun r_21 => kchk (0 ≤ (σ_20 24 5) ∧ (σ_20 24 5) < 701) <| klet (kst σ_20 28 (kup (σ_20 28) ((σ_20 24 5).toNat) r_21)) fun σ_23 => pf_Tokens_addToken_24_j171 σ_23
      else if sgB (T s) ≤ 0 then pf_Tokens_addToken_24_j137 σ_4 32 else pf_Tokens_addToken_24_j137 σ_4 (kc16 (sgB (T s)))) := by
    unfold pf_Tokens_addToken_24
    rw [hi, if_pos c2, kchk_t c1, klet_eq, kst_ne (show (24 : Nat) ≠ 26 by decide), hi, kchk_t c1, klet_eq, kchk_t c3, klet_eq, kst_ne (show (27 : Nat) ≠ 26 by decide), q1, q24, hi, Int.toNat_natCast, Int.toNat_natCast, t2, kbind_eq (sgB_L t1), el]
    by_cases cL : pL (T s) = true
    · rw [if_pos cL, if_neg (by decide), if_pos cL]
    · rw [if_neg cL, if_pos rfl, if_neg cL, kchk_t c3, kbind_eq (sgB_D t1)]
      by_cases cD : pD (T s) = true
      · rw [if_pos cD, if_neg (by decide), if_pos cD]
      · rw [if_neg cD, if_pos rfl, if_neg cD, kchk_t c3, kchk_t c3]
  rw [e0, klet_eq]
  generalize hσ : kst (kst σ 26 (kup (σ 26) i (s : Int))) 27 (kup (σ 27) i ((tE T n s - s : Nat) : Int)) = σ1
  have r24 : σ1 24 = σ 24 := by rw [← hσ]; exact q24 _ _
  have r1 : σ1 1 = σ 1 := by rw [← hσ]; exact q1 _ _
  have r25 : σ1 25 = σ 25 := by rw [← hσ, kst_ne (by decide), kst_ne (by decide)]
  have r28 : σ1 28 = σ 28 := by rw [← hσ, kst_ne (by decide), kst_ne (by decide)]
  by_cases cL : pL (T s) = true
  · obtain ⟨-, hL⟩ := tE_L hs cL
    rw [if_pos cL, kchk_t c1, klet_eq]
    obtain ⟨w, hw1, hw2⟩ := c_spelt (σ := kst σ1 25 (kup (σ1 25) i 2)) hn ((ht.kept r1).kept (by rw [kst_ne (by decide)])) g1 g2 hL
    rw [kbind_eq hw1, kst_ne (show (24 : Nat) ≠ 25 by decide), r24, hi, kchk_t c1, klet_eq, Int.toNat_natCast, kst_ne (show (28 : Nat) ≠ 25 by decide)]
    have h := adM_fr σ i 2 (s : Int) ((tE T n s - s : Nat) : Int) (w : Int)
    refine ⟨_, ?_, h.1, ?_⟩
    · unfold pf_Tokens_addToken_24_j171
      rw [klet_eq, kst_ne (show (24 : Nat) ≠ 28 by decide), kst_ne (show (24 : Nat) ≠ 25 by decide), r24, hi, ew, r28, r25, ← hσ]
    · rw [h.2.1, h.2.2.1, h.2.2.2.1, h.2.2.2.2]
      exact ⟨rfl, rfl, fun _ => ⟨rfl, w, rfl, hw2⟩, fun x => absurd x (pLD cL), fun x => absurd cL x⟩
  · rw [if_neg cL]
    by_cases cD : pD (T s) = true
    · obtain ⟨-, hD⟩ := tE_D hs cD
      rw [if_pos cD, kchk_t c1, klet_eq]
      have hw1 := c_valueOf (σ := kst σ1 25 (kup (σ1 25) i 1)) hn ((ht.kept r1).kept (by rw [kst_ne (by decide)])) g2 (by omega) hD
      rw [kbind_eq hw1, kst_ne (show (24 : Nat) ≠ 25 by decide), r24, hi, kchk_t c1, klet_eq, Int.toNat_natCast, kst_ne (show (28 : Nat) ≠ 25 by decide)]
      have h := adM_fr σ i 1 (s : Int) ((tE T n s - s : Nat) : Int) (zvC T s (tE T n s - s))
      refine ⟨_, ?_, h.1, ?_⟩
      · unfold pf_Tokens_addToken_24_j171
        rw [klet_eq, kst_ne (show (24 : Nat) ≠ 28 by decide), kst_ne (show (24 : Nat) ≠ 25 by decide), r24, hi, ew, r28, r25, ← hσ]
      · rw [h.2.1, h.2.2.1, h.2.2.2.1, h.2.2.2.2]
        exact ⟨rfl, rfl, fun x => absurd x cL, fun _ => ⟨rfl, rfl⟩, fun _ x => absurd cD x⟩
    · rw [if_neg cD]
      have fin : ∀ z : Int, 0 ≤ z → z < 128 → (pG (T s) = true → z = T s) → (¬ pG (T s) = true → ¬ pG z = true) → ∃ σ', pf_Tokens_addToken_24_j137 σ1 z = some σ' ∧ frT σ σ' i ∧ tkC T n s (σ' 25 i) (σ' 26 i) (σ' 27 i) (σ' 28 i) := by
        intro z z0 z1 hz hz'
        obtain ⟨r, hr1, hr2⟩ := ix_of σ1 z0 z1
        unfold pf_Tokens_addToken_24_j137
        rw [kbind_eq hr1, r24, hi]
        by_cases cG : pG (T s) = true
        · have ez := hz cG
          have h := adM_fr σ i 3 (s : Int) ((tE T n s - s : Nat) : Int) z
          rw [if_neg (fun x => (hr2.mp x) (by rw [ez]; exact cG)), ← hσ, c_add160 h7, if_pos hi]
          refine ⟨_, rfl, h.1, ?_⟩
          rw [h.2.1, h.2.2.1, h.2.2.2.1, h.2.2.2.2]
          exact ⟨rfl, rfl, fun x => absurd x cL, fun x => absurd x cD, fun _ _ => ⟨fun _ => ⟨rfl, ez⟩, fun x => absurd cG x⟩⟩
        · have h := adM_fr σ i 4 (s : Int) ((tE T n s - s : Nat) : Int) z
          rw [if_pos (hr2.mpr (hz' cG)), ← hσ, c_add160 h7, if_pos hi]
          refine ⟨_, rfl, h.1, ?_⟩
          rw [h.2.1, h.2.2.1, h.2.2.2.1, h.2.2.2.2]
          exact ⟨rfl, rfl, fun x => absurd x cL, fun x => absurd x cD, fun _ _ => ⟨fun x => absurd x cG, fun _ => rfl⟩⟩
      by_cases cz : sgB (T s) ≤ 0
      · rw [if_pos cz]
        refine fin 32 (by decide) (by decide) (fun x => ?_) (fun _ => by decide)
        have := pG_lt x
        unfold sgB at cz
        rw [if_pos (by omega)] at cz
        omega
      · rw [if_neg cz]
        have e : sgB (T s) = T s ∧ 0 < T s ∧ T s < 128 := by
          unfold sgB at *
          by_cases x : T s < 128
          · rw [if_pos x] at cz
            rw [if_pos x]
            omega
          · rw [if_neg x] at cz
            omega
        have ek := kc16_of ⟨(T s).toNat, by omega⟩
        simp only [Int.toNat_of_nonneg (show 0 ≤ T s by omega)] at ek
        rw [e.1, ek]
        exact fin (T s) (by omega) (by omega) (fun _ => rfl) (fun x => x)
/-- the row of tokens, m of them -/
def TK (T : Nat → Int) (n m : Nat) (σ : kM) : Prop := σ 24 5 = (m : Int) ∧ m ≤ n ∧ tK T n m = n ∧ (∀ j : Nat, j < m → tK T n j < n ∧ tkC T n (tK T n j) (σ 25 j) (σ 26 j) (σ 27 j) (σ 28 j)) ∧ σ 25 m = 0 ∧ σ 26 m = (n : Int)
theorem c_scan (hn : n ≤ 700) (ht : tpC T n σ) : ∃ (m : Nat) (σ' : kM), pf_Tokens_scan_24 σ (n : Int) = some σ' ∧ TK T n m σ' ∧ σ' 24 6 = 0 ∧ (∀ c : Nat, c < 24 ∨ 28 < c → σ' c = σ c) ∧ ∀ j : Nat, j ≠ 5 → j ≠ 6 → σ' 24 j = σ 24 j := by
  have key : ∀ d k : Nat, n - k = d → k ≤ n → ∀ (i e : Nat) (σ1 : kM), σ1 24 5 = (i : Int) → i ≤ k → e ≤ n → tK T n i = tN pB T n (max k e) → (∀ j : Nat, j < i → tK T n j < n ∧ tkC T n (tK T n j) (σ1 25 j) (σ1 26 j) (σ1 27 j) (σ1 28 j)) → σ1 24 6 = 0 → (∀ c : Nat, c < 24 ∨ 28 < c → σ1 c = σ c) → (∀ j : Nat, j ≠ 5 → j ≠ 6 → σ1 24 j = σ 24 j) → ∀ fuel, d < fuel →
      ∃ (m : Nat) (σ' : kM), kloop (fun st => pf_Tokens_scan_24_l23 st.1 (n : Int) st.2.1 st.2.2) fuel (σ1, (e : Int), (k : Int)) = some σ' ∧ σ' 24 5 = (m : Int) ∧ m ≤ n ∧ tK T n m = n ∧ (∀ j : Nat, j < m → tK T n j < n ∧ tkC T n (tK T n j) (σ' 25 j) (σ' 26 j) (σ' 27 j) (σ' 28 j)) ∧ σ' 24 6 = 0 ∧ (∀ c : Nat, c < 24 ∨ 28 < c → σ' c = σ c) ∧ ∀ j : Nat, j ≠ 5 → j ≠ 6 → σ' 24 j = σ 24 j := by
    intro d
    induction d with
    | zero =>
      intro k hk hkn i e σ1 h5 hik he hK hT h6 hfr hfr2 fuel hf
      obtain ⟨m, rfl⟩ : ∃ m, fuel = m + 1 := ⟨fuel - 1, by omega⟩
      refine ⟨i, σ1, kloop_r ?_, h5, by omega, ?_, hT, h6, hfr, hfr2⟩
      · show pf_Tokens_scan_24_l23 σ1 (n : Int) (e : Int) (k : Int) = _
        unfold pf_Tokens_scan_24_l23
        rw [if_pos (by omega)]
      · rw [hK, show max k e = n by omega, tN_no (by omega)]
    | succ d ih =>
      intro k hk hkn i e σ1 h5 hik he hK hT h6 hfr hfr2 fuel hf
      obtain ⟨m, rfl⟩ : ∃ m, fuel = m + 1 := ⟨fuel - 1, by omega⟩
      have c1 : ¬ (n : Int) ≤ (k : Int) := by omega
      have c2 : 0 ≤ (k : Int) ∧ (k : Int) < 700 := by omega
      have ew := kw_inc (i := k) (by omega)
      have ht1 : tpC T n σ1 := ht.kept (hfr 1 (by decide))
      obtain ⟨t1, t2⟩ := ht1 k (by omega)
      by_cases ce : k < e
      · have e1 : kloop (fun st => pf_Tokens_scan_24_l23 st.1 (n : Int) st.2.1 st.2.2) (m + 1) (σ1, (e : Int), (k : Int)) = kloop (fun st => pf_Tokens_scan_24_l23 st.1 (n : Int) st.2.1 st.2.2) m (σ1, (e : Int), ((k + 1 : Nat) : Int)) := by
          refine kloop_l ?_
          show pf_Tokens_scan_24_l23 σ1 (n : Int) (e : Int) (k : Int) = _
          unfold pf_Tokens_scan_24_l23 pf_Tokens_scan_24_l23_j74
          rw [if_neg c1, if_pos (by omega), klet_eq, ew]
        rw [e1]
        exact ih (k + 1) (by omega) (by omega) i e σ1 h5 (by omega) he (by rw [hK]; congr 1; omega) hT h6 hfr hfr2 m (by omega)
      · have eb : ∀ v : Int, 0 ≤ v → v < 128 → (sgB (T k) = v ↔ T k = v) := by
          intro v v0 v1
          unfold sgB
          by_cases x : T k < 128
          · rw [if_pos x]
          · rw [if_neg x]
            omega
        by_cases cb : pB (T k) = true
        · have e1 : kloop (fun st => pf_Tokens_scan_24_l23 st.1 (n : Int) st.2.1 st.2.2) (m + 1) (σ1, (e : Int), (k : Int)) = kloop (fun st => pf_Tokens_scan_24_l23 st.1 (n : Int) st.2.1 st.2.2) m (σ1, (e : Int), ((k + 1 : Nat) : Int)) := by
            refine kloop_l ?_
            show pf_Tokens_scan_24_l23 σ1 (n : Int) (e : Int) (k : Int) = _
            unfold pf_Tokens_scan_24_l23 pf_Tokens_scan_24_l23_j74
            rw [if_neg c1, if_neg (by omega), kchk_t c2, Int.toNat_natCast, t2]
            by_cases x : T k = 32
            · rw [if_pos ((eb 32 (by decide) (by decide)).mpr x), klet_eq, ew]
            · rw [if_neg (fun y => x ((eb 32 (by decide) (by decide)).mp y)), kchk_t c2, if_pos ((eb 10 (by decide) (by decide)).mpr ((pB_t.mp cb).resolve_left x)), klet_eq, ew]
          rw [e1]
          exact ih (k + 1) (by omega) (by omega) i e σ1 h5 (by omega) he (by rw [hK, show max k e = k by omega, show max (k + 1) e = k + 1 by omega]; exact tN_go (by omega) cb) hT h6 hfr hfr2 m (by omega)
        · have hKk : tK T n i = k := by rw [hK, show max k e = k by omega, tN_no (fun x => cb x.2)]
          have hE := c_endOf (σ := σ1) (s := k) hn ht1 (by omega)
          obtain ⟨g1, g2⟩ := tE_ge (T := T) (n := n) (s := k) (by omega)
          obtain ⟨σ2, a1, ⟨a2, a3, a4, a5⟩, a6⟩ := c_addToken (σ := σ1) (i := i) (s := k) hn ht1 h5 (by omega) (by omega)
          have e1 : kloop (fun st => pf_Tokens_scan_24_l23 st.1 (n : Int) st.2.1 st.2.2) (m + 1) (σ1, (e : Int), (k : Int)) = kloop (fun st => pf_Tokens_scan_24_l23 st.1 (n : Int) st.2.1 st.2.2) m (σ2, ((tE T n k : Nat) : Int), ((k + 1 : Nat) : Int)) := by
            refine kloop_l ?_
            show pf_Tokens_scan_24_l23 σ1 (n : Int) (e : Int) (k : Int) = _
            unfold pf_Tokens_scan_24_l23 pf_Tokens_scan_24_l23_j74
            rw [if_neg c1, if_neg (by omega), kchk_t c2, Int.toNat_natCast, t2, if_neg (fun y => cb (pB_t.mpr (Or.inl ((eb 32 (by decide) (by decide)).mp y)))), kchk_t c2, if_neg (fun y => cb (pB_t.mpr (Or.inr ((eb 10 (by decide) (by decide)).mp y)))), kbind_eq hE, kbind_eq a1, klet_eq, ew]
          rw [e1]
          refine ih (k + 1) (by omega) (by omega) (i + 1) (tE T n k) σ2 a4 (by omega) g2 ?_ (fun j hj => ?_) (by rw [a3 6 (by decide)]; exact h6) (fun c hc => (a2 c hc).trans (hfr c hc)) (fun j h1 h2 => (a3 j h1).trans (hfr2 j h1 h2)) m (by omega)
          · rw [show max (k + 1) (tE T n k) = tE T n k by omega]
            show tN pB T n (tE T n (tK T n i)) = _
            rw [hKk]
          · by_cases c : j = i
            · subst c
              rw [hKk]
              exact ⟨by omega, a6⟩
            · obtain ⟨b1, b2, b3, b4⟩ := a5 j c
              rw [b1, b2, b3, b4]
              exact hT j (by omega)
  have e24 : ∀ f g : Nat → Int, kst (kst σ 24 f) 24 g = kst σ 24 g := fun f g => kst_st _ _ _ _
  obtain ⟨m, σ1, b1, b2, b3, b4, b5, b6, b7, b8⟩ := key _ 0 rfl (by omega) 0 0 (kst σ 24 (kup (kup (σ 24) 5 0) 6 0)) (by rw [kst_eq, kup_ne (by decide), kup_eq]; rfl) (by omega) (by omega) (by rfl) (fun j hj => absurd hj (Nat.not_lt_zero _)) (by rw [kst_eq, kup_eq]) (fun c hc => by rw [kst_ne (by omega)]) (fun j h1 h2 => by rw [kst_eq, kup_ne h2, kup_ne h1]) kFuel (kFuel_lt (by omega))
  have c1 : 0 ≤ (m : Int) ∧ (m : Int) < 701 := by omega
  refine ⟨m, kst (kst σ1 25 (kup (σ1 25) m 0)) 26 (kup (σ1 26) m (n : Int)), ?_, ⟨?_, b3, b4, fun j hj => ⟨(b5 j hj).1, ?_⟩, ?_, ?_⟩, ?_, fun c hc => ?_, fun j h1 h2 => ?_⟩
  · unfold pf_Tokens_scan_24
    rw [show min (n : Int) 700 = (n : Int) by omega, klet_eq, klet_eq, klet_eq, kst_eq, e24]
    rw [kbind_eq b1, b2, kchk_t c1, klet_eq, Int.toNat_natCast, kst_ne (show (24 : Nat) ≠ 25 by decide), b2, kchk_t c1, klet_eq, Int.toNat_natCast, kst_ne (show (26 : Nat) ≠ 25 by decide)]
  · rw [kst_ne (by decide), kst_ne (by decide)]
    exact b2
  · have := (b5 j hj).2
    rw [kst_ne (show (25 : Nat) ≠ 26 by decide), kst_eq, kst_eq, kup_ne (by omega), kup_ne (by omega), kst_ne (show (27 : Nat) ≠ 26 by decide), kst_ne (show (27 : Nat) ≠ 25 by decide), kst_ne (show (28 : Nat) ≠ 26 by decide), kst_ne (show (28 : Nat) ≠ 25 by decide)]
    exact this
  · rw [kst_ne (by decide), kst_eq, kup_eq]
  · rw [kst_eq, kup_eq]
  · rw [kst_ne (by decide), kst_ne (by decide)]
    exact b6
  · rw [kst_ne (by omega), kst_ne (by omega)]
    exact b7 c hc
  · rw [kst_ne (by decide), kst_ne (by decide)]
    exact b8 j h1 h2
end TOK

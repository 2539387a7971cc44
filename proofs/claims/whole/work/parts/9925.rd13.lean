/-! CALLS: readings. Who reads to whom, one by one -/
section RPA
variable (r : Nat → Nat → Int) (S : Nat → Bool) (M n : Nat)
/-- whom the poet i reads to, if these are taken -/
def pC (i : Nat) (h : Int) : Int := if S i = true then -1 else rc1 r S M n (M - 1 - i) h
def pH : Nat → Int × Int
  | 0 => (0, 0)
  | i + 1 => if pC r S M n i (pH i).1 = -1 then pH i else (orb (pH i).1 (pC r S M n i (pH i).1).toNat, (pH i).2 + r i (pC r S M n i (pH i).1).toNat)
def pX (x : Nat → Int) : Nat → Nat → Int
  | 0 => x
  | i + 1 => if pC r S M n i (pH r S M n i).1 = -1 then pX x i else kup (pX x i) i (pC r S M n i (pH r S M n i).1)
end RPA
section RPB
variable {r : Nat → Nat → Int} {S : Nat → Bool} {M n : Nat} {x : Nat → Int}
theorem pC_is {i : Nat} {h : Int} : pC r S M n i h = -1 ∨ ∃ p : Nat, p < n ∧ pC r S M n i h = (p : Int) ∧ frb h p := by
  unfold pC
  by_cases c : S i = true
  · rw [if_pos c]
    exact Or.inl rfl
  · rw [if_neg c]
    rcases rC_is (f := fun p => r (M - 1 - (M - 1 - i)) p + rV r S M n (M - 1 - i) (orb h p)) (h := h) (X := rV r S M n (M - 1 - i + 1) h) (n := n) n (Nat.le_refl _) with ⟨a, -⟩ | ⟨p, ⟨-, a1⟩, a, b, -⟩
    · exact Or.inl a
    · exact Or.inr ⟨p, a1, a, b⟩
theorem pH_rng (hn : n ≤ 8) : ∀ i : Nat, 0 ≤ (pH r S M n i).1 ∧ (pH r S M n i).1 < 256 := by
  intro i
  induction i with
  | zero =>
    show 0 ≤ (0 : Int) ∧ (0 : Int) < 256
    decide
  | succ i ih =>
    have e : pH r S M n (i + 1) = if pC r S M n i (pH r S M n i).1 = -1 then pH r S M n i else (orb (pH r S M n i).1 (pC r S M n i (pH r S M n i).1).toNat, (pH r S M n i).2 + r i (pC r S M n i (pH r S M n i).1).toNat) := rfl
    rw [e]
    rcases pC_is (r := r) (S := S) (M := M) (n := n) (i := i) (h := (pH r S M n i).1) with c | ⟨p, p1, p2, -⟩
    · rw [if_pos c]
      exact ih
    · rw [if_neg (by rw [p2]; omega), p2, Int.toNat_natCast]
      exact orb_rng ih (Nat.lt_of_lt_of_le p1 hn)
/-- the row and the sum, behind i poets -/
theorem path_R (hr : ∀ w p : Nat, w < M → p < n → 0 ≤ r w p ∧ r w p ≤ 9) (hn : n ≤ 8) (hM : M ≤ 4) : ∀ i : Nat, i ≤ M → rR r S M n M 0 x = rR r S M n (M - i) (pH r S M n i).1 (pX r S M n x i) ∧ rI r S M n M 0 = (pH r S M n i).2 + rI r S M n (M - i) (pH r S M n i).1 := by
  intro i
  induction i with
  | zero =>
    intro _
    rw [Nat.sub_zero]
    exact ⟨rfl, (Int.zero_add _).symm⟩
  | succ i ih =>
    intro hi
    have h1 := ih (Nat.le_of_succ_le hi)
    have ek : M - i = M - (i + 1) + 1 := by omega
    have ek2 : M - 1 - (M - (i + 1)) = i := by omega
    have ek3 : M - 1 - i = M - (i + 1) := by omega
    have ekM : M - (i + 1) + 1 ≤ M := by omega
    have h0 := pH_rng (r := r) (S := S) (M := M) (n := n) hn i
    have eH : pH r S M n (i + 1) = if pC r S M n i (pH r S M n i).1 = -1 then pH r S M n i else (orb (pH r S M n i).1 (pC r S M n i (pH r S M n i).1).toNat, (pH r S M n i).2 + r i (pC r S M n i (pH r S M n i).1).toNat) := rfl
    have eX : pX r S M n x (i + 1) = if pC r S M n i (pH r S M n i).1 = -1 then pX r S M n x i else kup (pX r S M n x i) i (pC r S M n i (pH r S M n i).1) := rfl
    rw [eH, eX, h1.1, h1.2, ek]
    generalize M - (i + 1) = k at *
    generalize pX r S M n x i = y
    generalize pH r S M n i = P at *
    clear eH eX h1 ih
    by_cases c : S i = true
    · have e1 : pC r S M n i P.1 = -1 := if_pos c
      rw [if_pos e1, if_pos e1]
      have eI : rI r S M n (k + 1) P.1 = rI r S M n k P.1 := by
        unfold rI
        rw [rV_s (by rw [ek2]; exact c), rM_s (by rw [ek2]; exact c)]
      exact ⟨if_pos (by rw [ek2]; exact c), by rw [eI]⟩
    · have hS : S (M - 1 - k) = false := by
        rw [ek2]
        exact Bool.eq_false_iff.mpr c
      have e1 : pC r S M n i P.1 = rc1 r S M n k P.1 := by
        unfold pC
        rw [if_neg c, ek3]
      rw [e1]
      have hX : rV r S M n (k + 1) P.1 = rX (fun p => r (M - 1 - k) p + rV r S M n k (orb P.1 p)) P.1 (rV r S M n k P.1 - 1000) n := rV_r hS
      rcases rC_is (f := fun p => r (M - 1 - k) p + rV r S M n k (orb P.1 p)) (h := P.1) (X := rV r S M n (k + 1) P.1) (n := n) n (Nat.le_refl _) with ⟨a, b⟩ | ⟨p, ⟨-, a1⟩, a, b, c1, -⟩
      · have a : rc1 r S M n k P.1 = -1 := a
        rw [if_pos a, if_pos a]
        refine ⟨rR_n hS a, ?_⟩
        have hv0 : rV r S M n (k + 1) P.1 = rV r S M n k P.1 - 1000 := by
          rcases (rX_ge (f := fun p => r (M - 1 - k) p + rV r S M n k (orb P.1 p)) (h := P.1) (v := rV r S M n k P.1 - 1000) n).2.2 with x3 | ⟨p, p1, p2, p3⟩
          · rw [hX]
            exact x3
          · exact absurd (by rw [hX]; exact p3.symm) (b p (by omega) p1 p2)
        have q1 := (rV_rng (S := S) hr hn hM (k + 1) P.1 ekM h0).1
        have q2 := (rV_rng (S := S) hr hn hM k P.1 (Nat.le_of_succ_le ekM) h0).2
        have hne : rM S M n (k + 1) P.1 ≠ 0 := by
          intro hz
          have hz2 : rM S M n k P.1 = 0 := by
            have e : rN S M (k + 1) = rN S M k + 1 := if_neg (by rw [hS]; decide)
            clear hX hv0 q1 q2 b
            unfold rM at hz ⊢
            rw [e] at hz
            omega
          rw [hz, hv0] at q1
          rw [hz2] at q2
          clear b hX
          generalize rV r S M n k P.1 = z at *
          have zz : ((0 : Nat) : Int) = 0 := rfl
          rw [zz] at q1 q2
          omega
        have hm := rM_1 hS hne
        unfold rI
        rw [hv0, hm]
        generalize rV r S M n k P.1 = z
        generalize rM S M n k P.1 = y2
        omega
      · have a : rc1 r S M n k P.1 = (p : Int) := a
        have na : ¬ rc1 r S M n k P.1 = -1 := by rw [a]; omega
        rw [if_neg na, if_neg na, a, Int.toNat_natCast]
        refine ⟨by rw [rR_c hS a, ek2], ?_⟩
        show P.2 + rI r S M n (k + 1) P.1 = P.2 + r i p + rI r S M n k (orb P.1 p)
        have hm := rM_or hS h0 hn a1 b
        unfold rI
        rw [hm, ← c1, ek2]
        omega
theorem pX_at (hx : ∀ j : Nat, j < M → x j = -1) : ∀ i : Nat, i ≤ M → ∀ j : Nat, j < M → pX r S M n x i j = if j < i then pC r S M n j (pH r S M n j).1 else -1 := by
  intro i
  induction i with
  | zero =>
    intro _ j hj
    rw [if_neg (Nat.not_lt_zero _)]
    exact hx j hj
  | succ i ih =>
    intro hi j hj
    have h1 := ih (Nat.le_of_succ_le hi) j hj
    have eX : pX r S M n x (i + 1) = if pC r S M n i (pH r S M n i).1 = -1 then pX r S M n x i else kup (pX r S M n x i) i (pC r S M n i (pH r S M n i).1) := rfl
    rw [eX]
    by_cases e : j = i
    · subst e
      rw [if_pos (Nat.lt_succ_self j)]
      rw [if_neg (Nat.lt_irrefl j)] at h1
      by_cases c : pC r S M n j (pH r S M n j).1 = -1
      · rw [if_pos c, h1, c]
      · rw [if_neg c, kup_eq]
    · have e2 : (if j < i + 1 then pC r S M n j (pH r S M n j).1 else -1) = (if j < i then pC r S M n j (pH r S M n j).1 else -1) := by
        by_cases d : j < i
        · rw [if_pos d, if_pos (Nat.lt_succ_of_lt d)]
        · rw [if_neg d, if_neg (fun hh => d (Nat.lt_of_le_of_ne (Nat.le_of_lt_succ hh) e))]
      rw [e2]
      by_cases c : pC r S M n i (pH r S M n i).1 = -1
      · rw [if_pos c]
        exact h1
      · rw [if_neg c, kup_ne e]
        exact h1
end RPB

/-! CALLS: readings. What is best, and who reads to whom -/
abbrev orb (h : Int) (p : Nat) : Int := kor h (kshl 1 (p : Int))
abbrev frb (h : Int) (p : Nat) : Prop := kand (kshr h (p : Int)) 1 = 0
/-- how many are free -/
def fc (n : Nat) (h : Int) : Nat := kit (fun p c => if kand (kshr h (p : Int)) 1 = 0 then c + 1 else c) n 0
theorem orb_rng {h : Int} {p : Nat} (h0 : 0 ≤ h ∧ h < 256) (hp : p < 8) : 0 ≤ orb h p ∧ orb h p < 256 := kb_or h0.1 h0.2 (by omega) (by omega)
theorem orb_bit {h : Int} {p p' : Nat} (h0 : 0 ≤ h ∧ h < 256) (hp : p < 8) (hp' : p' < 8) : kand (kshr (orb h p) (p' : Int)) 1 = if p' = p then 1 else kand (kshr h (p' : Int)) 1 := by
  rw [kb_bit h0.1 h0.2 (by omega) (by omega) (by omega) (by omega)]
  by_cases e : p' = p
  · rw [if_pos e, if_pos (by omega)]
  · rw [if_neg e, if_neg (by omega)]
theorem fc_or {h : Int} {p : Nat} (h0 : 0 ≤ h ∧ h < 256) (hp : p < 8) (hf : frb h p) : ∀ n : Nat, n ≤ 8 → fc n (orb h p) + (if p < n then 1 else 0) = fc n h := by
  intro n
  induction n with
  | zero => intro _; rfl
  | succ n ih =>
    intro hn
    have h1 := ih (by omega)
    have e1 : ∀ x : Int, fc (n + 1) x = if kand (kshr x (n : Int)) 1 = 0 then fc n x + 1 else fc n x := fun x => rfl
    rw [e1, e1, orb_bit h0 hp (by omega)]
    by_cases e : n = p
    · subst e
      have hf : kand (kshr h (n : Int)) 1 = 0 := hf
      rw [if_pos rfl, if_neg (by decide), if_pos hf, if_pos (by omega)]
      rw [if_neg (by omega)] at h1
      omega
    · rw [if_neg e]
      by_cases c : kand (kshr h (n : Int)) 1 = 0
      · rw [if_pos c, if_pos c]
        by_cases d : p < n
        · rw [if_pos d] at h1
          rw [if_pos (by omega)]
          omega
        · rw [if_neg d] at h1
          rw [if_neg (by omega)]
          omega
      · rw [if_neg c, if_neg c]
        by_cases d : p < n
        · rw [if_pos d] at h1
          rw [if_pos (by omega)]
          omega
        · rw [if_neg d] at h1
          rw [if_neg (by omega)]
          omega
theorem fc_pos {h : Int} : ∀ n : Nat, 0 < fc n h → ∃ p : Nat, p < n ∧ frb h p := by
  intro n
  induction n with
  | zero => intro hh; exact absurd hh (Nat.lt_irrefl 0)
  | succ n ih =>
    intro hh
    by_cases c : kand (kshr h (n : Int)) 1 = 0
    · exact ⟨n, Nat.lt_succ_self n, c⟩
    · have e1 : fc (n + 1) h = fc n h := if_neg c
      rw [e1] at hh
      obtain ⟨p, h1, h2⟩ := ih hh
      exact ⟨p, Nat.lt_succ_of_lt h1, h2⟩
section RDP
variable (r : Nat → Nat → Int) (S : Nat → Bool) (M n : Nat)
/-- how many of the last k poets read -/
def rN : Nat → Nat
  | 0 => 0
  | k + 1 => if S (M - 1 - k) = true then rN k else rN k + 1
def rM (k : Nat) (h : Int) : Nat := rN S M k - fc n h
/-- the greatest of the free ones, and v -/
def rX (f : Nat → Int) (h : Int) (v : Int) (n : Nat) : Int := kit (fun p v => if kand (kshr h (p : Int)) 1 = 0 then (if f p ≤ v then v else f p) else v) n v
def rV : Nat → Int → Int
  | 0, _ => 0
  | k + 1, h => if S (M - 1 - k) = true then rV k h else rX (fun p => r (M - 1 - k) p + rV k (orb h p)) h (rV k h - 1000) n
end RDP
theorem rX_ge {f : Nat → Int} {h v : Int} : ∀ n : Nat, v ≤ rX f h v n ∧ (∀ p : Nat, p < n → frb h p → f p ≤ rX f h v n) ∧ (rX f h v n = v ∨ ∃ p : Nat, p < n ∧ frb h p ∧ rX f h v n = f p) := by
  intro n
  induction n with
  | zero => exact ⟨Int.le_refl _, fun p hp => absurd hp (Nat.not_lt_zero _), Or.inl rfl⟩
  | succ n ih =>
    obtain ⟨i1, i2, i3⟩ := ih
    have e : rX f h v (n + 1) = if kand (kshr h (n : Int)) 1 = 0 then (if f n ≤ rX f h v n then rX f h v n else f n) else rX f h v n := rfl
    rw [e]
    generalize rX f h v n = x at *
    by_cases c : kand (kshr h (n : Int)) 1 = 0
    · rw [if_pos c]
      by_cases d : f n ≤ x
      · rw [if_pos d]
        refine ⟨i1, fun p hp hf => ?_, i3.imp id (fun ⟨p, a, b⟩ => ⟨p, Nat.lt_succ_of_lt a, b⟩)⟩
        by_cases e2 : p = n
        · subst e2
          exact d
        · exact i2 p (by omega) hf
      · rw [if_neg d]
        refine ⟨by omega, fun p hp hf => ?_, Or.inr ⟨n, Nat.lt_succ_self n, c, rfl⟩⟩
        by_cases e2 : p = n
        · subst e2
          exact Int.le_refl _
        · have := i2 p (by omega) hf
          omega
    · rw [if_neg c]
      refine ⟨i1, fun p hp hf => ?_, i3.imp id (fun ⟨p, a, b⟩ => ⟨p, Nat.lt_succ_of_lt a, b⟩)⟩
      by_cases e2 : p = n
      · subst e2
        exact absurd hf c
      · exact i2 p (by omega) hf
section RDQ
variable {r : Nat → Nat → Int} {S : Nat → Bool} {M n : Nat}
theorem rM_or {k : Nat} {h : Int} {p : Nat} (hS : S (M - 1 - k) = false) (h0 : 0 ≤ h ∧ h < 256) (hn : n ≤ 8) (hp : p < n) (hf : frb h p) : rM S M n k (orb h p) = rM S M n (k + 1) h := by
  have h1 := fc_or h0 (show p < 8 by omega) hf n hn
  rw [if_pos hp] at h1
  have e : rN S M (k + 1) = rN S M k + 1 := if_neg (by rw [hS]; decide)
  unfold rM
  rw [e]
  omega
theorem rV_s {k : Nat} {h : Int} (hS : S (M - 1 - k) = true) : rV r S M n (k + 1) h = rV r S M n k h := if_pos hS
theorem rV_r {k : Nat} {h : Int} (hS : S (M - 1 - k) = false) : rV r S M n (k + 1) h = rX (fun p => r (M - 1 - k) p + rV r S M n k (orb h p)) h (rV r S M n k h - 1000) n := if_neg (by rw [hS]; decide)
theorem rM_s {k : Nat} {h : Int} (hS : S (M - 1 - k) = true) : rM S M n (k + 1) h = rM S M n k h := by
  have e : rN S M (k + 1) = rN S M k := if_pos hS
  unfold rM
  rw [e]
/-- what can be had: inches, and a thousand less for each who reads to nobody -/
theorem rV_rng (hr : ∀ w p : Nat, w < M → p < n → 0 ≤ r w p ∧ r w p ≤ 9) (hn : n ≤ 8) (hM : M ≤ 4) : ∀ (k : Nat) (h : Int), k ≤ M → 0 ≤ h ∧ h < 256 → 0 ≤ rV r S M n k h + 1000 * (rM S M n k h : Int) ∧ rV r S M n k h + 1000 * (rM S M n k h : Int) ≤ 9 * (k : Int) := by
  intro k
  induction k with
  | zero =>
    intro h _ _
    have e : rM S M n 0 h = 0 := by
      unfold rM
      show 0 - fc n h = 0
      omega
    rw [e]
    show 0 ≤ (0 : Int) + 1000 * ((0 : Nat) : Int) ∧ (0 : Int) + 1000 * ((0 : Nat) : Int) ≤ 9 * ((0 : Nat) : Int)
    decide
  | succ k ih =>
    intro h hk h0
    have hw : M - 1 - k < M := by omega
    cases hS : S (M - 1 - k) with
    | true =>
      rw [rV_s hS, rM_s hS]
      have := ih h (by omega) h0
      omega
    | false =>
      have e : rN S M (k + 1) = rN S M k + 1 := if_neg (by rw [hS]; decide)
      have em : rM S M n (k + 1) h = rN S M k + 1 - fc n h := by unfold rM; rw [e]
      have em0 : rM S M n k h = rN S M k - fc n h := rfl
      have ea : fc n h ≤ rN S M k → rM S M n (k + 1) h = rM S M n k h + 1 := fun c => by rw [em, em0]; omega
      have eb : ¬ fc n h ≤ rN S M k → rM S M n (k + 1) h = 0 ∧ rM S M n k h = 0 ∧ 0 < fc n h := fun c => by rw [em, em0]; omega
      clear e em em0
      rw [rV_r hS]
      obtain ⟨x1, x2, x3⟩ := rX_ge (f := fun p => r (M - 1 - k) p + rV r S M n k (orb h p)) (h := h) (v := rV r S M n k h - 1000) n
      have hc : ∀ p : Nat, p < n → frb h p → 0 ≤ r (M - 1 - k) p + rV r S M n k (orb h p) + 1000 * (rM S M n (k + 1) h : Int) ∧ r (M - 1 - k) p + rV r S M n k (orb h p) + 1000 * (rM S M n (k + 1) h : Int) ≤ 9 * ((k + 1 : Nat) : Int) := by
        intro p hp hf
        have i1 := ih (orb h p) (by omega) (orb_rng h0 (by omega))
        rw [rM_or hS h0 hn hp hf] at i1
        have i2 := hr (M - 1 - k) p hw hp
        omega
      have hN := ih h (by omega) h0
      generalize rX (fun p => r (M - 1 - k) p + rV r S M n k (orb h p)) h (rV r S M n k h - 1000) n = X at *
      by_cases c : fc n h ≤ rN S M k
      · have em2 := ea c
        clear ea eb
        refine ⟨by clear x3 hc x2; omega, ?_⟩
        rcases x3 with x3 | ⟨p, p1, p2, p3⟩
        · rw [em2]
          omega
        · have := hc p p1 p2
          omega
      · obtain ⟨em2, em3, em4⟩ := eb c
        obtain ⟨p, p1, p2⟩ := fc_pos n em4
        clear ea eb
        have i1 := hc p p1 p2
        have i2 := x2 p p1 p2
        refine ⟨by clear x3 hc x2; omega, ?_⟩
        rcases x3 with x3 | ⟨p', p1', p2', p3'⟩
        · omega
        · have := hc p' p1' p2'
          omega
end RDQ

/-! state: the class's row of tokens -/
def pG (c : Int) : Bool := decide (c = 59 ∨ c = 40 ∨ c = 41 ∨ c = 43 ∨ c = 45 ∨ c = 42 ∨ c = 47 ∨ c = 60 ∨ c = 61)
theorem pG_t {c : Int} : pG c = true ↔ (c = 59 ∨ c = 40 ∨ c = 41 ∨ c = 43 ∨ c = 45 ∨ c = 42 ∨ c = 47 ∨ c = 60 ∨ c = 61) := decide_eq_true_iff
theorem ix_any (σ τ : kM) (c : Int) : pf_String_indexOf_0f7a4 σ 18 c = pf_String_indexOf_0f7a4 τ 18 c := by
  unfold pf_String_indexOf_0f7a4 pf_String_indexOf_7cf53 pf_String_isLatin1_aae02 pf_String_length_8abf5 pf_String_coder_7d493 pf_StringLatin1_indexOf_4cfef pf_StringLatin1_canEncode_9a6ad pf_StringLatin1_indexOfChar_4cfef pf_StringLatin1_indexOfChar_4cfef_l7
  rfl
theorem ix_sg : ∀ c : Fin 128, (pf_String_indexOf_0f7a4 (fun _ _ => 0) 18 (c.val : Int)).map (fun r => decide (r < 0)) = some (! pG (c.val : Int)) := by decide +kernel
theorem ix_of (σ : kM) {c : Int} (h0 : 0 ≤ c) (h1 : c < 128) : ∃ r, pf_String_indexOf_0f7a4 σ 18 c = some r ∧ (r < 0 ↔ ¬ pG c = true) := by
  have h := ix_sg ⟨c.toNat, by omega⟩
  simp only [Int.toNat_of_nonneg h0] at h
  rw [ix_any _ σ] at h
  cases e : pf_String_indexOf_0f7a4 σ 18 c with
  | none => rw [e] at h; cases h
  | some r =>
    rw [e] at h
    refine ⟨r, rfl, ?_⟩
    have h : decide (r < 0) = ! pG c := Option.some.inj h
    constructor
    · intro x y
      rw [y, decide_eq_true x] at h
      cases h
    · intro x
      have y : pG c = false := by
        cases e : pG c
        · rfl
        · exact absurd e x
      rw [y] at h
      exact of_decide_eq_true h
theorem kc16_of : ∀ c : Fin 128, kc16 (c.val : Int) = (c.val : Int) := by decide +kernel
def tkC (T : Nat → Int) (s e : Nat) (kd st ln vl : Int) : Prop := st = (s : Int) ∧ ln = ((e - s : Nat) : Int) ∧ (pL (T s) = true → kd = 2 ∧ ∃ w : Nat, vl = (w : Int) ∧ WP T s (e - s) w) ∧ (pD (T s) = true → kd = 1 ∧ vl = zvC T s (e - s)) ∧ (¬ pL (T s) = true → ¬ pD (T s) = true → (pG (T s) = true → kd = 3 ∧ vl = T s) ∧ (¬ pG (T s) = true → kd = 4))
theorem pLD {c : Int} (h : pL c = true) : ¬ pD c = true := by
  intro h2
  have := pL_t.mp h
  have := pD_t.mp h2
  omega
theorem pG_lt {c : Int} (h : pG c = true) : 0 < c ∧ c < 128 := by
  have := pG_t.mp h
  omega
theorem tE_L {T : Nat → Int} {n s : Nat} (h : s < n) (hp : pL (T s) = true) : tE T n s = tN pL T n (s + 1) ∧ ∀ j, s ≤ j → j < tE T n s → pL (T j) = true := by
  have e : tE T n s = tN pL T n (s + 1) := by
    unfold tE
    rw [if_neg (by omega), if_pos hp]
  refine ⟨e, fun j h1 h2 => ?_⟩
  by_cases c : j = s
  · rw [c]
    exact hp
  · rw [e] at h2
    exact (tN_in pL T (k := s + 1) (by omega) h2).2
theorem tE_D {T : Nat → Int} {n s : Nat} (h : s < n) (hp : pD (T s) = true) : tE T n s = tN pD T n (s + 1) ∧ ∀ j, s ≤ j → j < tE T n s → pD (T j) = true := by
  have e : tE T n s = tN pD T n (s + 1) := by
    unfold tE
    rw [if_neg (by omega), if_neg (fun x => pLD x hp), if_pos hp]
  refine ⟨e, fun j h1 h2 => ?_⟩
  by_cases c : j = s
  · rw [c]
    exact hp
  · rw [e] at h2
    exact (tN_in pD T (k := s + 1) (by omega) h2).2
theorem tE_O {T : Nat → Int} {n s : Nat} (h : s < n) (h1 : ¬ pL (T s) = true) (h2 : ¬ pD (T s) = true) : tE T n s = s + 1 := by
  unfold tE
  rw [if_neg (by omega), if_neg h1, if_neg h2]

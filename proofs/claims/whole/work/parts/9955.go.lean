/-! state: the reference's tokens -/
def zpk (f : Nat → Int) : Nat → Int
  | 0 => 0
  | j + 1 => 32 * zpk f j + (f j - 96)
theorem kl5 {a b : Nat} (ha : a < 1073741824) (hb : b < 32) : klor (klshl (a : Int) 5) (b : Int) = ((32 * a + b : Nat) : Int) := by
  have e1 : klshl (nL a) 5 = nL (a * 2 ^ 5) := by
    unfold klshl
    rw [nL_of, show Int32.ofInt 5 = nI 5 by decide +kernel, wb_shl a (by decide)]
    rfl
  rw [← nL_lit (n := a) (by omega), e1, ← nL_lit (n := b) (by omega), klor_n (by omega) (by omega), nL_lit]
  · rw [show 32 * a + b = a <<< 5 + b by rw [Nat.shiftLeft_eq]; omega, Nat.shiftLeft_add_eq_or_of_lt (by omega), Nat.shiftLeft_eq]
  · have : a * 2 ^ 5 ||| b = a * 32 + b := by
      rw [← Nat.shiftLeft_eq, ← Nat.shiftLeft_add_eq_or_of_lt (by omega), Nat.shiftLeft_eq]
    omega
def z32 : Nat → Int
  | 0 => 1
  | j + 1 => 32 * z32 j
theorem zpk_rng (f : Nat → Int) : ∀ j : Nat, (∀ i, i < j → 97 ≤ f i ∧ f i ≤ 122) → 0 ≤ zpk f j ∧ zpk f j < z32 j := by
  intro j
  induction j with
  | zero => intro _; exact ⟨Int.le_refl 0, (by decide : (0 : Int) < 1)⟩
  | succ j ih =>
    intro h
    have a := ih (fun i hi => h i (by omega))
    have b := h j (by omega)
    show 0 ≤ 32 * zpk f j + (f j - 96) ∧ 32 * zpk f j + (f j - 96) < 32 * z32 j
    omega
theorem z32_le : ∀ j : Fin 6, z32 j.val < 1073741824 := by decide +kernel
theorem zpk_st {f : Nat → Int} {j : Nat} (hj : j < 6) (h : ∀ i, i < j + 1 → 97 ≤ f i ∧ f i ≤ 122) : klor (klshl (zpk f j) 5) (w32 (f j - 96)) = zpk f (j + 1) := by
  have a := zpk_rng f j (fun i hi => h i (by omega))
  have b := h j (by omega)
  have c : z32 j < 1073741824 := z32_le ⟨j, hj⟩
  obtain ⟨x, hx⟩ : ∃ x : Nat, zpk f j = (x : Int) := ⟨(zpk f j).toNat, by omega⟩
  obtain ⟨y, hy⟩ : ∃ y : Nat, f j - 96 = (y : Int) := ⟨(f j - 96).toNat, by omega⟩
  have e : zpk f (j + 1) = 32 * zpk f j + (f j - 96) := rfl
  rw [w32_s (by omega) (by omega), e, hx, hy, kl5 (by omega) (by omega)]
  omega
theorem zpk_inj {f g : Nat → Int} : ∀ a b : Nat, (∀ i, i < a → 97 ≤ f i ∧ f i ≤ 122) → (∀ i, i < b → 97 ≤ g i ∧ g i ≤ 122) → zpk f a = zpk g b → a = b ∧ ∀ i, i < a → f i = g i := by
  intro a
  induction a with
  | zero =>
    intro b ha hb h
    cases b with
    | zero => exact ⟨rfl, fun i hi => absurd hi (Nat.not_lt_zero _)⟩
    | succ b =>
      have h : (0 : Int) = 32 * zpk g b + (g b - 96) := h
      have := zpk_rng g b (fun i hi => hb i (by omega))
      have := hb b (by omega)
      omega
  | succ a ih =>
    intro b ha hb h
    have p1 := zpk_rng f a (fun i hi => ha i (by omega))
    have p2 := ha a (by omega)
    cases b with
    | zero =>
      have h : 32 * zpk f a + (f a - 96) = 0 := h
      omega
    | succ b =>
      have h : 32 * zpk f a + (f a - 96) = 32 * zpk g b + (g b - 96) := h
      have p3 := zpk_rng g b (fun i hi => hb i (by omega))
      have p4 := hb b (by omega)
      obtain ⟨e1, e2⟩ := ih b (fun i hi => ha i (by omega)) (fun i hi => hb i (by omega)) (by omega)
      refine ⟨by omega, fun i hi => ?_⟩
      by_cases c : i = a
      · subst c
        subst e1
        omega
      · exact e2 i (by omega)
def bA (T : Nat → Int) (n k : Nat) : Int := if k < n then T k else 0
def tpM (T : Nat → Int) (n : Nat) (μ : kM) : Prop := ∀ k : Nat, k < n → (0 ≤ T k ∧ T k < 256) ∧ μ 2 k = T k
theorem fu_s {d fuel : Nat} (h : d < fuel) : ∃ m, fuel = m + 1 ∧ ∀ e, d = e + 1 → e < m := ⟨fuel - 1, by omega, fun e h => by omega⟩

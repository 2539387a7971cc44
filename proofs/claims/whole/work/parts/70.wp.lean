/-! THE PURE LAYER: what a function gives, loops, memory -/
def kOk {α : Type} (o : Option α) (P : α → Prop) : Prop := ∃ a, o = some a ∧ P a
theorem kOk_some {α : Type} {a : α} {P : α → Prop} : kOk (some a) P ↔ P a :=
  ⟨fun h => (by obtain ⟨b, h, p⟩ := h; cases h; exact p), fun h => ⟨a, rfl, h⟩⟩
theorem kOk_none {α : Type} {P : α → Prop} : kOk (none : Option α) P ↔ False :=
  ⟨fun h => (by obtain ⟨b, h, _⟩ := h; cases h), fun h => False.elim h⟩
theorem kOk_klet {α β : Type} {a : α} {f : α → Option β} {P : β → Prop} : kOk (klet a f) P ↔ kOk (f a) P := Iff.rfl
theorem kOk_chk {α : Type} {c : Prop} [Decidable c] {t : Option α} {P : α → Prop} : kOk (kchk c t) P ↔ c ∧ kOk t P := by
  unfold kchk
  by_cases hc : c
  · rw [if_pos hc]
    exact ⟨fun h => ⟨hc, h⟩, fun h => h.2⟩
  · rw [if_neg hc]
    exact ⟨fun h => (kOk_none.mp h).elim, fun h => absurd h.1 hc⟩
theorem kOk_bind {α β : Type} {o : Option α} {f : α → Option β} {P : β → Prop} : kOk (o.bind f) P ↔ kOk o (fun a => kOk (f a) P) := by
  cases o with
  | none => exact ⟨fun h => (kOk_none.mp h).elim, fun h => (kOk_none.mp h).elim⟩
  | some a => exact ⟨fun h => ⟨a, rfl, h⟩, fun h => (kOk_some (P := fun a => kOk (f a) P)).mp h⟩
theorem kOk_ite {α : Type} {c : Prop} [Decidable c] {a b : Option α} {P : α → Prop} : kOk (if c then a else b) P ↔ (c → kOk a P) ∧ (¬ c → kOk b P) := by
  by_cases hc : c
  · rw [if_pos hc]
    exact ⟨fun h => ⟨fun _ => h, fun n => absurd hc n⟩, fun h => h.1 hc⟩
  · rw [if_neg hc]
    exact ⟨fun h => ⟨fun n => absurd n hc, fun _ => h⟩, fun h => h.2 hc⟩
theorem kOk.mono {α : Type} {o : Option α} {P Q : α → Prop} (h : kOk o P) (hq : ∀ a, P a → Q a) : kOk o Q := by
  obtain ⟨a, h1, h2⟩ := h
  exact ⟨a, h1, hq a h2⟩
theorem kOk.of {α : Type} {o : Option α} {a : α} {P : α → Prop} (h : o = some a) (p : P a) : kOk o P := ⟨a, h, p⟩
theorem kOk.then {α β : Type} {o : Option α} {f : α → Option β} {P : α → Prop} {Q : β → Prop} (h : kOk o P) (hq : ∀ a, P a → kOk (f a) Q) : kOk (o.bind f) Q := kOk_bind.mpr (h.mono hq)
theorem kloop_l {α β : Type} {body : α → Option (α ⊕ β)} {n : Nat} {a a' : α} (h : body a = some (.inl a')) : kloop body (n + 1) a = kloop body n a' := by
  show (match body a with | none => none | some (.inl a') => kloop body n a' | some (.inr b) => some b) = _
  rw [h]
theorem kloop_r {α β : Type} {body : α → Option (α ⊕ β)} {n : Nat} {a : α} {b : β} (h : body a = some (.inr b)) : kloop body (n + 1) a = some b := by
  show (match body a with | none => none | some (.inl a') => kloop body n a' | some (.inr b) => some b) = _
  rw [h]
/-- a loop with a measure -/
theorem kOk_loopM {α β : Type} {body : α → Option (α ⊕ β)} {P : β → Prop} (I : α → Prop) (m : α → Nat)
    (hs : ∀ a, I a → kOk (body a) (Sum.elim (fun a' => I a' ∧ m a' < m a) P)) : ∀ (n : Nat) (a : α), I a → m a < n → kOk (kloop body n a) P := by
  intro n
  induction n with
  | zero => intro a _ h; exact absurd h (Nat.not_lt_zero _)
  | succ n ih =>
    intro a hI hm
    obtain ⟨o, h1, h2⟩ := hs a hI
    cases o with
    | inl a' =>
      rw [kloop_l h1]
      exact ih a' h2.1 (Nat.lt_of_lt_of_le h2.2 (Nat.le_of_lt_succ hm))
    | inr b =>
      rw [kloop_r h1]
      exact ⟨b, rfl, h2⟩
/-- a loop that counts -/
theorem kOk_for {α β : Type} {body : α → Option (α ⊕ β)} {P : β → Prop} (n : Nat) (I : Nat → α → Prop)
    (hs : ∀ i a, i < n → I i a → kOk (body a) (Sum.elim (I (i + 1)) P))
    (he : ∀ a, I n a → kOk (body a) (Sum.elim (fun _ => False) P)) {fuel : Nat} (hf : n < fuel) (a : α) (h0 : I 0 a) : kOk (kloop body fuel a) P := by
  have key : ∀ (k i fuel : Nat) (a : α), k + i = n → k < fuel → I i a → kOk (kloop body fuel a) P := by
    intro k
    induction k with
    | zero =>
      intro i fuel a hk hf hI
      obtain ⟨m, rfl⟩ : ∃ m, fuel = m + 1 := ⟨fuel - 1, by omega⟩
      have e : i = n := by omega
      subst e
      obtain ⟨o, h1, h2⟩ := he a hI
      cases o with
      | inl a' => exact h2.elim
      | inr b =>
        rw [kloop_r h1]
        exact ⟨b, rfl, h2⟩
    | succ k ih =>
      intro i fuel a hk hf hI
      obtain ⟨m, rfl⟩ : ∃ m, fuel = m + 1 := ⟨fuel - 1, by omega⟩
      obtain ⟨o, h1, h2⟩ := hs i a (by omega) hI
      cases o with
      | inl a' =>
        rw [kloop_l h1]
        exact ih (i + 1) m a' (by omega) (by omega) h2
      | inr b =>
        rw [kloop_r h1]
        exact ⟨b, rfl, h2⟩
  exact key n 0 fuel a rfl hf h0
/-- so many times -/
def kit {α : Type} (f : Nat → α → α) : Nat → α → α
  | 0, a => a
  | n + 1, a => f n (kit f n a)
theorem kFuel_lt {n : Nat} (h : n < 100000000) : n < kFuel := h
theorem w32_s {v : Int} (h1 : -2147483648 ≤ v) (h2 : v < 2147483648) : w32 v = v := w32_id ⟨h1, h2⟩
theorem kst_eq (σ : kM) (k : Nat) (f : Nat → Int) : kst σ k f k = f := if_pos rfl
theorem kst_ne {σ : kM} {k q : Nat} {f : Nat → Int} (h : q ≠ k) : kst σ k f q = σ q := if_neg h
theorem kup_eq (f : Nat → Int) (j : Nat) (v : Int) : kup f j v j = v := if_pos rfl
theorem kup_ne {f : Nat → Int} {j i : Nat} {v : Int} (h : i ≠ j) : kup f j v i = f i := if_neg h
theorem kup_ap (f : Nat → Int) (j : Nat) (v : Int) (i : Nat) : kup f j v i = if i = j then v else f i := rfl
theorem kst_ap (σ : kM) (k : Nat) (f : Nat → Int) (q : Nat) : kst σ k f q = if q = k then f else σ q := rfl
theorem kst_st (σ : kM) (k : Nat) (f g : Nat → Int) : kst (kst σ k f) k g = kst σ k g := by
  funext q
  unfold kst
  by_cases h : q = k
  · rw [if_pos h, if_pos h]
  · rw [if_neg h, if_neg h, if_neg h]
theorem kst_id (σ : kM) (k : Nat) : kst σ k (σ k) = σ := by
  funext q
  unfold kst
  by_cases h : q = k
  · rw [if_pos h, h]
  · rw [if_neg h]
theorem kst_comm {σ : kM} {a b : Nat} {f g : Nat → Int} (h : a ≠ b) : kst (kst σ a f) b g = kst (kst σ b g) a f := by
  funext q
  unfold kst
  by_cases h1 : q = a
  · subst h1
    rw [if_neg h, if_pos rfl, if_pos rfl]
  · by_cases h2 : q = b
    · subst h2
      rw [if_pos rfl, if_neg h1, if_pos rfl]
    · rw [if_neg h2, if_neg h1, if_neg h1, if_neg h2]
theorem kup_comm {f : Nat → Int} {a b : Nat} {v w : Int} (h : a ≠ b) : kup (kup f a v) b w = kup (kup f b w) a v := by
  funext q
  unfold kup
  by_cases h1 : q = a
  · subst h1
    rw [if_neg h, if_pos rfl, if_pos rfl]
  · by_cases h2 : q = b
    · subst h2
      rw [if_pos rfl, if_neg h1, if_pos rfl]
    · rw [if_neg h2, if_neg h1, if_neg h1, if_neg h2]
theorem kup_up (f : Nat → Int) (a : Nat) (v w : Int) : kup (kup f a v) a w = kup f a w := by
  funext q
  unfold kup
  by_cases h : q = a
  · rw [if_pos h, if_pos h]
  · rw [if_neg h, if_neg h, if_neg h]

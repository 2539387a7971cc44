/-! CALLS: readings. The class's search -/
/-- the least of the free ones that gives X; none -/
def rC (f : Nat → Int) (h X : Int) (n : Nat) : Nat → Int := fun m => kit (fun j c => if kand (kshr h ((n - 1 - j : Nat) : Int)) 1 = 0 then (if f (n - 1 - j) = X then ((n - 1 - j : Nat) : Int) else c) else c) m (-1)
theorem rC_is {f : Nat → Int} {h X : Int} {n : Nat} : ∀ m : Nat, m ≤ n → (rC f h X n m = -1 ∧ ∀ p : Nat, n - m ≤ p → p < n → frb h p → f p ≠ X) ∨ ∃ p : Nat, (n - m ≤ p ∧ p < n) ∧ rC f h X n m = (p : Int) ∧ frb h p ∧ f p = X ∧ ∀ p' : Nat, n - m ≤ p' → p' < p → frb h p' → f p' ≠ X := by
  intro m
  induction m with
  | zero => intro _; exact Or.inl ⟨rfl, fun p a b => absurd a (by omega)⟩
  | succ m ih =>
    intro hm
    have h1 := ih (by omega)
    have e : rC f h X n (m + 1) = if kand (kshr h ((n - 1 - m : Nat) : Int)) 1 = 0 then (if f (n - 1 - m) = X then ((n - 1 - m : Nat) : Int) else rC f h X n m) else rC f h X n m := rfl
    rw [e]
    have q : ∀ p : Nat, n - (m + 1) ≤ p → p = n - 1 - m ∨ n - m ≤ p := fun p hp => by omega
    have q2 : n - 1 - m < n := by omega
    have q3 : n - (m + 1) ≤ n - 1 - m := by omega
    have q4 : ∀ p : Nat, n - m ≤ p → n - (m + 1) ≤ p := fun p hp => by omega
    have q5 : ∀ p' : Nat, n - (m + 1) ≤ p' → ¬ p' < n - 1 - m := fun p' hp => by omega
    have skip : ((kand (kshr h ((n - 1 - m : Nat) : Int)) 1 = 0) → f (n - 1 - m) ≠ X) → ((rC f h X n m = -1 ∧ ∀ p : Nat, n - (m + 1) ≤ p → p < n → frb h p → f p ≠ X) ∨ ∃ p : Nat, (n - (m + 1) ≤ p ∧ p < n) ∧ rC f h X n m = (p : Int) ∧ frb h p ∧ f p = X ∧ ∀ p' : Nat, n - (m + 1) ≤ p' → p' < p → frb h p' → f p' ≠ X) := by
      intro hs
      rcases h1 with ⟨a, b⟩ | ⟨p, ⟨a0, a1⟩, a, b, c, d⟩
      · refine Or.inl ⟨a, fun p p1 p2 p3 => ?_⟩
        rcases q p p1 with rfl | p4
        · exact hs p3
        · exact b p p4 p2 p3
      · refine Or.inr ⟨p, ⟨q4 p a0, a1⟩, a, b, c, fun p' p1 p2 p3 => ?_⟩
        rcases q p' p1 with rfl | p4
        · exact hs p3
        · exact d p' p4 p2 p3
    by_cases c : kand (kshr h ((n - 1 - m : Nat) : Int)) 1 = 0
    · rw [if_pos c]
      by_cases d : f (n - 1 - m) = X
      · rw [if_pos d]
        exact Or.inr ⟨n - 1 - m, ⟨q3, q2⟩, rfl, c, d, fun p' p1 p2 => absurd p2 (q5 p' p1)⟩
      · rw [if_neg d]
        exact skip (fun _ => d)
    · rw [if_neg c]
      exact skip (fun hh => absurd hh c)
section RDR
variable (r : Nat → Nat → Int) (S : Nat → Bool) (M n : Nat)
/-- who is chosen, with k poets behind -/
def rc1 (k : Nat) (h : Int) : Int := rC (fun p => r (M - 1 - k) p + rV r S M n k (orb h p)) h (rV r S M n (k + 1) h) n n
def rR : Nat → Int → (Nat → Int) → Nat → Int
  | 0, _, x => x
  | k + 1, h, x => if S (M - 1 - k) = true then rR k h x else if rc1 r S M n k h = -1 then rR k h x else rR k (orb h (rc1 r S M n k h).toNat) (kup x (M - 1 - k) (rc1 r S M n k h))
def rI (k : Nat) (h : Int) : Int := rV r S M n k h + 1000 * (rM S M n k h : Int)
/-- what the class has, all the while -/
def RK (σ : kM) : Prop := σ 3 1 = (n : Int) ∧ σ 3 2 = (M : Int) ∧ (∀ w : Nat, w < M → (S w = true → ¬ σ 31 (57 + w) ≤ 0) ∧ (S w = false → σ 31 (57 + w) ≤ 0)) ∧ (∀ w p : Nat, w < M → p < n → σ 54 (8 * w + p) = r w p)
end RDR
section RDS
variable {r : Nat → Nat → Int} {S : Nat → Bool} {M n : Nat} {σ σ' : kM}
def frR (σ σ' : kM) : Prop := (∀ c : Nat, c ≠ 50 → c ≠ 55 → c ≠ 56 → σ' c = σ c) ∧ ∀ j : Nat, j ≠ 8 → σ' 50 j = σ 50 j
theorem frR.rfl {σ : kM} : frR σ σ := ⟨fun _ _ _ _ => Eq.refl _, fun _ _ => Eq.refl _⟩
theorem frR.trans {σ σ' σ'' : kM} (h : frR σ σ') (h' : frR σ' σ'') : frR σ σ'' := ⟨fun c a b d => (h'.1 c a b d).trans (h.1 c a b d), fun j a => (h'.2 j a).trans (h.2 j a)⟩
theorem frR.put55 {σ : kM} {g : Nat → Int} : frR σ (kst σ 55 g) := ⟨fun c _ b _ => kst_ne b, fun j _ => by rw [kst_ne (by decide)]⟩
theorem RK.fr (h : RK r S M n σ) (hf : frR σ σ') : RK r S M n σ' := by
  unfold RK at *
  rw [hf.1 3 (by decide) (by decide) (by decide), hf.1 31 (by decide) (by decide) (by decide), hf.1 54 (by decide) (by decide) (by decide)]
  exact h
theorem c_sitsR (h : RK r S M n σ) (hM : M ≤ 4) {w : Nat} (hw : w < M) : pf_Court_sits_50 σ (w : Int) = some (if S w = true then 1 else 0) := by
  have e : w32 (57 + (w : Int)) = ((57 + w : Nat) : Int) := by
    rw [w32_s (by omega) (by omega)]
    rfl
  obtain ⟨h1, h2⟩ := h.2.2.1 w hw
  unfold pf_Court_sits_50
  rw [e, kchk_t (by omega), Int.toNat_natCast]
  cases hS : S w with
  | true => rw [if_neg (h1 hS), if_pos rfl]
  | false => rw [if_pos (h2 hS), if_neg (by decide)]
/-- what the search leaves -/
def SR (r : Nat → Nat → Int) (S : Nat → Bool) (M n k : Nat) (h s : Int) (σ σ' : kM) : Prop := frR σ σ' ∧ σ' 55 = σ 55 ∧ (σ 50 8 < s + rI r S M n k h → σ' 50 8 = s + rI r S M n k h ∧ ∀ j : Nat, j < 4 → σ' 56 j = rR r S M n k h (σ 55) j) ∧ (¬ σ 50 8 < s + rI r S M n k h → σ' 50 8 = σ 50 8 ∧ σ' 56 = σ 56)
theorem sr_keep (h s : Int) (hk : RK r S M n σ) : ∃ σ', pf_Court_keepRow_50 σ s = some σ' ∧ SR r S M n 0 h s σ σ' := by
  have e : rI r S M n 0 h = 0 := by
    have e1 : rM S M n 0 h = 0 := by
      unfold rM
      show 0 - fc n h = 0
      omega
    unfold rI
    rw [e1]
    rfl
  unfold pf_Court_keepRow_50 SR
  rw [e, Int.add_zero]
  by_cases c : s ≤ σ 50 8
  · rw [if_pos c]
    exact ⟨σ, rfl, frR.rfl, rfl, fun hh => absurd c (Int.not_le.mpr hh), fun _ => ⟨rfl, rfl⟩⟩
  · rw [if_neg c, klet_eq, klet_eq]
    refine ⟨_, rfl, ⟨fun c a b d => by rw [kst_ne d, kst_ne a], fun j hj => by rw [kst_ne (by decide), kst_eq, kup_ne hj]⟩, by rw [kst_ne (by decide), kst_ne (by decide)], fun _ => ⟨by rw [kst_ne (by decide), kst_eq, kup_eq], fun j hj => ?_⟩, fun hh => absurd (Int.not_le.mp c) hh⟩
    rw [kst_eq, kst_ne (by decide), kst_ne (by decide)]
    show va_cpy (σ 55) (σ 56) 0 0 4 j = σ 55 j
    exact va0 hj
/-- the loop over people, ahead of the person p -/
def BI (r : Nat → Nat → Int) (S : Nat → Bool) (M n k : Nat) (h s : Int) (w : Nat) (σ : kM) (p : Nat) (σ1 : kM) : Prop := frR σ σ1 ∧ (∃ v : Int, σ1 55 = kup (σ 55) w v) ∧
  ((σ1 50 8 = σ 50 8 ∧ σ1 56 = σ 56 ∧ ∀ p' : Nat, p' < p → frb h p' → s + (r w p' + rI r S M n k (orb h p')) ≤ σ 50 8) ∨
   ∃ c : Nat, c < p ∧ frb h c ∧ σ 50 8 < s + (r w c + rI r S M n k (orb h c)) ∧ σ1 50 8 = s + (r w c + rI r S M n k (orb h c)) ∧ (∀ j : Nat, j < 4 → σ1 56 j = rR r S M n k (orb h c) (kup (σ 55) w c) j) ∧ (∀ p' : Nat, p' < c → frb h p' → r w p' + rI r S M n k (orb h p') < r w c + rI r S M n k (orb h c)) ∧ ∀ p' : Nat, p' < p → frb h p' → r w p' + rI r S M n k (orb h p') ≤ r w c + rI r S M n k (orb h c))
theorem BI_skip {k w p : Nat} {h s : Int} {σ1 : kM} (hb : BI r S M n k h s w σ p σ1) (hf : ¬ frb h p) : BI r S M n k h s w σ (p + 1) σ1 := by
  obtain ⟨b1, b2, b3⟩ := hb
  refine ⟨b1, b2, ?_⟩
  have q : ∀ p' : Nat, p' < p + 1 → frb h p' → p' < p := fun p' h1 h2 => by
    have : p' ≠ p := fun e => hf (e ▸ h2)
    omega
  rcases b3 with ⟨c1, c2, c3⟩ | ⟨c, d1, d2, d3, d4, d5, d6, d7⟩
  · exact Or.inl ⟨c1, c2, fun p' h1 h2 => c3 p' (q p' h1 h2) h2⟩
  · exact Or.inr ⟨c, Nat.lt_succ_of_lt d1, d2, d3, d4, d5, d6, fun p' h1 h2 => d7 p' (q p' h1 h2) h2⟩
theorem BI_step {k w p : Nat} {h s : Int} {σ1 σ2 : kM} (hb : BI r S M n k h s w σ p σ1) (hf : frb h p) (hs : SR r S M n k (orb h p) (s + r w p) (kst σ1 55 (kup (σ1 55) w (p : Int))) σ2) : BI r S M n k h s w σ (p + 1) σ2 := by
  obtain ⟨b1, ⟨v, b2⟩, b3⟩ := hb
  obtain ⟨s1, s2, s3, s4⟩ := hs
  rw [kst_ne (show (50 : Nat) ≠ 55 by decide)] at s3 s4
  rw [kst_ne (show (56 : Nat) ≠ 55 by decide)] at s4
  rw [kst_eq, b2, kup_up] at s2 s3
  rw [Int.add_assoc] at s3 s4
  refine ⟨b1.trans (frR.put55.trans s1), ⟨_, s2⟩, ?_⟩
  generalize hcI : (fun p' => r w p' + rI r S M n k (orb h p')) = cI at *
  have e : ∀ p' : Nat, r w p' + rI r S M n k (orb h p') = cI p' := fun p' => by rw [← hcI]
  rw [e p] at s3 s4
  simp only [e] at b3 ⊢
  have q : ∀ p' : Nat, p' < p + 1 → p' = p ∨ p' < p := fun p' h1 => by omega
  by_cases c : σ1 50 8 < s + cI p
  · obtain ⟨t1, t2⟩ := s3 c
    refine Or.inr ⟨p, Nat.lt_succ_self p, hf, ?_, t1, t2, ?_, ?_⟩
    · rcases b3 with ⟨c1, _, _⟩ | ⟨c', _, _, d3, d4, _⟩
      · rw [← c1]
        exact c
      · rw [← d4] at d3
        exact Int.lt_trans d3 c
    · intro p' h1 h2
      rcases b3 with ⟨c1, _, c3⟩ | ⟨c', _, _, d3, d4, _, _, d7⟩
      · have := c3 p' h1 h2
        rw [c1] at c
        omega
      · have := d7 p' h1 h2
        rw [d4] at c
        omega
    · intro p' h1 h2
      rcases q p' h1 with rfl | h1
      · exact Int.le_refl _
      · rcases b3 with ⟨c1, _, c3⟩ | ⟨c', _, _, d3, d4, _, _, d7⟩
        · have := c3 p' h1 h2
          rw [c1] at c
          omega
        · have := d7 p' h1 h2
          rw [d4] at c
          omega
  · obtain ⟨t1, t2⟩ := s4 c
    rcases b3 with ⟨c1, c2, c3⟩ | ⟨c', d1, d2, d3, d4, d5, d6, d7⟩
    · refine Or.inl ⟨t1.trans c1, t2.trans c2, fun p' h1 h2 => ?_⟩
      rcases q p' h1 with rfl | h1
      · rw [c1] at c
        omega
      · exact c3 p' h1 h2
    · refine Or.inr ⟨c', Nat.lt_succ_of_lt d1, d2, d3, t1.trans d4, fun j hj => by rw [t2]; exact d5 j hj, d6, fun p' h1 h2 => ?_⟩
      rcases q p' h1 with rfl | h1
      · rw [d4] at c
        omega
      · exact d7 p' h1 h2
end RDS

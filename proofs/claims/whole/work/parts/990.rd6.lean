/-! CALLS: readings. The class's answer -/
def rdc (S : Nat → Bool) : Nat → Nat
  | 0 => 0
  | w + 1 => if S w = true then rdc S w else rdc S w + 1
theorem rdc_rN {S : Nat → Bool} {M : Nat} : ∀ k : Nat, k ≤ M → rN S M k + rdc S (M - k) = rdc S M := by
  intro k
  induction k with
  | zero => intro _; show 0 + rdc S (M - 0) = _; rw [Nat.sub_zero, Nat.zero_add]
  | succ k ih =>
    intro hk
    have h1 := ih (Nat.le_of_succ_le hk)
    have e : M - k = M - (k + 1) + 1 := by omega
    have e2 : M - 1 - k = M - (k + 1) := by omega
    rw [e] at h1
    have e3 : rdc S (M - (k + 1) + 1) = if S (M - (k + 1)) = true then rdc S (M - (k + 1)) else rdc S (M - (k + 1)) + 1 := rfl
    have e4 : rN S M (k + 1) = if S (M - (k + 1)) = true then rN S M k else rN S M k + 1 := by
      show (if S (M - 1 - k) = true then _ else _) = _
      rw [e2]
    rw [e3] at h1
    rw [e4]
    by_cases c : S (M - (k + 1)) = true
    · rw [if_pos c] at h1 ⊢
      exact h1
    · rw [if_neg c] at h1 ⊢
      omega
theorem rdc_all {S : Nat → Bool} {M : Nat} : rN S M M = rdc S M := by
  have h := rdc_rN (S := S) (M := M) M (Nat.le_refl _)
  rw [Nat.sub_self] at h
  exact h
theorem rdc_le {S : Nat → Bool} : ∀ w : Nat, rdc S w ≤ w := by
  intro w
  induction w with
  | zero => exact Nat.le_refl _
  | succ w ih =>
    show (if S w = true then rdc S w else rdc S w + 1) ≤ _
    split <;> omega
theorem fc_0 : ∀ n : Nat, n ≤ 8 → fc n 0 = n := by decide +kernel
section RDC
variable {N M tp : Int} {L : Nat → Int} {PH PF PB : List Int} {σ σ' μ μ' : kM} {q : Nat → Int}
/-- inches of the next line; who sits -/
def qr (PH : List Int) (q : Nat → Int) (w p : Nat) : Int := nIn PH q (w : Int) (p : Int) (q (21 + w))
def qS (q : Nat → Int) (w : Nat) : Bool := decide (0 < q (25 + w))
theorem qr_rng (hE : EN N M tp L PH PF PB) (hI : IV M tp L q) {w p : Nat} (hw : w < M.toNat) (hp : p < N.toNat) : (0 ≤ qr PH q w p ∧ qr PH q w p ≤ 9) ∧ (0 ≤ q (21 + w) ∧ q (21 + w) < L w) ∧ L w ≤ 6 := by
  have hn1 := hE.1
  have hn2 := hE.2.1
  have hL := hE.2.2.2.1 (w : Int) (by omega) (by omega)
  have hx := hI.next (w := (w : Int)) (by omega) (by omega) (by omega)
  rw [show (21 + (w : Int)).toNat = 21 + w by omega, Int.toNat_natCast] at hx
  rw [Int.toNat_natCast] at hL
  exact ⟨nIn_rng hI hE.2.2.1.2 (by omega) (by omega) (by omega) (by omega) hx.1 (by omega), hx, hL.2⟩
def frQ (σ σ' : kM) : Prop := ∀ c : Nat, c ≠ 11 → c ≠ 49 → c ≠ 54 → c ≠ 55 → c ≠ 56 → σ' c = σ c
theorem frQ.rfl {σ : kM} : frQ σ σ := fun _ _ _ _ _ _ => Eq.refl _
theorem frQ.trans {σ σ' σ'' : kM} (h : frQ σ σ') (h' : frQ σ' σ'') : frQ σ σ'' := fun c a b d e f => (h' c a b d e f).trans (h c a b d e f)
theorem frQ.kp {σ σ' : kM} (h : frQ σ σ') : kpC σ σ' := fun c hc => h c (by omega) (by omega) (by omega) (by omega) (by omega)
theorem rq_n {N M : Int} {w p : Nat} (hn1 : 0 ≤ N ∧ N ≤ 8) (hn2 : 0 ≤ M ∧ M ≤ 4) (hw : w < M.toNat) (hp : p < N.toNat) : w32 ((p : Int) + 1) = ((p + 1 : Nat) : Int) ∧ (¬ N ≤ (p : Int)) ∧ w32 (53 + (w : Int)) = ((53 + w : Nat) : Int) ∧ (0 ≤ ((53 + w : Nat) : Int) ∧ ((53 + w : Nat) : Int) < 85) ∧ w32 (w32 ((w : Int) * 8) + (p : Int)) = ((8 * w + p : Nat) : Int) ∧ (0 ≤ ((8 * w + p : Nat) : Int) ∧ ((8 * w + p : Nat) : Int) < 32) ∧ ((w : Int) < M ∧ (w : Int) < 4 ∧ 0 ≤ (w : Int) ∧ 0 ≤ (p : Int) ∧ (p : Int) < N) ∧ (53 + (w : Int)).toNat = 53 + w ∧ (21 + (w : Int)).toNat = 21 + w := by
  refine ⟨kw_inc (by omega), by omega, ?_, by omega, ?_, by omega, by omega, by omega, by omega⟩
  · rw [w32_s (by omega) (by omega)]
    rfl
  · rw [w32_s (v := (w : Int) * 8) (by omega) (by omega), w32_s (by omega) (by omega)]
    omega
theorem c_reach (h : CN N M tp L PH PF PB σ q) {w : Nat} (hw : w < M.toNat) {x : Int} : ∃ σ', kloop (fun st => pf_Court_assignReadings_50_l47 st.1 x (w : Int) st.2) kFuel (σ, 0) = some σ' ∧ (∀ c : Nat, c ≠ 11 → c ≠ 49 → c ≠ 54 → σ' c = σ c) ∧ (∀ p : Nat, p < N.toNat → σ' 54 (8 * w + p) = qr PH q w p) ∧ (∀ j : Nat, j < 8 * w → σ' 54 j = σ 54 j) := by
  have hn1 := h.1.1
  have hn2 := h.1.2.1
  have n9 : N.toNat < 100000000 := by omega
  have nN : N ≤ ((N.toNat : Nat) : Int) := by omega
  obtain ⟨σ1, b1, b2, b3, b4⟩ := kl_M (body := fun st => pf_Court_assignReadings_50_l47 st.1 x (w : Int) st.2) (fun p σ1 => (∀ c : Nat, c ≠ 11 → c ≠ 49 → c ≠ 54 → σ1 c = σ c) ∧ (∀ p' : Nat, p' < p → σ1 54 (8 * w + p') = qr PH q w p') ∧ (∀ j : Nat, j < 8 * w → σ1 54 j = σ 54 j)) (fun i => (i : Int)) N.toNat n9 (fun p σ1 hp hs => by
    obtain ⟨ewp, cn, e53, c53, e8, c8, ⟨d1, d2, d3, d4, d5⟩, f1, f2⟩ := rq_n hn1 hn2 hw hp
    obtain ⟨-, hx, hL⟩ := qr_rng h.1 h.2.2.2 hw hp
    obtain ⟨s1, s2, s3⟩ := hs
    have s1 : ∀ c : Nat, c ≠ 11 → c ≠ 49 → c ≠ 54 → σ1 c = σ c := s1
    have hC1 : CN N M tp L PH PF PB σ1 q := h.eq (s1 3 (by decide) (by decide) (by decide)) (s1 4 (by decide) (by decide) (by decide)) (s1 5 (by decide) (by decide) (by decide)) (s1 6 (by decide) (by decide) (by decide)) (s1 8 (by decide) (by decide) (by decide)) (s1 9 (by decide) (by decide) (by decide)) (s1 10 (by decide) (by decide) (by decide)) (s1 31 (by decide) (by decide) (by decide))
    have enx := hC1.2.2.1.next d3 d2
    rw [f1, f2] at enx
    obtain ⟨σ2, t1, t2⟩ := c_inNow hC1 d3 d1 d4 d5 hx.1 (by rw [Int.toNat_natCast]; exact hx.2)
    refine ⟨kst σ2 54 (kup (σ2 54) (8 * w + p) (qr PH q w p)), ?_, fun c a b d => by rw [kst_ne d, t2 c b a]; exact s1 c a b d, fun p' hp' => ?_, fun j hj => ?_⟩
    · show pf_Court_assignReadings_50_l47 σ1 x (w : Int) (p : Int) = _
      unfold pf_Court_assignReadings_50_l47
      rw [hC1.2.1.2.1, if_neg cn, e53, kchk_t c53, klet_eq, Int.toNat_natCast, enx, kbind_eq t1]
      dsimp only
      rw [e8, kchk_t c8, klet_eq, klet_eq, ewp, Int.toNat_natCast]
      rfl
    · rw [kst_eq]
      by_cases e : p' = p
      · subst e
        rw [kup_eq]
      · rw [kup_ne (by omega), t2 54 (by decide) (by decide)]
        exact s2 p' (by omega)
    · rw [kst_eq, kup_ne (by omega), t2 54 (by decide) (by decide)]
      exact s3 j hj) (fun σ1 hs => by
    refine ⟨σ1, ?_, hs⟩
    show pf_Court_assignReadings_50_l47 σ1 x (w : Int) ((N.toNat : Nat) : Int) = _
    unfold pf_Court_assignReadings_50_l47
    rw [hs.1 3 (by decide) (by decide) (by decide), h.2.1.2.1, if_pos nN]) (σ := σ) ⟨fun _ _ _ _ => rfl, fun p hp => absurd hp (Nat.not_lt_zero _), fun _ _ => rfl⟩ (b0 := 0) rfl
  exact ⟨σ1, b1, b2, b3, b4⟩
end RDC

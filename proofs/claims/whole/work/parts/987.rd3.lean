/-! CALLS: readings. The class's search, all of it -/
section PICK
variable {f : Nat → Int} {h v0 : Int} {n : Nat}
theorem pick1 {c : Nat} (hc : c < n) (hf : frb h c) (hm : ∀ p : Nat, p < n → frb h p → f p ≤ f c) (hv : v0 ≤ f c) (hl : ∀ p : Nat, p < c → frb h p → f p < f c) : rX f h v0 n = f c ∧ rC f h (rX f h v0 n) n n = (c : Int) := by
  obtain ⟨x1, x2, x3⟩ := rX_ge (f := f) (h := h) (v := v0) n
  have hX : rX f h v0 n = f c := by
    have h1 := x2 c hc hf
    rcases x3 with x3 | ⟨p, p1, p2, p3⟩
    · exact Int.le_antisymm (by rw [x3]; exact hv) h1
    · exact Int.le_antisymm (by rw [p3]; exact hm p p1 p2) h1
  refine ⟨hX, ?_⟩
  rw [hX]
  rcases rC_is (f := f) (h := h) (X := f c) (n := n) n (Nat.le_refl _) with ⟨-, b⟩ | ⟨p, ⟨-, a1⟩, a, b, c1, d⟩
  · exact absurd rfl (b c (by omega) hc hf)
  · rw [a]
    rcases Nat.lt_trichotomy p c with e | e | e
    · exact absurd (hl p e b) (by rw [c1]; exact Int.lt_irrefl _)
    · rw [e]
    · exact absurd rfl (d c (by omega) e hf)
theorem pick2 (hm : ∀ p : Nat, p < n → frb h p → f p < v0) : rX f h v0 n = v0 ∧ rC f h (rX f h v0 n) n n = -1 := by
  obtain ⟨x1, x2, x3⟩ := rX_ge (f := f) (h := h) (v := v0) n
  have hX : rX f h v0 n = v0 := by
    rcases x3 with x3 | ⟨p, p1, p2, p3⟩
    · exact x3
    · have := hm p p1 p2
      rw [← p3] at this
      exact absurd this (Int.not_lt.mpr x1)
  refine ⟨hX, ?_⟩
  rw [hX]
  rcases rC_is (f := f) (h := h) (X := v0) (n := n) n (Nat.le_refl _) with ⟨a, -⟩ | ⟨p, ⟨-, a1⟩, a, b, c1, d⟩
  · exact a
  · exact absurd (hm p a1 b) (by rw [c1]; exact Int.lt_irrefl _)
theorem pick3 {b : Int} (hm : ∀ p : Nat, p < n → frb h p → f p ≤ b) (hv : v0 ≤ b) : rX f h v0 n ≤ b := by
  obtain ⟨x1, x2, x3⟩ := rX_ge (f := f) (h := h) (v := v0) n
  rcases x3 with x3 | ⟨p, p1, p2, p3⟩
  · rw [x3]
    exact hv
  · rw [p3]
    exact hm p p1 p2
end PICK
section SRA
variable {r : Nat → Nat → Int} {S : Nat → Bool} {M n : Nat} {σ σ' : kM}
theorem rR_c {k : Nat} {h : Int} {x : Nat → Int} (hS : S (M - 1 - k) = false) {c : Nat} (hc : rc1 r S M n k h = (c : Int)) : rR r S M n (k + 1) h x = rR r S M n k (orb h c) (kup x (M - 1 - k) (c : Int)) := by
  show (if S (M - 1 - k) = true then _ else if rc1 r S M n k h = -1 then _ else rR r S M n k (orb h (rc1 r S M n k h).toNat) (kup x (M - 1 - k) (rc1 r S M n k h))) = _
  rw [if_neg (by rw [hS]; decide), hc, if_neg (by omega), Int.toNat_natCast]
theorem rR_n {k : Nat} {h : Int} {x : Nat → Int} (hS : S (M - 1 - k) = false) (hc : rc1 r S M n k h = -1) : rR r S M n (k + 1) h x = rR r S M n k h x := by
  show (if S (M - 1 - k) = true then _ else if rc1 r S M n k h = -1 then rR r S M n k h x else _) = _
  rw [if_neg (by rw [hS]; decide), if_pos hc]
/-- behind the loop: nobody is left to read to -/
theorem sr_fin0 {k : Nat} {h s : Int} {σ1 : kM} (hr : ∀ w p : Nat, w < M → p < n → 0 ≤ r w p ∧ r w p ≤ 9) (hn : n ≤ 8) (hM : M ≤ 4) (hk : k + 1 ≤ M) (h0 : 0 ≤ h ∧ h < 256) (hS : S (M - 1 - k) = false) (hb : BI r S M n k h s (M - 1 - k) σ n σ1) (hx : σ 55 (M - 1 - k) = -1) (hm : rM S M n (k + 1) h = 0) : SR r S M n (k + 1) h s σ (kst σ1 55 (kup (σ1 55) (M - 1 - k) (-1))) := by
  obtain ⟨b1, ⟨v, b2⟩, b3⟩ := hb
  have e55 : kup (σ1 55) (M - 1 - k) (-1) = σ 55 := by rw [b2, kup_up, ← hx, kup_id]
  have eI : rI r S M n (k + 1) h = rX (fun p => r (M - 1 - k) p + rV r S M n k (orb h p)) h (rV r S M n k h - 1000) n := by
    unfold rI
    rw [rV_r hS, hm]
    show _ + 1000 * ((0 : Nat) : Int) = _
    omega
  have ecI : ∀ p : Nat, p < n → frb h p → r (M - 1 - k) p + rI r S M n k (orb h p) = r (M - 1 - k) p + rV r S M n k (orb h p) := fun p hp hf => by
    unfold rI
    rw [rM_or hS h0 hn hp hf, hm]
    show _ + (_ + 1000 * ((0 : Nat) : Int)) = _
    omega
  have e : rN S M (k + 1) = rN S M k + 1 := if_neg (by rw [hS]; decide)
  have hm2 : rM S M n k h = 0 ∧ 0 < fc n h := by
    clear b3 eI ecI
    unfold rM at hm ⊢
    rw [e] at hm
    omega
  obtain ⟨p0, p1, p2⟩ := fc_pos n hm2.2
  have hv := rV_rng (S := S) hr hn hM k h (by omega) h0
  rw [hm2.1] at hv
  have hp8 : p0 < 8 := by omega
  have hv0 := (rV_rng (S := S) hr hn hM k (orb h p0) (by omega) (orb_rng h0 hp8)).1
  rw [rM_or hS h0 hn p1 p2, hm] at hv0
  have hr0 := (hr (M - 1 - k) p0 (by omega) p1).1
  have hneg : rV r S M n k h - 1000 ≤ r (M - 1 - k) p0 + rV r S M n k (orb h p0) := by
    clear b3 eI ecI
    have z : ((0 : Nat) : Int) = 0 := rfl
    rw [z] at hv hv0
    omega
  refine ⟨b1.trans frR.put55, by rw [kst_eq, e55], ?_⟩
  rw [kst_ne (show (50 : Nat) ≠ 55 by decide), kst_ne (show (56 : Nat) ≠ 55 by decide), eI]
  generalize hf : (fun p => r (M - 1 - k) p + rV r S M n k (orb h p)) = f at *
  have ef : ∀ p : Nat, r (M - 1 - k) p + rV r S M n k (orb h p) = f p := fun p => by rw [← hf]
  rw [ef p0] at hneg
  generalize rV r S M n k h - 1000 = v0 at *
  have hrc : rc1 r S M n k h = rC f h (rX f h v0 n) n n := by
    unfold rc1
    rw [hf, ← eI]
    unfold rI
    rw [hm]
    congr 1
    show _ = _ + 1000 * ((0 : Nat) : Int)
    omega
  rcases b3 with ⟨c1, c2, c3⟩ | ⟨c, d1, d2, d3, d4, d5, d6, d7⟩
  · have c3 : ∀ p' : Nat, p' < n → frb h p' → f p' ≤ σ 50 8 - s := fun p' h1 h2 => by
      have := c3 p' h1 h2
      rw [ecI p' h1 h2, ef] at this
      omega
    have hX := pick3 c3 (Int.le_trans hneg (c3 p0 p1 p2))
    have hno : ¬ σ 50 8 < s + rX f h v0 n := by omega
    exact ⟨fun hh => absurd hh hno, fun _ => ⟨c1, c2⟩⟩
  · rw [ecI c d1 d2, ef] at d3 d4 d6 d7
    have d7 : ∀ p' : Nat, p' < n → frb h p' → f p' ≤ f c := fun p' h1 h2 => by
      have := d7 p' h1 h2
      rw [ecI p' h1 h2, ef] at this
      exact this
    have d6 : ∀ p' : Nat, p' < c → frb h p' → f p' < f c := fun p' h1 h2 => by
      have := d6 p' h1 h2
      rw [ecI p' (Nat.lt_trans h1 d1) h2, ef] at this
      exact this
    obtain ⟨y1, y2⟩ := pick1 d1 d2 d7 (Int.le_trans hneg (d7 p0 p1 p2)) d6
    rw [← hrc] at y2
    rw [y1, rR_c hS y2]
    exact ⟨fun _ => ⟨d4, d5⟩, fun hh => absurd d3 hh⟩
/-- behind the loop: nobody can be chosen too -/
theorem sr_fin1 {k : Nat} {h s : Int} {σ1 σ2 : kM} (hn : n ≤ 8) (h0 : 0 ≤ h ∧ h < 256) (hS : S (M - 1 - k) = false) (hb : BI r S M n k h s (M - 1 - k) σ n σ1) (hx : σ 55 (M - 1 - k) = -1) (hm : rM S M n (k + 1) h = rM S M n k h + 1) (hs : SR r S M n k h s (kst σ1 55 (kup (σ1 55) (M - 1 - k) (-1))) σ2) : SR r S M n (k + 1) h s σ σ2 := by
  obtain ⟨b1, ⟨v, b2⟩, b3⟩ := hb
  have e55 : kup (σ1 55) (M - 1 - k) (-1) = σ 55 := by rw [b2, kup_up, ← hx, kup_id]
  have eI : rI r S M n (k + 1) h = rX (fun p => r (M - 1 - k) p + rV r S M n k (orb h p)) h (rV r S M n k h - 1000) n + 1000 * (rM S M n (k + 1) h : Int) := by
    unfold rI
    rw [rV_r hS]
  have eX : rV r S M n (k + 1) h = rX (fun p => r (M - 1 - k) p + rV r S M n k (orb h p)) h (rV r S M n k h - 1000) n := rV_r hS
  have ecI : ∀ p : Nat, p < n → frb h p → r (M - 1 - k) p + rI r S M n k (orb h p) = r (M - 1 - k) p + rV r S M n k (orb h p) + 1000 * (rM S M n (k + 1) h : Int) := fun p hp hf => by
    unfold rI
    rw [rM_or hS h0 hn hp hf]
    omega
  have eN : rI r S M n k h = rV r S M n k h - 1000 + 1000 * (rM S M n (k + 1) h : Int) := by
    unfold rI
    rw [hm]
    omega
  obtain ⟨s1, s2, s3, s4⟩ := hs
  rw [kst_ne (show (50 : Nat) ≠ 55 by decide), eN] at s3 s4
  rw [kst_ne (show (56 : Nat) ≠ 55 by decide)] at s4
  rw [kst_eq, e55] at s2 s3
  refine ⟨b1.trans (frR.put55.trans s1), s2, ?_⟩
  have hrc : rc1 r S M n k h = rC (fun p => r (M - 1 - k) p + rV r S M n k (orb h p)) h (rX (fun p => r (M - 1 - k) p + rV r S M n k (orb h p)) h (rV r S M n k h - 1000) n) n n := by
    unfold rc1
    rw [eX]
  rw [eI]
  generalize hf : (fun p => r (M - 1 - k) p + rV r S M n k (orb h p)) = f at *
  have ef : ∀ p : Nat, r (M - 1 - k) p + rV r S M n k (orb h p) = f p := fun p => by rw [← hf]
  clear eI eX eN
  generalize rV r S M n k h - 1000 = v0 at *
  generalize 1000 * (rM S M n (k + 1) h : Int) = J at *
  rcases b3 with ⟨c1, c2, c3⟩ | ⟨c, d1, d2, d3, d4, d5, d6, d7⟩
  · have c3 : ∀ p' : Nat, p' < n → frb h p' → f p' ≤ σ 50 8 - s - J := fun p' h1 h2 => by
      have := c3 p' h1 h2
      rw [ecI p' h1 h2, ef] at this
      omega
    rw [c1] at s3 s4
    by_cases q : σ 50 8 < s + (v0 + J)
    · obtain ⟨y1, y2⟩ := pick2 (f := f) (h := h) (v0 := v0) (n := n) (fun p h1 h2 => by have := c3 p h1 h2; omega)
      rw [← hrc] at y2
      rw [y1, rR_n hS y2]
      exact ⟨fun _ => s3 q, fun hh => absurd q hh⟩
    · have hX := pick3 (v0 := v0) c3 (by omega)
      have hno : ¬ σ 50 8 < s + (rX f h v0 n + J) := by omega
      exact ⟨fun hh => absurd hh hno, fun _ => ⟨(s4 q).1, (s4 q).2.trans c2⟩⟩
  · rw [ecI c d1 d2, ef] at d3 d4 d6 d7
    have d7 : ∀ p' : Nat, p' < n → frb h p' → f p' ≤ f c := fun p' h1 h2 => by
      have := d7 p' h1 h2
      rw [ecI p' h1 h2, ef] at this
      omega
    have d6 : ∀ p' : Nat, p' < c → frb h p' → f p' < f c := fun p' h1 h2 => by
      have := d6 p' h1 h2
      rw [ecI p' (Nat.lt_trans h1 d1) h2, ef] at this
      omega
    rw [d4] at s3 s4
    by_cases q : s + (f c + J) < s + (v0 + J)
    · obtain ⟨y1, y2⟩ := pick2 (f := f) (h := h) (v0 := v0) (n := n) (fun p h1 h2 => by have := d7 p h1 h2; omega)
      rw [← hrc] at y2
      rw [y1, rR_n hS y2]
      exact ⟨fun _ => s3 q, fun hh => absurd (Int.lt_trans d3 q) hh⟩
    · obtain ⟨y1, y2⟩ := pick1 (v0 := v0) d1 d2 d7 (by omega) d6
      rw [← hrc] at y2
      rw [y1, rR_c hS y2]
      exact ⟨fun _ => ⟨(s4 q).1, fun j hj => by rw [(s4 q).2]; exact d5 j hj⟩, fun hh => absurd d3 hh⟩
end SRA

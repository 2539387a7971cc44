/-! CALLS: listen. Numbers of scars that are seen, as bits of longs; how many unlike ones -/
noncomputable def dC (G : Nat → Bool) (sc : Nat → Nat → Int) (p : Nat) : Nat → Nat
  | 0 => 0
  | g + 1 => @ite _ (G g = true ∧ ¬ ∃ g' : Nat, g' < g ∧ G g' = true ∧ sc g' p = sc g p) (Classical.propDecidable _) (dC G sc p g + 1) (dC G sc p g)
theorem dC_1 {G : Nat → Bool} {sc : Nat → Nat → Int} {p g : Nat} (h1 : G g = true) (h2 : ¬ ∃ g' : Nat, g' < g ∧ G g' = true ∧ sc g' p = sc g p) : dC G sc p (g + 1) = dC G sc p g + 1 := @if_pos _ (Classical.propDecidable _) ⟨h1, h2⟩ ..
theorem dC_0 {G : Nat → Bool} {sc : Nat → Nat → Int} {p g : Nat} (h : ¬ (G g = true ∧ ¬ ∃ g' : Nat, g' < g ∧ G g' = true ∧ sc g' p = sc g p)) : dC G sc p (g + 1) = dC G sc p g := @if_neg _ (Classical.propDecidable _) h ..
/-- seen among the guesses ahead of g -/
def sN (G : Nat → Bool) (sc : Nat → Nat → Int) (p g : Nat) (v : Int) : Prop := ∃ g' : Nat, g' < g ∧ G g' = true ∧ sc g' p = v
theorem sN_s {G : Nat → Bool} {sc : Nat → Nat → Int} {p g : Nat} {v : Int} : sN G sc p (g + 1) v ↔ sN G sc p g v ∨ (G g = true ∧ sc g p = v) := by
  constructor
  · rintro ⟨g', h1, h2, h3⟩
    by_cases e : g' = g
    · subst e
      exact Or.inr ⟨h2, h3⟩
    · exact Or.inl ⟨g', by omega, h2, h3⟩
  · rintro (⟨g', h1, h2, h3⟩ | ⟨h2, h3⟩)
    · exact ⟨g', by omega, h2, h3⟩
    · exact ⟨g, by omega, h2, h3⟩
theorem sS_at {w s : Nat → Int} (p k : Nat) (hk : k = 2 * p ∨ k = 2 * p + 1) : ∀ n : Nat, sS n w s k = if p < n ∧ k = sP s p then klor (w k) (klshl 1 (kand (s p) 63)) else w k := by
  intro n
  induction n with
  | zero => rw [if_neg (by omega)]; rfl
  | succ n ih =>
    have hs : sS (n + 1) w s = kup (sS n w s) (sP s n) (klor (sS n w s (sP s n)) (klshl 1 (kand (s n) 63))) := rfl
    have hP : ∀ i : Nat, sP s i = 2 * i ∨ sP s i = 2 * i + 1 := fun i => by
      unfold sP
      split <;> omega
    have hPn := hP n
    have hPp := hP p
    rw [hs]
    by_cases e : k = sP s n
    · have ep : p = n := by omega
      subst ep
      rw [if_neg (by omega)] at ih
      rw [if_pos ⟨by omega, e⟩, ← e, kup_eq, ih]
    · rw [kup_ne e, ih]
      by_cases c : p < n ∧ k = sP s p
      · rw [if_pos c, if_pos ⟨by omega, c.2⟩]
      · rw [if_neg c, if_neg (fun hh => c ⟨by
          by_cases en : p = n
          · subst en
            exact absurd hh.2 e
          · omega, hh.2⟩)]
theorem sh_63 : ∀ s : Fin 128, klshl 1 (kand (s.val : Int) 63) = nL (2 ^ (s.val % 64)) := by decide +kernel
/-- words and what they hold -/
def WI (n : Nat) (w : Nat → Int) (S : Nat → Int → Prop) (D : Nat → Nat) : Prop := ∀ p : Nat, p < n → ∃ a b : Nat, a < 2 ^ 64 ∧ b < 2 ^ 64 ∧ w (2 * p) = nL a ∧ w (2 * p + 1) = nL b ∧ (∀ j : Nat, j < 64 → (a.testBit j = true ↔ S p (j : Int))) ∧ (∀ j : Nat, j < 64 → (b.testBit j = true ↔ S p ((64 + j : Nat) : Int))) ∧ bpc 64 a + bpc 64 b = D p
theorem or_set (n j i : Nat) : (n ||| 2 ^ j).testBit i = (n.testBit i || decide (i = j)) := by
  rw [Nat.testBit_or, Nat.testBit_two_pow]
  by_cases h : j = i
  · subst h; simp
  · have h2 : ¬ i = j := fun e => h e.symm
    simp [h, h2]
theorem pow_lt64 {j : Nat} (hj : j < 64) : 2 ^ j < 2 ^ 64 := Nat.pow_lt_pow_right (by decide) hj
theorem or_new {a j : Nat} (h : a.testBit j = false) (hj : j < 64) : bpc 64 (a ||| 2 ^ j) = bpc 64 a + 1 := by
  have h0 : a / 2 ^ j % 2 = 0 := by
    rw [Nat.testBit_eq_decide_div_mod_eq, decide_eq_false_iff_not] at h
    omega
  rw [or_bit h0, bpc_add j 64 a hj h0]
theorem or_old {a j : Nat} (h : a.testBit j = true) : a ||| 2 ^ j = a := by
  rw [Nat.testBit_eq_decide_div_mod_eq, decide_eq_true_iff] at h
  exact or_same h
theorem WI_step {G : Nat → Bool} {sc : Nat → Nat → Int} {n g : Nat} (h : WI n (tW G sc n g) (fun p v => sN G sc p g v) (fun p => dC G sc p g)) (hs : ∀ p : Nat, p < n → 0 ≤ sc g p ∧ sc g p < 128) : WI n (tW G sc n (g + 1)) (fun p v => sN G sc p (g + 1) v) (fun p => dC G sc p (g + 1)) := by
  intro p hp
  obtain ⟨a, b, ha, hb, wa, wb, ba, bb, hc⟩ := h p hp
  cases hG : G g with
  | false =>
    have e1 : ∀ v : Int, sN G sc p (g + 1) v ↔ sN G sc p g v := fun v => by
      rw [sN_s]
      exact ⟨fun hh => hh.elim id (fun h2 => absurd h2.1 (by rw [hG]; decide)), Or.inl⟩
    rw [tW_f hG]
    refine ⟨a, b, ha, hb, wa, wb, fun j hj => (ba j hj).trans (e1 _).symm, fun j hj => (bb j hj).trans (e1 _).symm, ?_⟩
    show _ = dC G sc p (g + 1)
    rw [dC_0 (fun hh => absurd hh.1 (by rw [hG]; decide))]
    exact hc
  | true =>
    have hc : bpc 64 a + bpc 64 b = dC G sc p g := hc
    have ba : ∀ j : Nat, j < 64 → (a.testBit j = true ↔ sN G sc p g (j : Int)) := ba
    have bb : ∀ j : Nat, j < 64 → (b.testBit j = true ↔ sN G sc p g ((64 + j : Nat) : Int)) := bb
    have hsp := hs p hp
    obtain ⟨v, hv⟩ : ∃ v : Nat, sc g p = (v : Int) := ⟨(sc g p).toNat, by omega⟩
    have hv128 : v < 128 := by omega
    have e63 := sh_63 ⟨v, hv128⟩
    have e63 : klshl 1 (kand (v : Int) 63) = nL (2 ^ (v % 64)) := e63
    have hj64 : v % 64 < 64 := Nat.mod_lt _ (by decide)
    have hpw := pow_lt64 hj64
    have e1 : ∀ x : Nat, sN G sc p (g + 1) (x : Int) ↔ sN G sc p g (x : Int) ∨ x = v := fun x => by
      rw [sN_s, hv]
      constructor
      · rintro (h1 | h1)
        · exact Or.inl h1
        · exact Or.inr (by have := h1.2; omega)
      · rintro (h1 | h1)
        · exact Or.inl h1
        · exact Or.inr ⟨hG, by omega⟩
    have w1 := sS_at (w := tW G sc n g) (s := sc g) p (2 * p) (Or.inl rfl) n
    have w2 := sS_at (w := tW G sc n g) (s := sc g) p (2 * p + 1) (Or.inr rfl) n
    rw [hv, e63, wa] at w1
    rw [hv, e63, wb] at w2
    rw [tW_t hG]
    by_cases c : v < 64
    · have eP : sP (sc g) p = 2 * p := by
        unfold sP
        rw [hv, if_pos (by omega)]
        rfl
      have ev : v % 64 = v := Nat.mod_eq_of_lt c
      rw [eP, if_pos ⟨hp, rfl⟩, klor_n ha hpw, ev] at w1
      rw [eP, if_neg (by omega)] at w2
      rw [ev] at hpw
      refine ⟨a ||| 2 ^ v, b, Nat.or_lt_two_pow ha hpw, hb, w1, w2, fun j hj => ?_, fun j hj => ?_, ?_⟩
      · show _ ↔ sN G sc p (g + 1) (j : Int)
        rw [e1, or_set, Bool.or_eq_true, ba j hj, decide_eq_true_iff]
      · show _ ↔ sN G sc p (g + 1) ((64 + j : Nat) : Int)
        rw [e1, bb j hj]
        exact ⟨Or.inl, fun hh => hh.elim id (fun h2 => by omega)⟩
      · show _ = dC G sc p (g + 1)
        cases hbit : a.testBit v with
        | true =>
          have hseen := (ba v c).mp hbit
          rw [dC_0 (fun hh => hh.2 (by rw [hv]; exact hseen)), or_old hbit]
          exact hc
        | false =>
          have hseen : ¬ sN G sc p g (v : Int) := fun hh => absurd ((ba v c).mpr hh) (by rw [hbit]; decide)
          rw [dC_1 hG (by rw [hv]; exact hseen), or_new hbit c, ← hc]
          omega
    · have eP : sP (sc g) p = 2 * p + 1 := by
        unfold sP
        rw [hv, if_neg (by omega)]
      have ev : v = 64 + v % 64 := by omega
      rw [eP, if_neg (by omega)] at w1
      rw [eP, if_pos ⟨hp, rfl⟩, klor_n hb hpw] at w2
      generalize v % 64 = j0 at *
      subst ev
      refine ⟨a, b ||| 2 ^ j0, ha, Nat.or_lt_two_pow hb hpw, w1, w2, fun j hj => ?_, fun j hj => ?_, ?_⟩
      · show _ ↔ sN G sc p (g + 1) (j : Int)
        rw [e1, ba j hj]
        exact ⟨Or.inl, fun hh => hh.elim id (fun h2 => by omega)⟩
      · show _ ↔ sN G sc p (g + 1) ((64 + j : Nat) : Int)
        rw [e1, or_set, Bool.or_eq_true, bb j hj, decide_eq_true_iff]
        exact ⟨fun hh => hh.elim Or.inl (fun h2 => Or.inr (by omega)), fun hh => hh.elim Or.inl (fun h2 => Or.inr (by omega))⟩
      · show _ = dC G sc p (g + 1)
        cases hbit : b.testBit j0 with
        | true =>
          have hseen := (bb j0 hj64).mp hbit
          rw [dC_0 (fun hh => hh.2 (by rw [hv]; exact hseen)), or_old hbit]
          exact hc
        | false =>
          have hseen : ¬ sN G sc p g ((64 + j0 : Nat) : Int) := fun hh => absurd ((bb j0 hj64).mpr hh) (by rw [hbit]; decide)
          rw [dC_1 hG (by rw [hv]; exact hseen), or_new hbit hj64, ← hc]
          omega
theorem WI_all {G : Nat → Bool} {sc : Nat → Nat → Int} {n : Nat} (hs : ∀ g p : Nat, p < n → 0 ≤ sc g p ∧ sc g p < 128) (g : Nat) : WI n (tW G sc n g) (fun p v => sN G sc p g v) (fun p => dC G sc p g) := by
  induction g with
  | zero =>
    intro p hp
    refine ⟨0, 0, by decide, by decide, rfl, rfl, fun j hj => ?_, fun j hj => ?_, rfl⟩
    · rw [Nat.zero_testBit]
      exact ⟨fun h => absurd h (by decide), fun ⟨g', h1, _⟩ => absurd h1 (Nat.not_lt_zero _)⟩
    · rw [Nat.zero_testBit]
      exact ⟨fun h => absurd h (by decide), fun ⟨g', h1, _⟩ => absurd h1 (Nat.not_lt_zero _)⟩
  | succ g ih => exact WI_step ih (hs g)
/-- the first with most -/
def bU (D : Nat → Nat) : Nat → Int × Int
  | 0 => (-1, 0)
  | p + 1 => if (bU D p).2 < (D p : Int) then ((p : Int), (D p : Int)) else bU D p
theorem bU_inv (D : Nat → Nat) (n : Nat) : 0 ≤ (bU D n).2 ∧ ((bU D n).1 = -1 ∧ (bU D n).2 = 0 ∨ ∃ p : Nat, p < n ∧ (bU D n).1 = (p : Int) ∧ (bU D n).2 = (D p : Int)) := by
  induction n with
  | zero => exact ⟨Int.le_refl 0, Or.inl ⟨rfl, rfl⟩⟩
  | succ n ih =>
    show 0 ≤ (if (bU D n).2 < (D n : Int) then ((n : Int), (D n : Int)) else bU D n).2 ∧ _
    have e : bU D (n + 1) = if (bU D n).2 < (D n : Int) then ((n : Int), (D n : Int)) else bU D n := rfl
    rw [e]
    by_cases c : (bU D n).2 < (D n : Int)
    · rw [if_pos c]
      exact ⟨Int.natCast_nonneg _, Or.inr ⟨n, Nat.lt_succ_self n, rfl, rfl⟩⟩
    · rw [if_neg c]
      refine ⟨ih.1, ih.2.elim Or.inl (fun h => ?_)⟩
      obtain ⟨p, h1, h2, h3⟩ := h
      exact Or.inr ⟨p, Nat.lt_succ_of_lt h1, h2, h3⟩
section UNL
variable {N : Int} {σ : kM} {S : Nat → Int → Prop} {D : Nat → Nat}
theorem WI.congr {n : Nat} {w w' : Nat → Int} (h : WI n w S D) (hn : n ≤ 8) (hw : ∀ k : Nat, k < 16 → w' k = w k) : WI n w' S D := by
  intro p hp
  rw [hw (2 * p) (by omega), hw (2 * p + 1) (by omega)]
  exact h p hp
theorem c_unlike (h : WI N.toNat (σ 61) S D) (hn : 0 ≤ N ∧ N ≤ 8) (hD : ∀ p : Nat, D p < 1000) {p : Nat} (hp : (p : Int) < N) : pf_Oracle_unlikeScars_57 σ (p : Int) = some (D p : Int) := by
  have x1 : w32 ((p : Int) * 2) = ((2 * p : Nat) : Int) := by
    rw [w32_s (by omega) (by omega)]
    omega
  have x2 : w32 (((2 * p : Nat) : Int) + 1) = ((2 * p + 1 : Nat) : Int) := by
    rw [w32_s (by omega) (by omega)]
    omega
  have x3 : 0 ≤ ((2 * p : Nat) : Int) ∧ ((2 * p : Nat) : Int) < 16 := by omega
  have x4 : 0 ≤ ((2 * p + 1 : Nat) : Int) ∧ ((2 * p + 1 : Nat) : Int) < 16 := by omega
  have hDp := hD p
  obtain ⟨a, b, ha, hb, wa, wb, -, -, hc⟩ := h p (by omega)
  have hs : w32 ((bpc 64 a : Int) + (bpc 64 b : Int)) = (D p : Int) := by
    rw [← hc] at hDp ⊢
    clear hc
    generalize bpc 64 a = A at *
    generalize bpc 64 b = B at *
    rw [w32_s (by omega) (by omega)]
    omega
  unfold pf_Oracle_unlikeScars_57
  rw [x1, kchk_t x3, Int.toNat_natCast, wa, kbind_eq (c_bitCountL ha), x2, kchk_t x4, Int.toNat_natCast, wb, kbind_eq (c_bitCountL hb), hs]
theorem c_most (h : WI N.toNat (σ 61) S D) (hn : 0 ≤ N ∧ N ≤ 8) (hD : ∀ p : Nat, D p < 1000) (h3 : σ 3 1 = N) : pf_Oracle_mostUnlike_57 σ = some (bU D N.toNat).1 := by
  have hl := kl_V (body := fun st => pf_Oracle_mostUnlike_57_l6 σ st.1 st.2.1 st.2.2) (fun i => ((bU D i).1, (bU D i).2, (i : Int))) N.toNat (bU D N.toNat).1 (by omega) (fun i hi => by
    have ew := kw_inc (i := i) (by omega)
    have c0 : ¬ N ≤ (i : Int) := by omega
    have hu := c_unlike h hn hD (p := i) (by omega)
    have e : bU D (i + 1) = if (bU D i).2 < (D i : Int) then ((i : Int), (D i : Int)) else bU D i := rfl
    show pf_Oracle_mostUnlike_57_l6 σ (bU D i).1 (bU D i).2 (i : Int) = some (Sum.inl ((bU D (i + 1)).1, (bU D (i + 1)).2, ((i + 1 : Nat) : Int)))
    unfold pf_Oracle_mostUnlike_57_l6 pf_Oracle_mostUnlike_57_l6_j35
    rw [h3, if_neg c0, kbind_eq hu, klet_eq, ew, e]
    by_cases c : (bU D i).2 < (D i : Int)
    · rw [if_neg (Int.not_le.mpr c), if_pos c, klet_eq]
    · rw [if_pos (Int.not_lt.mp c), if_neg c]) (by
    show pf_Oracle_mostUnlike_57_l6 σ (bU D N.toNat).1 (bU D N.toNat).2 ((N.toNat : Nat) : Int) = _
    unfold pf_Oracle_mostUnlike_57_l6
    rw [h3, if_pos (by omega)]) (b0 := (-1, 0, 0)) rfl
  unfold pf_Oracle_mostUnlike_57
  rw [klet_eq, kbind_eq hl]
end UNL

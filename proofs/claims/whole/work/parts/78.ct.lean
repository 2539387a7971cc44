/-! counts of a year: who was hit by whom, how often; who read, who sat -/
def kbt (v p : Int) : Int := kand (kshr v p) 1
/-- what a reading of the poet w does to counts, ahead of the person i -/
def ctH (q : Nat → Int) (w : Int) (i : Nat) (s : Nat → Int) : Prop :=
  (0 ≤ s (197 + w).toNat ∧ s (197 + w).toNat < 256) ∧ (0 ≤ s 195 ∧ s 195 < 256) ∧ (s 195 = 0 ↔ s 196 = 0) ∧ (q 196 ≤ s 196 ∧ s 196 ≤ q 196 + (i : Int)) ∧ s 203 = q 203 + (s 196 - q 196) ∧
  (∀ p : Int, 0 ≤ p → p < 8 → ((i : Int) ≤ p → s (29 + 8 * w + p).toNat = q (29 + 8 * w + p).toNat ∧ kbt (s (197 + w).toNat) p = 0) ∧ ((s (29 + 8 * w + p).toNat = q (29 + 8 * w + p).toNat ∧ kbt (s (197 + w).toNat) p = 0) ∨ (s (29 + 8 * w + p).toNat = q (29 + 8 * w + p).toNat + 1 ∧ kbt (s (197 + w).toNat) p = 1))) ∧
  (∀ w' p : Int, 0 ≤ w' → w' < 4 → 0 ≤ p → p < 8 → w' ≠ w → s (29 + 8 * w' + p).toNat = q (29 + 8 * w' + p).toNat) ∧ (∀ k : Nat, k = 0 ∨ (153 ≤ k ∧ k < 161) → s k = q k) ∧ (∀ k : Nat, 197 ≤ k → k < 201 → k ≠ (197 + w).toNat → s k = q k)
section CT
variable {N M tp : Int} {L : Nat → Int} {PH PF PB : List Int} {q : Nat → Int}
theorem ct_hits {w l t d : Int} (hw0 : 0 ≤ w) (hw : w < 4) (hN : N ≤ 8) (hz : q (197 + w).toNat = 0) (h195 : 0 ≤ q 195 ∧ q 195 < 256) (hzz : q 195 = 0 ↔ q 196 = 0) (h196 : 0 ≤ q 196 ∧ q 196 < 1000000) (h203 : 0 ≤ q 203 ∧ q 203 < 1000000) (hb : ∀ p : Int, 0 ≤ p → p < 8 → 0 ≤ q (29 + 8 * w + p).toNat ∧ q (29 + 8 * w + p).toNat < 1000000) :
    ctH q w N.toNat (sp_hits N PH PF L w l t d q).1 := by
  unfold sp_hits
  refine kit_indN (P := fun i (s : (Nat → Int) × Int) => ctH q w i s.1) _ ?_ (fun i s hi hs => ?_)
  · show ctH q w 0 q
    refine ⟨by rw [hz]; omega, h195, hzz, by omega, by omega, fun p h0 h1 => ⟨fun _ => ⟨rfl, ?_⟩, Or.inl ⟨rfl, ?_⟩⟩, fun _ _ _ _ _ _ _ => rfl, fun _ _ => rfl, fun _ _ _ _ => rfl⟩
    · rw [hz]
      exact kb_0 h0 h1
    · rw [hz]
      exact kb_0 h0 h1
  · obtain ⟨a1, a2, a3, a4, a5, a6, a7, a8, a9⟩ := hs
    unfold sp_hit
    split
    · exact ⟨a1, a2, a3, by omega, a5, fun p h0 h1 => ⟨fun h => (a6 p h0 h1).1 (by omega), (a6 p h0 h1).2⟩, a7, a8, a9⟩
    · generalize hf : sp_in PH s.1 w (i : Int) t d = ii
      generalize min (sp_fi PF L s.1 w (i : Int) l ii) (s.1 (17 + w).toNat) = yy
      show ctH q w (i + 1) (sp_hq s.1 w (i : Int) ii yy)
      have e1 : sp_hq s.1 w (i : Int) ii yy (197 + w).toNat = kor (s.1 (197 + w).toNat) (kshl 1 (i : Int)) := by
        unfold sp_hq
        rw [kup_eq]
      have e2 : sp_hq s.1 w (i : Int) ii yy 195 = kor (s.1 195) (kshl 1 (i : Int)) := by
        unfold sp_hq
        simp (disch := omega) only [kup_eq, kup_ne]
      have e3 : sp_hq s.1 w (i : Int) ii yy 196 = s.1 196 + 1 := by
        unfold sp_hq
        simp (disch := omega) only [kup_eq, kup_ne]
        exact w32_s (by omega) (by omega)
      have e4 : sp_hq s.1 w (i : Int) ii yy 203 = s.1 203 + 1 := by
        unfold sp_hq
        simp (disch := omega) only [kup_eq, kup_ne]
        exact w32_s (by omega) (by omega)
      have e5 : sp_hq s.1 w (i : Int) ii yy (29 + 8 * w + (i : Int)).toNat = q (29 + 8 * w + (i : Int)).toNat + 1 := by
        unfold sp_hq
        simp (disch := omega) only [kup_eq, kup_ne]
        have h1 := ((a6 (i : Int) (by omega) (by omega)).1 (by omega)).1
        have h2 := hb (i : Int) (by omega) (by omega)
        rw [h1]
        exact w32_s (by omega) (by omega)
      have b1 := kb_or (p := (i : Int)) a1.1 a1.2 (by omega) (by omega)
      have b2 := kb_or (p := (i : Int)) a2.1 a2.2 (by omega) (by omega)
      have b3 := kb_bit (p := (i : Int)) (p' := (i : Int)) a2.1 a2.2 (by omega) (by omega) (by omega) (by omega)
      rw [if_pos rfl] at b3
      have b4 : kor (s.1 195) (kshl 1 (i : Int)) ≠ 0 := by
        intro h
        rw [h, kb_0 (by omega) (by omega)] at b3
        exact absurd b3 (by decide)
      refine ⟨by rw [e1]; exact b1, by rw [e2]; exact b2, by rw [e2, e3]; exact ⟨fun h => absurd h b4, fun h => absurd h (by omega)⟩, by rw [e3]; omega, by rw [e3, e4]; omega, fun p h0 h1 => ?_, fun w' p h0 h1 h2 h3 h4 => ?_, fun k hk => ?_, fun k hk1 hk2 hk3 => ?_⟩
      · rw [e1]
        have hbit := kb_bit (p := (i : Int)) (p' := p) a1.1 a1.2 (by omega) (by omega) h0 h1
        unfold kbt at *
        by_cases e : p = (i : Int)
        · subst e
          rw [if_pos rfl] at hbit
          exact ⟨fun h => absurd h (by omega), Or.inr ⟨e5, hbit⟩⟩
        · rw [if_neg e] at hbit
          have hne : sp_hq s.1 w (i : Int) ii yy (29 + 8 * w + p).toNat = s.1 (29 + 8 * w + p).toNat := sp_hq_ne (by omega) (by omega) (by omega) (by omega) (by omega) (by omega) (by omega) (by omega) (by omega)
          rw [hbit, hne]
          exact ⟨fun h => (a6 p h0 h1).1 (by omega), (a6 p h0 h1).2⟩
      · rw [sp_hq_ne (by omega) (by omega) (by omega) (by omega) (by omega) (by omega) (by omega) (by omega) (by omega)]
        exact a7 w' p h0 h1 h2 h3 h4
      · rw [sp_hq_ne (by omega) (by omega) (by omega) (by omega) (by omega) (by omega) (by omega) (by omega) (by omega)]
        exact a8 k hk
      · rw [sp_hq_ne (by omega) (by omega) (by omega) (by omega) (by omega) (by omega) hk3 (by omega) (by omega)]
        exact a9 k hk1 hk2 hk3
theorem sp_sells_ne {w : Int} (hw0 : 0 ≤ w) (hw : w < 4) (hN : N ≤ 8) {k : Nat} (hk : k = 0 ∨ (9 ≤ k ∧ k < 17) ∨ (21 ≤ k ∧ k < 149) ∨ 153 ≤ k) : sp_sells N PB w q k = q k := by
  unfold sp_sells
  refine kit_ind (P := fun (s : Nat → Int) => s k = q k) _ rfl (fun i s hi hs => ?_)
  unfold sp_sell
  split
  · exact hs
  · split
    · exact hs
    · unfold sp_s2
      split
      · rw [kup_ne (by omega)]
        exact hs
      · rw [kup_ne (by omega), kup_ne (by omega), kup_ne (by omega)]
        exact hs
/-- counts behind the poets ahead of n, in a year -/
def ctY (q : Nat → Int) (n : Nat) (s : Nat → Int) : Prop :=
  (0 ≤ s 195 ∧ s 195 < 256) ∧ (s 195 = 0 ↔ s 196 = 0) ∧ (0 ≤ s 196 ∧ s 196 ≤ 8 * (n : Int)) ∧ s 203 = q 203 + s 196 ∧ s 0 = q 0 ∧
  (∀ w p : Int, 0 ≤ w → w < 4 → 0 ≤ p → p < 8 → (w < (n : Int) → (s (29 + 8 * w + p).toNat = q (29 + 8 * w + p).toNat ∧ kbt (s (197 + w).toNat) p = 0) ∨ (s (29 + 8 * w + p).toNat = q (29 + 8 * w + p).toNat + 1 ∧ kbt (s (197 + w).toNat) p = 1)) ∧ ((n : Int) ≤ w → s (29 + 8 * w + p).toNat = q (29 + 8 * w + p).toNat)) ∧
  (∀ w : Int, 0 ≤ w → w < 4 → (w < (n : Int) → (s (153 + w).toNat = q (153 + w).toNat + 1 ∧ s (157 + w).toNat = q (157 + w).toNat) ∨ (s (153 + w).toNat = q (153 + w).toNat ∧ s (157 + w).toNat = q (157 + w).toNat + 1)) ∧ ((n : Int) ≤ w → s (153 + w).toNat = q (153 + w).toNat ∧ s (157 + w).toNat = q (157 + w).toNat))
def ctB (q : Nat → Int) : Prop := (0 ≤ q 203 ∧ q 203 < 900000) ∧ (∀ w p : Int, 0 ≤ w → w < 4 → 0 ≤ p → p < 8 → 0 ≤ q (29 + 8 * w + p).toNat ∧ q (29 + 8 * w + p).toNat < 900000) ∧ (∀ w : Int, 0 ≤ w → w < 4 → (0 ≤ q (153 + w).toNat ∧ q (153 + w).toNat < 900000) ∧ (0 ≤ q (157 + w).toNat ∧ q (157 + w).toNat < 900000)) ∧ (0 ≤ q 0 ∧ q 0 < 900000)
theorem ct_poet {s : Nat → Int} {n : Nat} {acc : Int} (hB : ctB q) (hs : ctY q n s) (hn : (n : Int) < 4) (hN : N ≤ 8) : ctY q (n + 1) (sp_poet N PH PF PB L acc (n : Int) s) := by
  obtain ⟨b1, b2, b3, b4⟩ := hB
  obtain ⟨a1, a2, a3, a4, a5, a6, a7⟩ := hs
  unfold sp_poet
  have e0 : ∀ k : Nat, k ≠ (197 + (n : Int)).toNat → kup s (197 + (n : Int)).toNat 0 k = s k := fun k hk => kup_ne hk
  have e1 : kup s (197 + (n : Int)).toNat 0 (197 + (n : Int)).toNat = 0 := kup_eq _ _ _
  generalize kup s (197 + (n : Int)).toNat 0 = s0 at e0 e1
  split
  · unfold sp_read
    have f0 : ∀ k : Nat, k = 0 ∨ (21 ≤ k ∧ k < 149) ∨ 153 ≤ k → sp_sells N PB (n : Int) s0 k = s0 k := fun k hk => sp_sells_ne (by omega) hn hN (by omega)
    generalize sp_sells N PB (n : Int) s0 = s1 at f0
    have hH := ct_hits (q := s1) (N := N) (PH := PH) (PF := PF) (L := L) (w := (n : Int)) (l := s1 (21 + (n : Int)).toNat) (t := s1 (65 + 6 * (n : Int) + s1 (21 + (n : Int)).toNat).toNat) (d := if acc = 0 then s1 (89 + 6 * (n : Int) + s1 (21 + (n : Int)).toNat).toNat else 9) (by omega) hn hN
      (by rw [f0 _ (by omega), e1]) (by rw [f0 _ (by omega), e0 _ (by omega)]; exact a1) (by rw [f0 _ (by omega), e0 _ (by omega), f0 _ (by omega), e0 _ (by omega)]; exact a2) (by rw [f0 _ (by omega), e0 _ (by omega)]; omega) (by rw [f0 _ (by omega), e0 _ (by omega), a4]; omega)
      (fun p h0 h1 => by rw [f0 _ (by omega), e0 _ (by omega), (a6 (n : Int) p (by omega) hn h0 h1).2 (by omega)]; have := b2 (n : Int) p (by omega) hn h0 h1; omega)
    generalize sp_hits N PH PF L (n : Int) (s1 (21 + (n : Int)).toNat) (s1 (65 + 6 * (n : Int) + s1 (21 + (n : Int)).toNat).toNat) (if acc = 0 then s1 (89 + 6 * (n : Int) + s1 (21 + (n : Int)).toNat).toNat else 9) s1 = r at hH
    obtain ⟨c1, c2, c3, c4, c5, c6, c7, c8, c9⟩ := hH
    have g0 : ∀ k : Nat, k = 0 ∨ (29 ≤ k ∧ k < 153) ∨ 157 ≤ k → sp_rd2 L (n : Int) (s1 (21 + (n : Int)).toNat) r k = r.1 k := by
      intro k hk
      unfold sp_rd2
      rw [kup_ne (by omega), kup_ne (by omega), kup_ne (by omega)]
    have g1 : ∀ w : Int, 0 ≤ w → w < 4 → sp_rd2 L (n : Int) (s1 (21 + (n : Int)).toNat) r (153 + w).toNat = if w = (n : Int) then r.1 (153 + w).toNat + 1 else r.1 (153 + w).toNat := by
      intro w h0 h1
      unfold sp_rd2
      rw [kup_ne (by omega)]
      by_cases e : w = (n : Int)
      · subst e
        rw [kup_eq, if_pos rfl]
        have h2 := (b3 (n : Int) h0 h1).1
        have h3 := (a7 (n : Int) h0 h1).2 (by omega)
        rw [c8 _ (by omega), f0 _ (by omega), e0 _ (by omega), h3.1]
        exact w32_s (by omega) (by omega)
      · rw [kup_ne (by omega), kup_ne (by omega), if_neg e]
    generalize sp_rd2 L (n : Int) (s1 (21 + (n : Int)).toNat) r = x at g0 g1
    have h196 : s1 196 = s 196 := by rw [f0 _ (by omega), e0 _ (by omega)]
    have h203 : s1 203 = s 203 := by rw [f0 _ (by omega), e0 _ (by omega)]
    refine ⟨by rw [g0 _ (by omega)]; exact c2, by rw [g0 _ (by omega), g0 _ (by omega)]; exact c3, by rw [g0 _ (by omega)]; omega, by rw [g0 _ (by omega), g0 _ (by omega)]; omega, by rw [g0 _ (by omega), c8 _ (by omega), f0 _ (by omega), e0 _ (by omega)]; exact a5, fun w p h0 h1 h2 h3 => ?_, fun w h0 h1 => ?_⟩
    · rw [g0 _ (by omega), g0 _ (by omega)]
      by_cases e : w = (n : Int)
      · subst e
        have h4 := (c6 p h2 h3).2
        rw [f0 _ (by omega), e0 _ (by omega), (a6 (n : Int) p h0 h1 h2 h3).2 (by omega)] at h4
        exact ⟨fun _ => h4, fun h => absurd h (by omega)⟩
      · rw [c7 w p h0 h1 h2 h3 e, f0 _ (by omega), e0 _ (by omega), c9 _ (by omega) (by omega) (by omega), f0 _ (by omega), e0 _ (by omega)]
        exact ⟨fun h => (a6 w p h0 h1 h2 h3).1 (by omega), fun h => (a6 w p h0 h1 h2 h3).2 (by omega)⟩
    · rw [g1 w h0 h1, g0 _ (by omega), c8 _ (by omega), c8 _ (by omega), f0 _ (by omega), e0 _ (by omega), f0 _ (by omega), e0 _ (by omega)]
      by_cases e : w = (n : Int)
      · subst e
        rw [if_pos rfl]
        have h4 := (a7 (n : Int) h0 h1).2 (by omega)
        exact ⟨fun _ => Or.inl (by omega), fun h => absurd h (by omega)⟩
      · rw [if_neg e]
        exact ⟨fun h => (a7 w h0 h1).1 (by omega), fun h => (a7 w h0 h1).2 (by omega)⟩
  · have g0 : ∀ k : Nat, k = 0 ∨ (29 ≤ k ∧ k < 157) ∨ 161 ≤ k → sp_sit (n : Int) s0 k = s0 k := by
      intro k hk
      unfold sp_sit
      rw [kup_ne (by omega), kup_ne (by omega)]
    have g1 : ∀ w : Int, 0 ≤ w → w < 4 → sp_sit (n : Int) s0 (157 + w).toNat = if w = (n : Int) then s0 (157 + w).toNat + 1 else s0 (157 + w).toNat := by
      intro w h0 h1
      unfold sp_sit
      by_cases e : w = (n : Int)
      · subst e
        rw [kup_eq, if_pos rfl]
        have h2 := (b3 (n : Int) h0 h1).2
        have h3 := (a7 (n : Int) h0 h1).2 (by omega)
        rw [e0 _ (by omega), h3.2]
        exact w32_s (by omega) (by omega)
      · rw [kup_ne (by omega), kup_ne (by omega), if_neg e]
    generalize sp_sit (n : Int) s0 = x at g0 g1
    refine ⟨by rw [g0 _ (by omega), e0 _ (by omega)]; exact a1, by rw [g0 _ (by omega), g0 _ (by omega), e0 _ (by omega), e0 _ (by omega)]; exact a2, by rw [g0 _ (by omega), e0 _ (by omega)]; omega, by rw [g0 _ (by omega), g0 _ (by omega), e0 _ (by omega), e0 _ (by omega)]; exact a4, by rw [g0 _ (by omega), e0 _ (by omega)]; exact a5, fun w p h0 h1 h2 h3 => ?_, fun w h0 h1 => ?_⟩
    · rw [g0 _ (by omega), g0 _ (by omega), e0 _ (by omega)]
      by_cases e : w = (n : Int)
      · subst e
        rw [e1]
        exact ⟨fun _ => Or.inl ⟨(a6 (n : Int) p h0 h1 h2 h3).2 (by omega), kb_0 h2 h3⟩, fun h => absurd h (by omega)⟩
      · rw [e0 _ (by omega)]
        exact ⟨fun h => (a6 w p h0 h1 h2 h3).1 (by omega), fun h => (a6 w p h0 h1 h2 h3).2 (by omega)⟩
    · rw [g1 w h0 h1, g0 _ (by omega), e0 _ (by omega), e0 _ (by omega)]
      by_cases e : w = (n : Int)
      · subst e
        rw [if_pos rfl]
        have h4 := (a7 (n : Int) h0 h1).2 (by omega)
        exact ⟨fun _ => Or.inr (by omega), fun h => absurd h (by omega)⟩
      · rw [if_neg e]
        exact ⟨fun h => (a7 w h0 h1).1 (by omega), fun h => (a7 w h0 h1).2 (by omega)⟩
theorem ct_year1 {acc : Int} (hB : ctB q) (hE : EN N M tp L PH PF PB) : ctY q M.toNat (kup (sp_year N M PH PF PB L acc q) 0 (q 0)) ∧ sp_year N M PH PF PB L acc q 0 = q 0 + 1 := by
  obtain ⟨n1, n2, n3, n4, -⟩ := hE
  unfold sp_year
  have h1 : ctY q M.toNat (kit (fun i q => sp_poet N PH PF PB L acc (i : Int) q) M.toNat (kup (kup q 195 0) 196 0)) := by
    refine kit_indN (P := fun n s => ctY q n s) _ ?_ (fun i s hi hs => ct_poet hB hs (by omega) n1.2)
    have e0 : ∀ k : Nat, k ≠ 195 → k ≠ 196 → kup (kup q 195 0) 196 0 k = q k := fun k h1 h2 => by rw [kup_ne h2, kup_ne h1]
    have e1 : kup (kup q 195 0) 196 0 195 = 0 := by rw [kup_ne (by decide), kup_eq]
    have e2 : kup (kup q 195 0) 196 0 196 = 0 := kup_eq _ _ _
    generalize kup (kup q 195 0) 196 0 = s at e0 e1 e2
    refine ⟨by rw [e1]; omega, by rw [e1, e2], by rw [e2]; omega, by rw [e2, e0 _ (by decide) (by decide)]; omega, e0 _ (by decide) (by decide), fun w p h0 h1 h2 h3 => ⟨fun h => absurd h (by omega), fun _ => e0 _ (by omega) (by omega)⟩, fun w h0 h1 => ⟨fun h => absurd h (by omega), fun _ => ⟨e0 _ (by omega) (by omega), e0 _ (by omega) (by omega)⟩⟩⟩
  generalize kit (fun i q => sp_poet N PH PF PB L acc (i : Int) q) M.toNat (kup (kup q 195 0) 196 0) = r at h1
  obtain ⟨a1, a2, a3, a4, a5, a6, a7⟩ := h1
  have g0 : ∀ k : Nat, k ≠ 0 → k ≠ 201 → k ≠ 202 → kup (sp_end r) 0 (q 0) k = r k := by
    intro k h1 h2 h3
    unfold sp_end
    rw [kup_ne h1, kup_ne h3, kup_ne h2, kup_ne h1]
  have g1 : sp_end r 0 = q 0 + 1 := by
    unfold sp_end
    rw [kup_ne (by decide), kup_ne (by decide), kup_eq, a5]
    have := hB.2.2.2
    exact w32_s (by omega) (by omega)
  refine ⟨⟨by rw [g0 _ (by decide) (by decide) (by decide)]; exact a1, by rw [g0 _ (by decide) (by decide) (by decide), g0 _ (by decide) (by decide) (by decide)]; exact a2, by rw [g0 _ (by decide) (by decide) (by decide)]; exact a3, by rw [g0 _ (by decide) (by decide) (by decide), g0 _ (by decide) (by decide) (by decide)]; exact a4, kup_eq _ _ _, fun w p h0 h1 h2 h3 => ?_, fun w h0 h1 => ?_⟩, g1⟩
  · rw [g0 _ (by omega) (by omega) (by omega), g0 _ (by omega) (by omega) (by omega)]
    exact a6 w p h0 h1 h2 h3
  · rw [g0 _ (by omega) (by omega) (by omega), g0 _ (by omega) (by omega) (by omega)]
    exact a7 w h0 h1
end CT
/-- hits are as many as years, at most -/
def HB (Y : Int) (q : Nat → Int) : Prop := (0 ≤ q 0 ∧ q 0 ≤ Y) ∧ ∀ w p : Int, 0 ≤ w → w < 4 → 0 ≤ p → p < 8 → 0 ≤ q (29 + 8 * w + p).toNat ∧ q (29 + 8 * w + p).toNat ≤ q 0
theorem HB.congr {Y : Int} {q q' : Nat → Int} (h : HB Y q) (hq : ∀ k : Nat, k < 145 → q' k = q k) : HB Y q' := by
  refine ⟨by rw [hq _ (by omega)]; exact h.1, fun w p h0 h1 h2 h3 => ?_⟩
  rw [hq _ (by omega), hq _ (by omega)]
  exact h.2 w p h0 h1 h2 h3
theorem IV.congr {M tp : Int} {L : Nat → Int} {q q' : Nat → Int} (h : IV M tp L q) (hq : ∀ k : Nat, k < 145 → q' k = q k) : IV M tp L q' := by
  intro k hk
  rw [hq k hk]
  exact h k hk
/-- a year's row, whatever the counters are -/
theorem HB.year {N M tp : Int} {L : Nat → Int} {PH PF PB : List Int} {q : Nat → Int} {Y : Int} {acc : Int} (h : HB Y q) (hY : Y < 800000) (hI : IV M tp L q) (hE : EN N M tp L PH PF PB) : HB (Y + 1) (sp_year N M PH PF PB L acc q) := by
  have hag : agr (fun k => k < 145) (fun k => if k < 145 then q k else 0) q := fun k hk => if_pos hk
  have hz := hag.year (fun k hk => hk) (hI.congr (fun k hk => if_pos hk)) hE acc
  have hB : ctB (fun k => if k < 145 then q k else 0) := by
    refine ⟨by simp, fun w p h0 h1 h2 h3 => ?_, fun w h0 h1 => ?_, ?_⟩
    · have := h.2 w p h0 h1 h2 h3
      have := h.1
      dsimp only
      rw [if_pos (by omega)]
      omega
    · dsimp only
      rw [if_neg (by omega), if_neg (by omega)]
      omega
    · have := h.1
      dsimp only
      rw [if_pos (by omega)]
      omega
  obtain ⟨c1, c2⟩ := ct_year1 (acc := acc) hB hE
  have c2 : sp_year N M PH PF PB L acc (fun k => if k < 145 then q k else 0) 0 = q 0 + 1 := c2
  have h0 := hz 0 (Or.inl (by omega))
  refine ⟨by rw [← h0, c2]; have := h.1; omega, fun w p h0' h1 h2 h3 => ?_⟩
  rw [← h0, c2, ← hz (29 + 8 * w + p).toNat (Or.inl (by omega))]
  have c3 := c1.2.2.2.2.2.1 w p h0' h1 h2 h3
  rw [kup_ne (show (29 + 8 * w + p).toNat ≠ 0 by omega)] at c3
  have h4 := h.2 w p h0' h1 h2 h3
  have e4 : (if (29 + 8 * w + p).toNat < 145 then q (29 + 8 * w + p).toNat else 0) = q (29 + 8 * w + p).toNat := if_pos (by omega)
  dsimp only at c3
  rw [e4] at c3
  by_cases hw : w < (M.toNat : Int)
  · have := c3.1 hw
    omega
  · have := c3.2 (by omega)
    omega

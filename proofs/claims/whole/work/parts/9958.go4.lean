/-! state: the reference's next token -/
def m_gt (σ : kM) (r : Int) : Option (kM) :=
  if (σ 0 14) < (σ 0 13) then
    (mm_isLetter σ r).bind fun r_14 =>
    if r_14 = 0 then
      (mm_isDigit σ r).bind fun r_15 =>
      if r_15 = 0 then
        klet (kst σ 0 (kup (σ 0) 14 (w32 ((σ 0 14) + 1)))) fun σ_16 =>
        if r = 59 then
          mm_goes_j323 σ_16
        else
          if r = 40 then
            mm_goes_j323 σ_16
          else
            if r = 41 then
              mm_goes_j323 σ_16
            else
              if r = 43 then
                mm_goes_j323 σ_16
              else
                if r = 45 then
                  mm_goes_j323 σ_16
                else
                  if r = 42 then
                    mm_goes_j323 σ_16
                  else
                    if r = 47 then
                      mm_goes_j323 σ_16
                    else
                      if r = 60 then
                        mm_goes_j323 σ_16
                      else
                        if r = 61 then
                          mm_goes_j323 σ_16
                        else
                          mm_goes_j328 σ_16 4
      else
        (kloop (fun st => mm_goes_l187 st) kFuel σ).bind fun σ_29 =>
        klet (kst σ_29 0 (kup (σ_29 0) 15 2)) fun σ_30 =>
        mm_goes_j331 σ_30
    else
      (kloop (fun st => mm_goes_l108 st) kFuel σ).bind fun σ_42 =>
      klet (kst σ_42 0 (kup (σ_42 0) 15 1)) fun σ_43 =>
      mm_goes_j331 σ_43
  else
    klet (kst σ 0 (kup (σ 0) 15 0)) fun σ_45 =>
    mm_goes_j331 σ_45
def TMs (T : Nat → Int) (n s e : Nat) (f : Nat → Int) : Prop := f 16 = (s : Int) ∧ f 14 = (e : Int) ∧ (n ≤ s → f 15 = 0) ∧ (s < n → (pL (T s) = true → f 15 = 1 ∧ f 17 = ((e - s : Nat) : Int) ∧ (e - s ≤ 6 → f 20 = zpk (fun j => T (s + j)) (e - s))) ∧ (pD (T s) = true → f 15 = 2 ∧ f 17 = ((e - s : Nat) : Int) ∧ f 18 = zvM T s (e - s)) ∧ (¬ pL (T s) = true → ¬ pD (T s) = true → (pG (T s) = true → f 15 = 3 ∧ f 19 = T s) ∧ (¬ pG (T s) = true → f 15 = 4)))
section GT
variable {T : Nat → Int} {n : Nat} {μ : kM} {f : Nat → Int}
theorem m_j331 {s e : Nat} (h : s ≤ e) (he : e ≤ 700) (h14 : f 14 = (e : Int)) (h16 : f 16 = (s : Int)) : mm_goes_j331 (kst μ 0 f) = some (kst μ 0 (kup f 17 ((e - s : Nat) : Int))) := by
  have ed : w32 ((e : Int) - (s : Int)) = ((e - s : Nat) : Int) := by
    rw [w32_s (by omega) (by omega)]
    omega
  unfold mm_goes_j331
  rw [klet_eq, kst_eq, kst_st, h14, h16, ed]
theorem m_gt_of (hn : n ≤ 700) (ht : tpM T n μ) {s e : Nat} (hs : s ≤ n) (he : e = tE T n s) (hf : f 13 = (n : Int) ∧ f 14 = (s : Int) ∧ f 16 = (s : Int) ∧ f 18 = 0 ∧ f 19 = bA T n s ∧ f 20 = 0) : ∃ g, m_gt (kst μ 0 f) (bA T n s) = some (kst μ 0 g) ∧ (∀ j : Nat, j < 14 ∨ 20 < j → g j = f j) ∧ TMs T n s e g := by
  obtain ⟨h13, h14, h16, h18, h19, h20⟩ := hf
  unfold m_gt
  rw [kst_eq, h13, h14]
  by_cases c : s < n
  · have hE := tE_ge (T := T) c
    rw [← he] at hE
    obtain ⟨g1, g2⟩ := hE
    have cn : ¬ n ≤ s := by omega
    have c0 : (s : Int) < (n : Int) := by omega
    have e7 : e ≤ 700 := by omega
    have es : s ≤ e := by omega
    have s7 : s < 2000000000 := by omega
    have ss : s - s = 0 := by omega
    have eb : bA T n s = T s := by unfold bA; rw [if_pos c]
    rw [if_pos c0, eb, kbind_eq m_isL]
    rw [eb] at h19
    by_cases cL : pL (T s) = true
    · have hN : tN pL T n s = e := by rw [he, (tE_L c cL).1, tN_go c cL]
      obtain ⟨g, b1, b2, b3, b4⟩ := m_lettersL (s := s) hn ht _ s rfl hs (Nat.le_refl _) (fun j a b => absurd b (Nat.not_lt.mpr a)) f h13 h14 h16 (by rw [ss]; exact h20) kFuel (kFuel_lt (by clear hN he h18 h19 h20; omega))
      rw [hN] at b2 b3
      rw [if_pos cL, if_neg (by decide), kbind_eq b1, klet_eq, kst_eq, kst_st, m_j331 es e7 (by rw [kup_ne (by decide)]; exact b2) (by rw [kup_ne (by decide), b4 16 (by decide) (by decide)]; exact h16)]
      refine ⟨_, rfl, fun j hj => ?_, ?_, ?_, fun x => absurd x cn, fun _ => ⟨fun _ => ⟨?_, ?_, fun h6 => ?_⟩, fun x => absurd x (pLD cL), fun x => absurd cL x⟩⟩
      · rw [kup_ne (by rcases hj with h | h <;> omega), kup_ne (by rcases hj with h | h <;> omega), b4 j (by rcases hj with h | h <;> omega) (by rcases hj with h | h <;> omega)]
      · rw [kup_ne (by decide), kup_ne (by decide), b4 16 (by decide) (by decide)]
        exact h16
      · rw [kup_ne (by decide), kup_ne (by decide)]
        exact b2
      · rw [kup_ne (by decide), kup_eq]
      · rw [kup_eq]
      · rw [kup_ne (by decide), kup_ne (by decide), b3, Nat.min_eq_left h6]
    · rw [if_neg cL, if_pos rfl, kbind_eq m_isD]
      by_cases cD : pD (T s) = true
      · have hN : tN pD T n s = e := by rw [he, (tE_D c cD).1, tN_go c cD]
        obtain ⟨g, b1, b2, b3, b4⟩ := m_digits (s := s) hn ht _ s rfl hs (Nat.le_refl _) (fun j a b => absurd b (Nat.not_lt.mpr a)) f h13 h14 h16 (by rw [ss]; exact h18) kFuel (kFuel_lt (by clear hN he h18 h19 h20; omega))
        rw [hN] at b2 b3
        rw [if_pos cD, if_neg (by decide), kbind_eq b1, klet_eq, kst_eq, kst_st, m_j331 es e7 (by rw [kup_ne (by decide)]; exact b2) (by rw [kup_ne (by decide), b4 16 (by decide) (by decide)]; exact h16)]
        refine ⟨_, rfl, fun j hj => ?_, ?_, ?_, fun x => absurd x cn, fun _ => ⟨fun x => absurd x cL, fun _ => ⟨?_, ?_, ?_⟩, fun _ x => absurd cD x⟩⟩
        · rw [kup_ne (by rcases hj with h | h <;> omega), kup_ne (by rcases hj with h | h <;> omega), b4 j (by rcases hj with h | h <;> omega) (by rcases hj with h | h <;> omega)]
        · rw [kup_ne (by decide), kup_ne (by decide), b4 16 (by decide) (by decide)]
          exact h16
        · rw [kup_ne (by decide), kup_ne (by decide)]
          exact b2
        · rw [kup_ne (by decide), kup_eq]
        · rw [kup_eq]
        · rw [kup_ne (by decide), kup_ne (by decide), b3]
      · have hO : e = s + 1 := by rw [he, tE_O c cL cD]
        have ew := kw_inc (i := s) s7
        have hfin : ∀ v : Int, mm_goes_j328 (kst μ 0 (kup f 14 ((s + 1 : Nat) : Int))) v = some (kst μ 0 (kup (kup (kup f 14 ((s + 1 : Nat) : Int)) 15 v) 17 ((e - s : Nat) : Int))) := by
          intro v
          unfold mm_goes_j328
          rw [klet_eq, kst_eq, kst_st, m_j331 es e7 (by rw [kup_ne (by decide), kup_eq, hO]) (by rw [kup_ne (by decide), kup_ne (by decide)]; exact h16)]
        have hfr : ∀ (v : Int) (j : Nat), j < 14 ∨ 20 < j → kup (kup (kup f 14 ((s + 1 : Nat) : Int)) 15 v) 17 ((e - s : Nat) : Int) j = f j := by
          intro v j hj
          rw [kup_ne (by rcases hj with h | h <;> omega), kup_ne (by rcases hj with h | h <;> omega), kup_ne (by rcases hj with h | h <;> omega)]
        have hrest : ∀ v : Int, (pG (T s) = true → v = 3) → (¬ pG (T s) = true → v = 4) → TMs T n s e (kup (kup (kup f 14 ((s + 1 : Nat) : Int)) 15 v) 17 ((e - s : Nat) : Int)) := by
          intro v v1 v2
          refine ⟨?_, ?_, fun x => absurd x cn, fun _ => ⟨fun x => absurd x cL, fun x => absurd x cD, fun _ _ => ⟨fun x => ⟨?_, ?_⟩, fun x => ?_⟩⟩⟩
          · rw [kup_ne (by decide), kup_ne (by decide), kup_ne (by decide)]
            exact h16
          · rw [kup_ne (by decide), kup_ne (by decide), kup_eq, hO]
          · rw [kup_ne (by decide), kup_eq]
            exact v1 x
          · rw [kup_ne (by decide), kup_ne (by decide), kup_ne (by decide)]
            exact h19
          · rw [kup_ne (by decide), kup_eq]
            exact v2 x
        rw [if_neg cD, if_pos rfl, klet_eq, ew, kst_st]
        by_cases cG : pG (T s) = true
        · refine ⟨_, ?_, hfr 3, hrest 3 (fun _ => rfl) (fun x => absurd cG x)⟩
          have hj : ∀ σ : kM, mm_goes_j323 σ = mm_goes_j328 σ 3 := fun _ => rfl
          rw [hj, hfin]
          have hg := pG_t.mp cG
          by_cases d1 : T s = 59
          · rw [if_pos d1]
          rw [if_neg d1]
          by_cases d2 : T s = 40
          · rw [if_pos d2]
          rw [if_neg d2]
          by_cases d3 : T s = 41
          · rw [if_pos d3]
          rw [if_neg d3]
          by_cases d4 : T s = 43
          · rw [if_pos d4]
          rw [if_neg d4]
          by_cases d5 : T s = 45
          · rw [if_pos d5]
          rw [if_neg d5]
          by_cases d6 : T s = 42
          · rw [if_pos d6]
          rw [if_neg d6]
          by_cases d7 : T s = 47
          · rw [if_pos d7]
          rw [if_neg d7]
          by_cases d8 : T s = 60
          · rw [if_pos d8]
          rw [if_neg d8]
          have d9 : T s = 61 := by
            rcases hg with h | h | h | h | h | h | h | h | h <;> first | exact h | exact absurd h (by assumption)
          rw [if_pos d9]
        · refine ⟨_, ?_, hfr 4, hrest 4 (fun x => absurd x cG) (fun _ => rfl)⟩
          have hg : ∀ v : Int, pG v = true → ¬ T s = v := fun v hv x => cG (by rw [x]; exact hv)
          rw [if_neg (hg 59 (by decide)), if_neg (hg 40 (by decide)), if_neg (hg 41 (by decide)), if_neg (hg 43 (by decide)), if_neg (hg 45 (by decide)), if_neg (hg 42 (by decide)), if_neg (hg 47 (by decide)), if_neg (hg 60 (by decide)), if_neg (hg 61 (by decide)), hfin]
  · have c0 : ¬ (s : Int) < (n : Int) := by omega
    have es : s = n := by omega
    have s7 : s ≤ 700 := by omega
    have ee : e = s := by
      rw [he, es]
      unfold tE
      rw [if_pos (Nat.le_refl _)]
    rw [if_neg c0, klet_eq, kst_st, m_j331 (Nat.le_refl s) s7 (by rw [kup_ne (by decide)]; exact h14) (by rw [kup_ne (by decide)]; exact h16)]
    refine ⟨_, rfl, fun j hj => ?_, ?_, ?_, fun _ => ?_, fun x => absurd x c⟩
    · rw [kup_ne (by rcases hj with h | h <;> omega), kup_ne (by rcases hj with h | h <;> omega)]
    · rw [kup_ne (by decide), kup_ne (by decide)]
      exact h16
    · rw [kup_ne (by decide), kup_ne (by decide), ee]
      exact h14
    · rw [kup_ne (by decide), kup_eq]
theorem m_goes_of (hn : n ≤ 700) (ht : tpM T n μ) {p : Nat} (hp : p ≤ n) (h13 : μ 0 13 = (n : Int)) (h14 : μ 0 14 = (p : Int)) : ∃ g, mm_goes μ = some (kst μ 0 g) ∧ (∀ j : Nat, j < 14 ∨ 20 < j → g j = μ 0 j) ∧ TMs T n (tN pB T n p) (tE T n (tN pB T n p)) g := by
  have hl := m_blank (μ := μ) hn ht _ p rfl hp (μ 0) h13 h14 kFuel (kFuel_lt (by omega))
  rw [kst_id] at hl
  have hs := tN_le pB T (n := n) hp
  generalize tN pB T n p = s at hl hs
  have hb := m_byteAt (μ := kst μ 0 (kup (kup (kup (kup (μ 0) 14 (s : Int)) 16 (s : Int)) 20 0) 18 0)) (k := s) hn ht.kst0 (by rw [kst_eq, kup_ne (by decide), kup_ne (by decide), kup_ne (by decide), kup_ne (by decide)]; exact h13)
  have e0 : mm_goes μ = m_gt (kst μ 0 (kup (kup (kup (kup (kup (μ 0) 14 (s : Int)) 16 (s : Int)) 20 0) 18 0) 19 (bA T n s))) (bA T n s) := by
    unfold mm_goes m_gt
    rw [kbind_eq hl, klet_eq, klet_eq, klet_eq, kst_eq, kst_st, kup_eq, kst_eq, kst_st, kst_eq, kst_st, kst_eq, kup_ne (show (14 : Nat) ≠ 18 by decide), kup_ne (show (14 : Nat) ≠ 20 by decide), kup_ne (show (14 : Nat) ≠ 16 by decide), kup_eq, kbind_eq hb, klet_eq, kst_st]
  obtain ⟨g, a1, a2, a3⟩ := m_gt_of (f := kup (kup (kup (kup (kup (μ 0) 14 (s : Int)) 16 (s : Int)) 20 0) 18 0) 19 (bA T n s)) hn ht hs rfl ⟨by rw [kup_ne (by decide), kup_ne (by decide), kup_ne (by decide), kup_ne (by decide), kup_ne (by decide)]; exact h13, by rw [kup_ne (by decide), kup_ne (by decide), kup_ne (by decide), kup_ne (by decide), kup_eq], by rw [kup_ne (by decide), kup_ne (by decide), kup_ne (by decide), kup_eq], by rw [kup_ne (by decide), kup_eq], by rw [kup_eq], by rw [kup_ne (by decide), kup_ne (by decide), kup_eq]⟩
  refine ⟨g, by rw [e0, a1], fun j hj => ?_, a3⟩
  rw [a2 j hj, kup_ne (by rcases hj with h | h <;> omega), kup_ne (by rcases hj with h | h <;> omega), kup_ne (by rcases hj with h | h <;> omega), kup_ne (by rcases hj with h | h <;> omega), kup_ne (by rcases hj with h | h <;> omega)]
end GT

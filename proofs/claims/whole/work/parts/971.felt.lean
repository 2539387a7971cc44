/-! CALLS: truths, listen. What is felt; whether a topic matters -/
theorem rv_at_get {f : Nat → Int} : ∀ (P : List Int) (k j : Nat) (hj : j < P.length), rv_at f k P → f (k + j) = P[j] := by
  intro P
  induction P with
  | nil => intro k j hj _; exact absurd hj (Nat.not_lt_zero _)
  | cons c P ih =>
    intro k j hj h
    obtain ⟨h1, h2⟩ := h
    cases j with
    | zero => exact h1
    | succ j =>
      have h3 := ih (k + 1) j (by simpa using hj) h2
      rw [show k + (j + 1) = k + 1 + j by omega]
      simpa using h3
/-- all that is felt of the year k is so, if these are hit -/
def fA (f : Int) (F : Nat → Int) (h k : Int) : Prop := ∀ i : Nat, (i : Int) < f → F (3 * i + 1) = k → kand (kshr h (F (3 * i))) 1 = F (3 * i + 2)
def tH (N M : Int) (PH PF PB : List Int) (L : Nat → Int) (f : Int) (F : Nat → Int) (n : Nat) (q : Nat → Int) : Prop := ∀ k : Nat, 1 ≤ k → k ≤ n → fA f F (yrs N M PH PF PB L k q 195) (k : Int)
/-- the class's rows of what is felt -/
def CF (σ : kM) (f : Int) (F : Nat → Int) : Prop := σ 29 4 = f ∧ (0 ≤ f ∧ f ≤ 8) ∧ ∀ i : Nat, (i : Int) < f → (σ 33 i = F (3 * i) ∧ σ 34 i = F (3 * i + 1) ∧ σ 35 i = F (3 * i + 2)) ∧ (0 ≤ F (3 * i) ∧ F (3 * i) < 8) ∧ 1 ≤ F (3 * i + 1) ∧ F (3 * i + 1) ≤ 20
/-- all but the trial's own -/
def frF (σ σ' : kM) : Prop := ∀ c : Nat, c < 11 ∨ (12 ≤ c ∧ c ≤ 58) ∨ (61 ≤ c ∧ c ≤ 64) ∨ 71 ≤ c → σ' c = σ c
theorem frF.rfl {σ : kM} : frF σ σ := fun _ _ => Eq.refl _
theorem frF.trans {σ σ' σ'' : kM} (h : frF σ σ') (h' : frF σ' σ'') : frF σ σ'' := fun c hc => (h' c hc).trans (h c hc)
theorem frF.fr64 {σ σ' : kM} (h : fr64 σ σ') : frF σ σ' := fun c hc => h c (by omega) (by omega) (by omega) (by omega) (by omega) (by omega) (by omega) (by omega)
theorem frF.kp {σ σ' : kM} (h : frF σ σ') : kpC σ σ' := fun c hc => h c (by omega)
theorem frF.put60 {σ : kM} {g : Nat → Int} : frF σ (kst σ 60 g) := fun c hc => kst_ne (by omega)
theorem CF.kp {σ σ' : kM} {f : Int} {F : Nat → Int} (h : CF σ f F) (hk : kpC σ σ') : CF σ' f F := by
  unfold CF at *
  rw [hk 29 (by decide), hk 33 (by decide), hk 34 (by decide), hk 35 (by decide)]
  exact h
section FELT
variable {N M tp : Int} {L : Nat → Int} {PH PF PB : List Int} {σ σ' μ μ' : kM} {q q' : Nat → Int} {f : Int} {F : Nat → Int}
theorem c_mentions {P : List Int} (h : rv_pC σ 0 P) : ∃ r, pf_Rules_mentions_7 σ 0 5 = some r ∧ (r = 1 ∨ r = 0 ∧ (-6 : Int) ∉ P) := by
  obtain ⟨k, h1, h2, h3, h4⟩ := h
  unfold pf_Rules_mentions_7
  have z : (0 : Int).toNat = 0 := rfl
  rw [kchk_t (by decide), klet_eq, z, h1]
  obtain ⟨r, g1, g2⟩ := kOk_for (body := fun st => pf_Rules_mentions_7_l7 σ 0 5 st) (P := Sum.elim (fun _ => True) (fun _ => (-6 : Int) ∉ P)) P.length (fun i st => st = ((k + i : Nat) : Int) ∧ ∀ (j : Nat) (hj : j < P.length), j < i → P[j] ≠ -6) (fun i st hi hI => by
    obtain ⟨rfl, h5⟩ := hI
    have h6 := rv_at_get P k i hi h4
    have e1 : w32 (-1 - 5) = -6 := by decide
    have ew := kw_inc (i := k + i) (by omega)
    show kOk (pf_Rules_mentions_7_l7 σ 0 5 ((k + i : Nat) : Int)) _
    unfold pf_Rules_mentions_7_l7
    rw [kchk_t (by decide), z, h2, if_neg (by omega), kchk_t (by omega), Int.toNat_natCast, h6, e1]
    by_cases c : P[i] = -6
    · rw [if_pos c]
      exact ⟨_, rfl, trivial⟩
    · rw [if_neg c, klet_eq, ew]
      refine ⟨_, rfl, by rw [Nat.add_assoc], fun j hj hj2 => ?_⟩
      by_cases e : j = i
      · subst e
        exact c
      · exact h5 j hj (by omega)) (fun st hI => by
    obtain ⟨rfl, h5⟩ := hI
    show kOk (pf_Rules_mentions_7_l7 σ 0 5 ((k + P.length : Nat) : Int)) _
    unfold pf_Rules_mentions_7_l7
    rw [kchk_t (by decide), z, h2, if_pos (Int.le_refl _)]
    refine ⟨_, rfl, fun hm => ?_⟩
    obtain ⟨j, hj, hj2⟩ := List.getElem_of_mem hm
    exact h5 j hj hj hj2) (kFuel_lt (by omega)) ((k : Nat) : Int) ⟨rfl, fun j hj hj2 => absurd hj2 (by omega)⟩
  rw [kbind_eq g1]
  cases r with
  | inl u => exact ⟨1, rfl, Or.inl rfl⟩
  | inr u => exact ⟨0, rfl, Or.inr ⟨rfl, g2⟩⟩
theorem c_matters (hN : EN N M tp L PH PF PB) (hE : EC N M tp L PH PF PB σ) (hR : RCr N M tp L σ 31 q) (hI : IV M tp L q) {t : Int} (ht : 0 ≤ t ∧ t < 4) : ∃ r, pf_Law_matters_3 σ t = some r ∧ (r = 1 ∨ r = 0 ∧ ∀ p0 : Int, 0 ≤ p0 → p0 < 8 → nmA M L PH (113 + 4 * p0 + t).toNat q) := by
  have hn2 := hN.2.1
  have hn3 := hN.2.2.1
  have hj : ∃ r, pf_Law_matters_3_j25 σ t = some r ∧ (r = 1 ∨ r = 0 ∧ ∀ w l : Int, 0 ≤ w → w < M → 0 ≤ l → l < L w.toNat → q (65 + 6 * w + l).toNat ≠ t) := by
    unfold pf_Law_matters_3_j25
    have inner : ∀ w : Int, 0 ≤ w → w < M → ∃ r, kloop (fun st => pf_Law_matters_3_l37 σ t w st) kFuel 0 = some r ∧ (r = Sum.inl () ∨ r = Sum.inr () ∧ ∀ l : Int, 0 ≤ l → l < L w.toNat → q (65 + 6 * w + l).toNat ≠ t) := by
      intro w hw0 hw
      have hL := hN.2.2.2.1 w hw0 hw
      have e4 := hE.2.2.2.1 w hw0 hw
      obtain ⟨r, g1, g2⟩ := kOk_for (body := fun st => pf_Law_matters_3_l37 σ t w st) (P := fun r => r = Sum.inl () ∨ r = Sum.inr () ∧ ∀ l : Int, 0 ≤ l → l < L w.toNat → q (65 + 6 * w + l).toNat ≠ t) (L w.toNat).toNat (fun i st => st = (i : Int) ∧ ∀ l : Int, 0 ≤ l → l < (i : Int) → q (65 + 6 * w + l).toNat ≠ t) (fun i st hi hI2 => by
        obtain ⟨rfl, h5⟩ := hI2
        have ew := kw_inc (i := i) (by omega)
        have et := hR.topic hw0 hw hn2.2 (l := (i : Int)) (by omega) (by omega) hL.2
        show kOk (pf_Law_matters_3_l37 σ t w (i : Int)) _
        unfold pf_Law_matters_3_l37 pf_Law_topicOf_3
        rw [kchk_t (by omega), e4, if_neg (by omega), w32_s (v := w * 6) (by omega) (by omega), w32_s (v := w * 6 + (i : Int)) (by omega) (by omega), kchk_t (by omega), et, kbind_eq rfl]
        by_cases c : q (65 + 6 * w + (i : Int)).toNat = t
        · rw [if_pos c]
          exact ⟨_, rfl, Or.inl rfl⟩
        · rw [if_neg c, klet_eq, ew]
          refine ⟨_, rfl, rfl, fun l l0 l1 => ?_⟩
          by_cases e : l = (i : Int)
          · rw [e]
            exact c
          · exact h5 l l0 (by omega)) (fun st hI2 => by
        obtain ⟨rfl, h5⟩ := hI2
        show kOk (pf_Law_matters_3_l37 σ t w (((L w.toNat).toNat : Nat) : Int)) _
        unfold pf_Law_matters_3_l37
        rw [kchk_t (by omega), e4, if_pos (by omega)]
        exact ⟨_, rfl, Or.inr ⟨rfl, fun l l0 l1 => h5 l l0 (by omega)⟩⟩) (kFuel_lt (by omega)) 0 ⟨rfl, fun l l0 l1 => absurd l1 (by omega)⟩
      exact ⟨r, g1, g2⟩
    obtain ⟨r, g1, g2⟩ := kOk_for (body := fun st => pf_Law_matters_3_l27 σ t st) (P := fun r => r = Sum.inl () ∨ r = Sum.inr () ∧ ∀ w l : Int, 0 ≤ w → w < M → 0 ≤ l → l < L w.toNat → q (65 + 6 * w + l).toNat ≠ t) M.toNat (fun i st => st = (i : Int) ∧ ∀ w l : Int, 0 ≤ w → w < (i : Int) → 0 ≤ l → l < L w.toNat → q (65 + 6 * w + l).toNat ≠ t) (fun i st hi hI2 => by
      obtain ⟨rfl, h5⟩ := hI2
      have ew := kw_inc (i := i) (by omega)
      obtain ⟨r, r1, r2⟩ := inner (i : Int) (by omega) (by omega)
      show kOk (pf_Law_matters_3_l27 σ t (i : Int)) _
      unfold pf_Law_matters_3_l27
      rw [hE.2.2.1, if_neg (by omega), kbind_eq r1]
      rcases r2 with rfl | ⟨rfl, r3⟩
      · exact ⟨_, rfl, Or.inl rfl⟩
      · dsimp only
        rw [klet_eq, ew]
        refine ⟨_, rfl, rfl, fun w l w0 w1 l0 l1 => ?_⟩
        by_cases e : w = (i : Int)
        · subst e
          exact r3 l l0 l1
        · exact h5 w l w0 (by omega) l0 l1) (fun st hI2 => by
      obtain ⟨rfl, h5⟩ := hI2
      show kOk (pf_Law_matters_3_l27 σ t ((M.toNat : Nat) : Int)) _
      unfold pf_Law_matters_3_l27
      rw [hE.2.2.1, if_pos (by omega)]
      exact ⟨_, rfl, Or.inr ⟨rfl, fun w l w0 w1 l0 l1 => h5 w l w0 (by omega) l0 l1⟩⟩) (kFuel_lt (by omega)) 0 ⟨rfl, fun w l w0 w1 => absurd w1 (by omega)⟩
    rw [kbind_eq g1]
    rcases g2 with rfl | ⟨rfl, g3⟩
    · exact ⟨1, rfl, Or.inl rfl⟩
    · exact ⟨0, rfl, Or.inr ⟨rfl, g3⟩⟩
  obtain ⟨r0, j1, j2⟩ := hj
  have j3 : r0 = 1 ∨ r0 = 0 ∧ ∀ p0 : Int, 0 ≤ p0 → p0 < 8 → nmA M L PH (113 + 4 * p0 + t).toNat q := by
    rcases j2 with j2 | ⟨j2, j3⟩
    · exact Or.inl j2
    · refine Or.inr ⟨j2, fun p0 a b w l w0 w1 l0 l1 => Or.inr (fun p c d => ?_)⟩
      have hL := hN.2.2.2.1 w w0 w1
      have h6 := j3 w l w0 w1 l0 l1
      have h7 := hI.topic (l := l) w0 (by omega) l0 (by omega)
      omega
  unfold pf_Law_matters_3
  rw [rv_has (r := 0) (by decide) hE.2.2.2.2.1, kbind_eq rfl]
  by_cases c : PH = []
  · rw [if_pos c, if_pos rfl]
    exact ⟨r0, j1, j3⟩
  · rw [if_neg c, if_neg (by decide)]
    obtain ⟨r1, k1, k2⟩ := c_mentions hE.2.2.2.2.1
    rw [kbind_eq k1]
    rcases k2 with rfl | ⟨rfl, k3⟩
    · rw [if_neg (by decide)]
      exact ⟨r0, j1, j3⟩
    · rw [if_pos rfl]
      exact ⟨0, rfl, Or.inr ⟨rfl, fun p0 a b w l w0 w1 l0 l1 => Or.inl ⟨c, k3⟩⟩⟩
theorem c_agrees (h : CF σ f F) (k v : Int) : ∃ r, pf_Chronicle_agrees_29 σ k v = some r ∧ (r = 0 ∧ ¬ fA f F v k ∨ r = 1 ∧ fA f F v k) := by
  obtain ⟨h1, h2, h3⟩ := h
  unfold pf_Chronicle_agrees_29
  obtain ⟨r, g1, g2⟩ := kOk_for (body := fun st => pf_Chronicle_agrees_29_l2 σ k v st) (P := fun r => r = Sum.inl () ∧ ¬ fA f F v k ∨ r = Sum.inr () ∧ fA f F v k) f.toNat (fun i st => st = (i : Int) ∧ ∀ j : Nat, j < i → F (3 * j + 1) = k → kand (kshr v (F (3 * j))) 1 = F (3 * j + 2)) (fun i st hi hI => by
    obtain ⟨rfl, h5⟩ := hI
    have ew := kw_inc (i := i) (by omega)
    obtain ⟨⟨e1, e2, e3⟩, -⟩ := h3 i (by omega)
    show kOk (pf_Chronicle_agrees_29_l2 σ k v (i : Int)) _
    unfold pf_Chronicle_agrees_29_l2 pf_Chronicle_agrees_29_l2_j41
    rw [h1, if_neg (by omega), kchk_t (by omega), kchk_t (by omega), kchk_t (by omega), Int.toNat_natCast, e1, e2, e3, klet_eq, ew]
    by_cases c : F (3 * i + 1) = k
    · rw [if_pos c]
      by_cases d : F (3 * i + 2) = kand (kshr v (F (3 * i))) 1
      · rw [if_pos d]
        refine ⟨_, rfl, rfl, fun j hj hj2 => ?_⟩
        by_cases e : j = i
        · subst e
          exact d.symm
        · exact h5 j (by omega) hj2
      · rw [if_neg d]
        exact ⟨_, rfl, Or.inl ⟨rfl, fun hh => d (hh i (by omega) c).symm⟩⟩
    · rw [if_neg c]
      refine ⟨_, rfl, rfl, fun j hj hj2 => ?_⟩
      by_cases e : j = i
      · subst e
        exact absurd hj2 c
      · exact h5 j (by omega) hj2) (fun st hI => by
    obtain ⟨rfl, h5⟩ := hI
    show kOk (pf_Chronicle_agrees_29_l2 σ k v ((f.toNat : Nat) : Int)) _
    unfold pf_Chronicle_agrees_29_l2
    rw [h1, if_pos (by omega)]
    exact ⟨_, rfl, Or.inr ⟨rfl, fun i hi hk => h5 i (by omega) hk⟩⟩) (kFuel_lt (by omega)) 0 ⟨rfl, fun j hj => absurd hj (by omega)⟩
  rw [kbind_eq g1]
  rcases g2 with ⟨rfl, g3⟩ | ⟨rfl, g3⟩
  · exact ⟨0, rfl, Or.inl ⟨rfl, g3⟩⟩
  · exact ⟨1, rfl, Or.inr ⟨rfl, g3⟩⟩
theorem m_agrees (h1 : μ 0 53 = f) (h2 : 0 ≤ f ∧ f ≤ 8) (k : Int) : ∃ r, kloop (fun st => mm_isFelt_l17 μ k st) kFuel 0 = some r ∧ (r = Sum.inl () ∧ ¬ fA f (μ 19) (μ 0 49) k ∨ r = Sum.inr () ∧ fA f (μ 19) (μ 0 49) k) := by
  obtain ⟨r, g1, g2⟩ := kOk_for (body := fun st => mm_isFelt_l17 μ k st) (P := fun r => r = Sum.inl () ∧ ¬ fA f (μ 19) (μ 0 49) k ∨ r = Sum.inr () ∧ fA f (μ 19) (μ 0 49) k) f.toNat (fun i st => st = (i : Int) ∧ ∀ j : Nat, j < i → μ 19 (3 * j + 1) = k → kand (kshr (μ 0 49) (μ 19 (3 * j))) 1 = μ 19 (3 * j + 2)) (fun i st hi hI => by
    obtain ⟨rfl, h5⟩ := hI
    have ew := kw_inc (i := i) (by omega)
    have n1 : (3 * (i : Int) + 1).toNat = 3 * i + 1 := by omega
    have n2 : (3 * (i : Int)).toNat = 3 * i := by omega
    have n3 : (3 * (i : Int) + 2).toNat = 3 * i + 2 := by omega
    show kOk (mm_isFelt_l17 μ k (i : Int)) _
    unfold mm_isFelt_l17 mm_isFelt_l17_j69
    rw [h1, if_neg (by omega), w32_s (v := 3 * (i : Int)) (by omega) (by omega), w32_s (v := 3 * (i : Int) + 1) (by omega) (by omega), w32_s (v := 3 * (i : Int) + 2) (by omega) (by omega), kchk_t (by omega), kchk_t (by omega), kchk_t (by omega), n1, n2, n3, klet_eq, ew]
    by_cases c : μ 19 (3 * i + 1) = k
    · rw [if_pos c]
      by_cases d : kand (kshr (μ 0 49) (μ 19 (3 * i))) 1 = μ 19 (3 * i + 2)
      · rw [if_pos d]
        refine ⟨_, rfl, rfl, fun j hj hj2 => ?_⟩
        by_cases e : j = i
        · subst e
          exact d
        · exact h5 j (by omega) hj2
      · rw [if_neg d]
        exact ⟨_, rfl, Or.inl ⟨rfl, fun hh => d (hh i (by omega) c)⟩⟩
    · rw [if_neg c]
      refine ⟨_, rfl, rfl, fun j hj hj2 => ?_⟩
      by_cases e : j = i
      · subst e
        exact absurd hj2 c
      · exact h5 j (by omega) hj2) (fun st hI => by
    obtain ⟨rfl, h5⟩ := hI
    show kOk (mm_isFelt_l17 μ k ((f.toNat : Nat) : Int)) _
    unfold mm_isFelt_l17
    rw [h1, if_pos (by omega)]
    exact ⟨_, rfl, Or.inr ⟨rfl, fun i hi hk => h5 i (by omega) hk⟩⟩) (kFuel_lt (by omega)) 0 ⟨rfl, fun j hj => absurd hj (by omega)⟩
  exact ⟨r, g1, g2⟩
theorem c_lastFelt (h : CF σ f F) : ∃ r, pf_Chronicle_lastFelt_29 σ = some r ∧ (0 ≤ r ∧ r ≤ 20) ∧ ∀ i : Nat, (i : Int) < f → F (3 * i + 1) ≤ r := by
  obtain ⟨h1, h2, h3⟩ := h
  unfold pf_Chronicle_lastFelt_29
  obtain ⟨r, g1, g2⟩ := kOk_for (body := fun st => pf_Chronicle_lastFelt_29_l4 σ st.1 st.2) (P := fun r => (0 ≤ r ∧ r ≤ 20) ∧ ∀ i : Nat, (i : Int) < f → F (3 * i + 1) ≤ r) f.toNat (fun i st => st.2 = (i : Int) ∧ (0 ≤ st.1 ∧ st.1 ≤ 20) ∧ ∀ j : Nat, j < i → F (3 * j + 1) ≤ st.1) (fun i st hi hI => by
    obtain ⟨a, b⟩ := st
    obtain ⟨rfl, h4, h5⟩ := hI
    have h4 : 0 ≤ a ∧ a ≤ 20 := h4
    have h5 : ∀ j : Nat, j < i → F (3 * j + 1) ≤ a := h5
    have ew := kw_inc (i := i) (by omega)
    obtain ⟨⟨e1, e2, e3⟩, -, e5, e6⟩ := h3 i (by omega)
    show kOk (pf_Chronicle_lastFelt_29_l4 σ a (i : Int)) _
    unfold pf_Chronicle_lastFelt_29_l4
    rw [h1, if_neg (by omega), kchk_t (by omega), klet_eq, klet_eq, Int.toNat_natCast, e2, ew]
    refine ⟨_, rfl, rfl, ?_, fun j hj => ?_⟩
    · show 0 ≤ max a (F (3 * i + 1)) ∧ max a (F (3 * i + 1)) ≤ 20
      omega
    · show F (3 * j + 1) ≤ max a (F (3 * i + 1))
      by_cases e : j = i
      · subst e
        omega
      · have := h5 j (by omega)
        omega) (fun st hI => by
    obtain ⟨a, b⟩ := st
    obtain ⟨rfl, h4, h5⟩ := hI
    show kOk (pf_Chronicle_lastFelt_29_l4 σ a ((f.toNat : Nat) : Int)) _
    unfold pf_Chronicle_lastFelt_29_l4
    rw [h1, if_pos (by omega)]
    exact ⟨_, rfl, h4, fun i hi => h5 i (by omega)⟩) (kFuel_lt (by omega)) (0, 0) ⟨rfl, by decide, fun j hj => absurd hj (by omega)⟩
  rw [kbind_eq g1]
  exact ⟨r, rfl, g2⟩
/-- the years behind all that is felt say nothing -/
theorem tH_ge {m n : Nat} (hm : ∀ i : Nat, (i : Int) < f → F (3 * i + 1) ≤ (m : Int)) (hmn : m ≤ n) : tH N M PH PF PB L f F n q ↔ tH N M PH PF PB L f F m q := by
  constructor
  · exact fun h k a b => h k a (by omega)
  · intro h k a b
    by_cases c : k ≤ m
    · exact h k a c
    · intro i hi hk
      have := hm i hi
      omega
end FELT

/-! CALLS: decades -/
def dS (s : Int) : Int := w32 (w32 (s * 1103515245) + 12345)
def dV (s n : Int) : Int := krem (kand (kshr s 16) 32767) n
theorem dV_rng {s n : Int} (h0 : 0 < n) (h1 : n < 1000) : 0 ≤ dV s n ∧ dV s n < n := by
  have h := kd_rng (kshr s 16)
  unfold dV
  rw [krem_nn ⟨h.1, by omega⟩ ⟨h0, by omega⟩]
  exact ⟨Int.emod_nonneg _ (by omega), Int.emod_lt_of_pos _ h0⟩
/-- what happens ahead of a year -/
def dE (N M : Int) (q : Nat → Int) (s : Int) : (Nat → Int) × Int :=
  if dV (dS s) 6 = 0 then (if M ≤ 0 then (q, dS s) else (kup q (25 + dV (dS (dS s)) M).toNat 0, dS (dS s)))
  else if dV (dS s) 6 = 1 then (if N ≤ 0 then (q, dS s) else (kup q (9 + dV (dS (dS s)) N).toNat 0, dS (dS s)))
  else if dV (dS s) 6 = 2 then (if M ≤ 0 then (q, dS s) else (kup q (89 + 6 * dV (dS (dS s)) M + q (21 + dV (dS (dS s)) M).toNat).toNat (dV (dS (dS (dS s))) 10), dS (dS (dS s))))
  else (q, dS s)
def dY (N M : Int) (PH PF PB : List Int) (L : Nat → Int) (q : Nat → Int) (s : Int) : Nat → (Nat → Int) × Int
  | 0 => (q, s)
  | i + 1 => (sp_year N M PH PF PB L 0 (dE N M (dY N M PH PF PB L q s i).1 (dY N M PH PF PB L q s i).2).1, (dE N M (dY N M PH PF PB L q s i).1 (dY N M PH PF PB L q s i).2).2)
section DEC
variable {N M tp : Int} {L : Nat → Int} {PH PF PB : List Int} {σ σ' μ μ' : kM} {q q' : Nat → Int}
/-- one number of the row changes, or none -/
theorem dE_cases (hE : EN N M tp L PH PF PB) (hI : IV M tp L q) (s : Int) : (dE N M q s).1 = q ∨ ∃ (i : Nat) (v : Int), ((9 ≤ i ∧ i < 17) ∨ (25 ≤ i ∧ i < 29) ∨ (89 ≤ i ∧ i < 113)) ∧ bd M tp L i v ∧ (dE N M q s).1 = kup q i v := by
  have hn1 := hE.1
  have hn2 := hE.2.1
  unfold dE
  by_cases c0 : dV (dS s) 6 = 0
  · rw [if_pos c0]
    by_cases d : M ≤ 0
    · rw [if_pos d]
      exact Or.inl rfl
    · rw [if_neg d]
      have hr := dV_rng (s := dS (dS s)) (n := M) (by omega) (by omega)
      generalize dV (dS (dS s)) M = w at *
      exact Or.inr ⟨(25 + w).toNat, 0, by omega, by unfold bd; omega, rfl⟩
  · rw [if_neg c0]
    by_cases c1 : dV (dS s) 6 = 1
    · rw [if_pos c1]
      by_cases d : N ≤ 0
      · rw [if_pos d]
        exact Or.inl rfl
      · rw [if_neg d]
        have hr := dV_rng (s := dS (dS s)) (n := N) (by omega) (by omega)
        generalize dV (dS (dS s)) N = w at *
        exact Or.inr ⟨(9 + w).toNat, 0, by omega, by unfold bd; omega, rfl⟩
    · rw [if_neg c1]
      by_cases c2 : dV (dS s) 6 = 2
      · rw [if_pos c2]
        by_cases d : M ≤ 0
        · rw [if_pos d]
          exact Or.inl rfl
        · rw [if_neg d]
          have hr := dV_rng (s := dS (dS s)) (n := M) (by omega) (by omega)
          have hr2 := dV_rng (s := dS (dS (dS s))) (n := 10) (by decide) (by decide)
          generalize dV (dS (dS (dS s))) 10 = v at *
          generalize dV (dS (dS s)) M = w at *
          have hL := hE.2.2.2.1 w hr.1 hr.2
          have hnx := hI.next hr.1 (by omega) hr.2
          generalize q (21 + w).toNat = l at *
          exact Or.inr ⟨(89 + 6 * w + l).toNat, v, by omega, by unfold bd; omega, rfl⟩
      · rw [if_neg c2]
        exact Or.inl rfl
theorem dE_ne (hE : EN N M tp L PH PF PB) (hI : IV M tp L q) {s : Int} {k : Nat} (hk : k < 9 ∨ (17 ≤ k ∧ k < 25) ∨ (29 ≤ k ∧ k < 89) ∨ 113 ≤ k) : (dE N M q s).1 k = q k := by
  rcases dE_cases hE hI s with e | ⟨i, v, hi, -, e⟩
  · rw [e]
  · rw [e, kup_ne (by omega)]
theorem dE_IV (hE : EN N M tp L PH PF PB) (hI : IV M tp L q) {s : Int} : IV M tp L (dE N M q s).1 := by
  rcases dE_cases hE hI s with e | ⟨i, v, hi, hb, e⟩
  · rw [e]
    exact hI
  · rw [e]
    exact hI.up (fun _ => hb)
theorem TC.put57 (h : TC N M tp L PH PF PB σ q) {f : Nat → Int} : TC N M tp L PH PF PB (kst σ 57 f) q := by
  have e : ∀ k : Nat, k ≠ 57 → kst σ 57 f k = σ k := fun k hk => kst_ne hk
  exact ⟨h.1, h.2.1.kept (e _ (by omega)) (e _ (by omega)) (e _ (by omega)) (e _ (by omega)) (e _ (by omega)), ⟨h.2.2.1.1.kept (e _ (by omega)) (e _ (by omega)) (e _ (by omega)) (e _ (by omega)), h.2.2.1.2.kept (e _ (by omega)) (e _ (by omega)) (e _ (by omega)) (e _ (by omega)) (e _ (by omega))⟩, h.2.2.2⟩
theorem c_draw (h : TC N M tp L PH PF PB σ q) {n s : Int} (hn : 0 < n) (hs : σ 57 11 = s) : ∃ σ', pf_Oracle_draw_57 σ n = some (dV (dS s) n, σ') ∧ TC N M tp L PH PF PB σ' q ∧ σ' 57 11 = dS s ∧ kpC σ σ' := by
  subst hs
  refine ⟨kst σ 57 (kup (σ 57) 11 (dS (σ 57 11))), ?_, h.put57, by rw [kst_eq, kup_eq], kpC.put (by decide)⟩
  unfold pf_Oracle_draw_57
  rw [klet_eq, klet_eq, if_neg (by omega), kchk_t (by omega), kst_eq, kup_eq, kd_ush]
  rfl
theorem c_tset' (h : TC N M tp L PH PF PB σ q) {i j : Nat} {v : Int} (hij : (i < 17 ∧ j = i) ∨ (17 ≤ i ∧ i < 29 ∧ j = i + 32) ∨ (89 ≤ i ∧ i < 113 ∧ j = i - 28)) (hv : bd M tp L i v) : TC N M tp L PH PF PB (kst σ 59 (kup (σ 59) j v)) (kup q i v) ∧ kpC σ (kst σ 59 (kup (σ 59) j v)) ∧ kst σ 59 (kup (σ 59) j v) 57 = σ 57 :=
  ⟨(c_tset h hij hv).1, kpC.put (by decide), kst_ne (by decide)⟩
theorem c_event (h : TC N M tp L PH PF PB σ q) {s : Int} (hs : σ 57 11 = s) : ∃ σ', pf_Oracle_drawEvent_57 σ = some σ' ∧ TC N M tp L PH PF PB σ' (dE N M q s).1 ∧ σ' 57 11 = (dE N M q s).2 ∧ kpC σ σ' := by
  have hn1 := h.1.1
  have hn2 := h.1.2.1
  obtain ⟨σ1, a1, a2, a3, a4⟩ := c_draw h (n := 6) (by decide) hs
  have g1 : σ1 3 1 = N := a2.2.1.2.1
  have g2 : σ1 3 2 = M := a2.2.1.2.2.1
  unfold pf_Oracle_drawEvent_57 dE
  rw [kbind_eq a1]
  dsimp only
  by_cases c0 : dV (dS s) 6 = 0
  · rw [if_pos c0, if_pos c0, g2]
    by_cases d : M ≤ 0
    · rw [if_pos d, if_pos d]
      unfold pf_Oracle_drawEvent_57_j47 pf_Oracle_drawEvent_57_j88
      rw [if_neg (by omega), if_neg (by omega)]
      exact ⟨σ1, rfl, a2, a3, a4⟩
    · rw [if_neg d, if_neg d]
      obtain ⟨σ2, b1, b2, b3, b4⟩ := c_draw a2 (n := M) (by omega) a3
      have hr := dV_rng (s := dS (dS s)) (n := M) (by omega) (by omega)
      rw [kbind_eq b1]
      dsimp only
      generalize dV (dS (dS s)) M = w at *
      obtain ⟨e1, e2, e3⟩ := c_tset' b2 (i := (25 + w).toNat) (j := (57 + w).toNat) (v := 0) (by omega) (by unfold bd; omega)
      rw [w32_s (v := 57 + w) (by omega) (by omega), kchk_t (by omega), klet_eq]
      exact ⟨_, rfl, e1, by rw [e3]; exact b3, (a4.trans b4).trans e2⟩
  · rw [if_neg c0, if_neg c0]
    unfold pf_Oracle_drawEvent_57_j47
    by_cases c1 : dV (dS s) 6 = 1
    · rw [if_pos c1, if_pos c1, g1]
      by_cases d : N ≤ 0
      · rw [if_pos d, if_pos d]
        unfold pf_Oracle_drawEvent_57_j88
        rw [if_neg (by omega)]
        exact ⟨σ1, rfl, a2, a3, a4⟩
      · rw [if_neg d, if_neg d]
        obtain ⟨σ2, b1, b2, b3, b4⟩ := c_draw a2 (n := N) (by omega) a3
        have hr := dV_rng (s := dS (dS s)) (n := N) (by omega) (by omega)
        rw [kbind_eq b1]
        dsimp only
        generalize dV (dS (dS s)) N = w at *
        obtain ⟨e1, e2, e3⟩ := c_tset' b2 (i := (9 + w).toNat) (j := (9 + w).toNat) (v := 0) (by omega) (by unfold bd; omega)
        rw [w32_s (v := 9 + w) (by omega) (by omega), kchk_t (by omega), klet_eq]
        exact ⟨_, rfl, e1, by rw [e3]; exact b3, (a4.trans b4).trans e2⟩
    · rw [if_neg c1, if_neg c1]
      unfold pf_Oracle_drawEvent_57_j88
      by_cases c2 : dV (dS s) 6 = 2
      · rw [if_pos c2, if_pos c2, g2]
        by_cases d : M ≤ 0
        · rw [if_pos d, if_pos d]
          exact ⟨σ1, rfl, a2, a3, a4⟩
        · rw [if_neg d, if_neg d]
          obtain ⟨σ2, b1, b2, b3, b4⟩ := c_draw a2 (n := M) (by omega) a3
          have hr := dV_rng (s := dS (dS s)) (n := M) (by omega) (by omega)
          obtain ⟨σ3, d1, d2, d3, d4⟩ := c_draw b2 (n := 10) (by decide) b3
          have hr2 := dV_rng (s := dS (dS (dS s))) (n := 10) (by decide) (by decide)
          rw [kbind_eq b1]
          dsimp only
          generalize dV (dS (dS s)) M = w at *
          generalize dV (dS (dS (dS s))) 10 = v at *
          have hL := h.1.2.2.2.1 w hr.1 hr.2
          have hnx := h.2.2.2.next hr.1 (by omega) hr.2
          have hxx := b2.2.2.1.1.next hr.1 (show w < 4 by omega)
          generalize q (21 + w).toNat = l at *
          rw [w32_s (v := 53 + w) (by omega) (by omega), kchk_t (by omega), kbind_eq d1]
          dsimp only
          rw [hxx]
          obtain ⟨e1, e2, e3⟩ := c_tset' d2 (i := (89 + 6 * w + l).toNat) (j := (61 + w * 6 + l).toNat) (v := v) (by omega) (by unfold bd; omega)
          have es : pf_World_setDepth_58 σ3 w l v = some (kst σ3 59 (kup (σ3 59) (61 + w * 6 + l).toNat v)) := by
            unfold pf_World_setDepth_58
            rw [if_neg (by omega), w32_s (v := w * 6) (by omega) (by omega), w32_s (v := 61 + w * 6) (by omega) (by omega), w32_s (v := 61 + w * 6 + l) (by omega) (by omega), kchk_t (by omega), klet_eq]
          rw [kbind_eq es]
          exact ⟨_, rfl, e1, by rw [e3]; exact d3, ((a4.trans b4).trans d4).trans e2⟩
      · rw [if_neg c2, if_neg c2]
        exact ⟨σ1, rfl, a2, a3, a4⟩
theorem TN.put57 (h : TN N M tp L PH PF PB μ q) {v : Int} : TN N M tp L PH PF PB (kst μ 0 (kup (μ 0) 57 v)) q := by
  obtain ⟨h1, h2, h3, ⟨w1, w2, w3, w4⟩, h5⟩ := h
  refine ⟨h1, h2.kept (fun j a b => by rw [kst_eq, kup_ne (by omega)]) (kst_ne (by decide)), h3.kept (kst_ne (by decide)), ⟨fun k hk => ?_, fun k hk => ?_, ?_, ?_⟩, h5⟩
  · simp (disch := decide) only [kst_ne]
    exact w1 k hk
  · rw [kst_ne (by decide)]
    exact w2 k hk
  · rw [kst_eq, kup_ne (by decide)]
    exact w3
  · rw [kst_eq, kup_ne (by decide)]
    exact w4
theorem kpM.put57 {v : Int} : kpM μ (kst μ 0 (kup (μ 0) 57 v)) := ⟨fun c hc => kst_ne (by omega), fun j hj => by rw [kst_eq, kup_ne (by omega)], fun k _ => by rw [kst_ne (by decide)]⟩
/-- kept, what is said of a refused call too -/
def kpT (μ μ' : kM) : Prop := kpM μ μ' ∧ μ' 0 0 = μ 0 0
theorem kpT.trans {μ'' : kM} (h : kpT μ μ') (h' : kpT μ' μ'') : kpT μ μ'' := ⟨h.1.trans h'.1, h'.2.trans h.2⟩
theorem kpT.fr (h : frM 145 μ μ') : kpT μ μ' := ⟨kpM.fr h, h.2.1 0 (by decide) (by decide) (by decide) (by decide)⟩
theorem m_draw (h : TN N M tp L PH PF PB μ q) {n s : Int} (hn : 0 < n) (hs : μ 0 57 = s) : ∃ μ', mm_draw μ n = some (dV (dS s) n, μ') ∧ TN N M tp L PH PF PB μ' q ∧ μ' 0 57 = dS s ∧ kpT μ μ' := by
  subst hs
  refine ⟨kst μ 0 (kup (μ 0) 57 (dS (μ 0 57))), ?_, h.put57, by rw [kst_eq, kup_eq], kpM.put57, by rw [kst_eq, kup_ne (by decide)]⟩
  unfold mm_draw
  rw [klet_eq, kchk_t (by omega), kst_eq, kup_eq]
  rfl
theorem m_tset' (h : TN N M tp L PH PF PB μ q) {i : Int} {j : Nat} {v : Int} (hi0 : 0 ≤ i) (hi : i < 145) (hj : j = (145 + i).toNat) (hv : bd M tp L i.toNat v) : TN N M tp L PH PF PB (kst μ 8 (kup (μ 8) j v)) (kup q i.toNat v) ∧ kpT μ (kst μ 8 (kup (μ 8) j v)) ∧ kst μ 8 (kup (μ 8) j v) 0 = μ 0 :=
  ⟨(m_tset h hi0 hi hj hv).1, kpT.fr (m_tset h hi0 hi hj hv).2, kst_ne (by decide)⟩
theorem m_event (h : TN N M tp L PH PF PB μ q) {s : Int} (hs : μ 0 57 = s) : ∃ μ', mm_happens μ = some μ' ∧ TN N M tp L PH PF PB μ' (dE N M q s).1 ∧ μ' 0 57 = (dE N M q s).2 ∧ kpT μ μ' := by
  have hn1 := h.1.1
  have hn2 := h.1.2.1
  obtain ⟨μ1, a1, a2, a3, a4⟩ := m_draw h (n := 6) (by decide) hs
  have g1 : μ1 0 2 = N := a2.2.1.2.1
  have g2 : μ1 0 3 = M := a2.2.1.2.2.1
  unfold mm_happens dE
  rw [kbind_eq a1]
  dsimp only
  by_cases c0 : dV (dS s) 6 = 0
  · have j36 : ∀ s1 : kM, mm_happens_j36 s1 (dV (dS s) 6) = some s1 := fun s1 => by
      unfold mm_happens_j36 mm_happens_j66
      rw [if_neg (by omega), if_neg (by omega)]
    rw [if_pos c0, if_pos c0, g2]
    by_cases d : M ≤ 0
    · rw [if_pos d, if_pos d, j36]
      exact ⟨μ1, rfl, a2, a3, a4⟩
    · rw [if_neg d, if_neg d]
      obtain ⟨μ2, b1, b2, b3, b4⟩ := m_draw a2 (n := M) (by omega) a3
      have hr := dV_rng (s := dS (dS s)) (n := M) (by omega) (by omega)
      rw [kbind_eq b1]
      dsimp only
      generalize dV (dS (dS s)) M = w at *
      obtain ⟨e1, e2, e3⟩ := m_tset' b2 (i := 25 + w) (j := (170 + w).toNat) (v := 0) (by omega) (by omega) (by omega) (by unfold bd; omega)
      rw [w32_s (v := 170 + w) (by omega) (by omega), kchk_t (by omega), klet_eq, j36]
      exact ⟨_, rfl, e1, by rw [e3]; exact b3, (a4.trans b4).trans e2⟩
  · rw [if_neg c0, if_neg c0]
    unfold mm_happens_j36
    by_cases c1 : dV (dS s) 6 = 1
    · have j66 : ∀ s1 : kM, mm_happens_j66 s1 (dV (dS s) 6) = some s1 := fun s1 => by
        unfold mm_happens_j66
        rw [if_neg (by omega)]
      rw [if_pos c1, if_pos c1, g1]
      by_cases d : N ≤ 0
      · rw [if_pos d, if_pos d, j66]
        exact ⟨μ1, rfl, a2, a3, a4⟩
      · rw [if_neg d, if_neg d]
        obtain ⟨μ2, b1, b2, b3, b4⟩ := m_draw a2 (n := N) (by omega) a3
        have hr := dV_rng (s := dS (dS s)) (n := N) (by omega) (by omega)
        rw [kbind_eq b1]
        dsimp only
        generalize dV (dS (dS s)) N = w at *
        obtain ⟨e1, e2, e3⟩ := m_tset' b2 (i := 9 + w) (j := (154 + w).toNat) (v := 0) (by omega) (by omega) (by omega) (by unfold bd; omega)
        rw [w32_s (v := 154 + w) (by omega) (by omega), kchk_t (by omega), klet_eq, j66]
        exact ⟨_, rfl, e1, by rw [e3]; exact b3, (a4.trans b4).trans e2⟩
    · rw [if_neg c1, if_neg c1]
      unfold mm_happens_j66
      by_cases c2 : dV (dS s) 6 = 2
      · rw [if_pos c2, if_pos c2, g2]
        by_cases d : M ≤ 0
        · rw [if_pos d, if_pos d]
          exact ⟨μ1, rfl, a2, a3, a4⟩
        · rw [if_neg d, if_neg d]
          obtain ⟨μ2, b1, b2, b3, b4⟩ := m_draw a2 (n := M) (by omega) a3
          have hr := dV_rng (s := dS (dS s)) (n := M) (by omega) (by omega)
          obtain ⟨μ3, d1, d2, d3, d4⟩ := m_draw b2 (n := 10) (by decide) b3
          have hr2 := dV_rng (s := dS (dS (dS s))) (n := 10) (by decide) (by decide)
          rw [kbind_eq b1]
          dsimp only
          generalize dV (dS (dS s)) M = w at *
          generalize dV (dS (dS (dS s))) 10 = v at *
          have hL := h.1.2.2.2.1 w hr.1 hr.2
          have hnx := h.2.2.2.2.next hr.1 (by omega) hr.2
          have hxx := b2.2.2.1.at (j := (166 + w).toNat) (i := 21 + w) (by omega) (by omega) (by decide) (by omega)
          generalize q (21 + w).toNat = l at *
          rw [w32_s (v := 166 + w) (by omega) (by omega), kchk_t (by omega), kbind_eq d1]
          dsimp only
          rw [hxx, w32_s (v := 6 * w) (by omega) (by omega), w32_s (v := 234 + 6 * w) (by omega) (by omega), w32_s (v := 234 + 6 * w + l) (by omega) (by omega), kchk_t (by omega), klet_eq]
          obtain ⟨e1, e2, e3⟩ := m_tset' d2 (i := 89 + 6 * w + l) (j := (234 + 6 * w + l).toNat) (v := v) (by omega) (by omega) (by omega) (by unfold bd; omega)
          exact ⟨_, rfl, e1, by rw [e3]; exact d3, ((a4.trans b4).trans d4).trans e2⟩
      · rw [if_neg c2, if_neg c2]
        exact ⟨μ1, rfl, a2, a3, a4⟩
theorem ctN.congr {n : Int} (h : ctN M n q) (h1 : q' 203 = q 203) (h2 : ∀ k : Nat, 153 ≤ k → k < 161 → q' k = q k) : ctN M n q' := by
  refine ⟨by rw [h1]; exact h.1, fun w a b => ?_⟩
  rw [h2 _ (by omega) (by omega), h2 _ (by omega) (by omega)]
  exact h.2 w a b
theorem HB.congr' {Y : Int} (h : HB Y q) (hq : ∀ k : Nat, k = 0 ∨ (29 ≤ k ∧ k < 61) → q' k = q k) : HB Y q' := by
  refine ⟨by rw [hq _ (by omega)]; exact h.1, fun w p h0 h1 h2 h3 => ?_⟩
  rw [hq _ (by omega), hq _ (by omega)]
  exact h.2 w p h0 h1 h2 h3
theorem c_decades (h : CN N M tp L PH PF PB σ q) {s n : Int} (hn : 0 ≤ n ∧ n ≤ 60) : ∃ σ', pf_Oracle_drawYears_57 σ s n = some σ' ∧ TC N M tp L PH PF PB σ' (dY N M PH PF PB L (trow q) s n.toNat).1 ∧ kpC σ σ' := by
  obtain ⟨σ1, a1, a2, a3⟩ := c_begin h
  obtain ⟨σ2, b1, b2, b3, b4⟩ := kl_M (body := fun st => pf_Oracle_drawYears_57_l11 st.1 n st.2) (fun i σ2 => TC N M tp L PH PF PB σ2 (dY N M PH PF PB L (trow q) s i).1 ∧ σ2 57 11 = (dY N M PH PF PB L (trow q) s i).2 ∧ kpC σ σ2) (fun i => (i : Int)) n.toNat (by omega) (fun i σ2 hi hs => by
    have c0 : ¬ n ≤ (i : Int) := by omega
    have ew := kw_inc (i := i) (by omega)
    obtain ⟨hs1, hs2, hs3⟩ := hs
    obtain ⟨σ3, t1, t2, t3, t4⟩ := c_event hs1 hs2
    obtain ⟨σ4, u1, u2, u3⟩ := c_tstep t2 0
    refine ⟨σ4, ?_, u2, ?_, (hs3.trans t4).trans (kpC.fr64 u3)⟩
    · show pf_Oracle_drawYears_57_l11 σ2 n (i : Int) = _
      unfold pf_Oracle_drawYears_57_l11
      rw [if_neg c0, kbind_eq t1, kbind_eq u1, klet_eq, ew]
    · show σ4 57 11 = (dE N M (dY N M PH PF PB L (trow q) s i).1 (dY N M PH PF PB L (trow q) s i).2).2
      rw [u3 57 (by decide) (by decide) (by decide) (by decide) (by decide) (by decide) (by decide) (by decide)]
      exact t3) (fun σ2 hs => by
    refine ⟨σ2, ?_, hs⟩
    show pf_Oracle_drawYears_57_l11 σ2 n ((n.toNat : Nat) : Int) = _
    unfold pf_Oracle_drawYears_57_l11
    rw [if_pos (by omega)]) (σ := kst σ1 57 (kup (σ1 57) 11 s)) ⟨a2.put57, by rw [kst_eq, kup_eq]; rfl, (kpC.fr64 a3).trans (kpC.put (by decide))⟩ (b0 := 0) rfl
  refine ⟨σ2, ?_, b2, b4⟩
  unfold pf_Oracle_drawYears_57
  rw [kbind_eq a1, klet_eq, kbind_eq b1]
theorem dY_inv (hE : EN N M tp L PH PF PB) (hI : IV M tp L q) (hH : HB 9999 q) (hc : ctN M 0 q) (s : Int) (i : Nat) (hi : i ≤ 60) : IV M tp L (dY N M PH PF PB L q s i).1 ∧ HB (9999 + (i : Int)) (dY N M PH PF PB L q s i).1 ∧ ctN M (i : Int) (dY N M PH PF PB L q s i).1 := by
  induction i with
  | zero => exact ⟨hI, by rw [show (9999 : Int) + ((0 : Nat) : Int) = 9999 by omega]; exact hH, hc⟩
  | succ i ih =>
    have c1 : (9999 + (i : Int)) < 800000 := by omega
    have c2 : (i : Int) < 20000 := by omega
    have c3 : 9999 + (i : Int) + 1 = 9999 + ((i + 1 : Nat) : Int) := by omega
    have c4 : (i : Int) + 1 = ((i + 1 : Nat) : Int) := by omega
    have c5 : (0 : Int) ≤ (i : Int) := by omega
    obtain ⟨h1, h2, h3⟩ := ih (by omega)
    show IV M tp L (sp_year N M PH PF PB L 0 (dE N M (dY N M PH PF PB L q s i).1 (dY N M PH PF PB L q s i).2).1) ∧ HB (9999 + ((i + 1 : Nat) : Int)) (sp_year N M PH PF PB L 0 (dE N M (dY N M PH PF PB L q s i).1 (dY N M PH PF PB L q s i).2).1) ∧ ctN M ((i + 1 : Nat) : Int) (sp_year N M PH PF PB L 0 (dE N M (dY N M PH PF PB L q s i).1 (dY N M PH PF PB L q s i).2).1)
    generalize dY N M PH PF PB L q s i = D at h1 h2 h3
    have i1 : IV M tp L (dE N M D.1 D.2).1 := dE_IV hE h1
    have i2 : HB (9999 + (i : Int)) (dE N M D.1 D.2).1 := h2.congr' (fun k hk => dE_ne hE h1 (by omega))
    have i3 : ctN M (i : Int) (dE N M D.1 D.2).1 := h3.congr (dE_ne hE h1 (by decide)) (fun k a b => dE_ne hE h1 (by omega))
    have k2 := i2.year (acc := 0) c1 i1 hE
    have k3 := i3.year (acc := 0) c5 c2 i2 c1 hE
    rw [c3] at k2
    rw [c4] at k3
    exact ⟨i1.year hE, k2, k3⟩
theorem dY_hits (hE : EN N M tp L PH PF PB) (hI : IV M tp L q) (hH : HB 9999 q) (hc : ctN M 0 q) (s : Int) (i : Nat) (hi : i < 60) : (dY N M PH PF PB L q s (i + 1)).1 203 = (dY N M PH PF PB L q s i).1 203 + sp_year N M PH PF PB L 0 (dE N M (dY N M PH PF PB L q s i).1 (dY N M PH PF PB L q s i).2).1 196 := by
  have c1 : (9999 + (i : Int)) < 800000 := by omega
  have c2 : (i : Int) < 20000 := by omega
  obtain ⟨h1, h2, h3⟩ := dY_inv hE hI hH hc s i (by omega)
  show sp_year N M PH PF PB L 0 (dE N M (dY N M PH PF PB L q s i).1 (dY N M PH PF PB L q s i).2).1 203 = _
  generalize dY N M PH PF PB L q s i = D at h1 h2 h3
  have i2 : HB (9999 + (i : Int)) (dE N M D.1 D.2).1 := h2.congr' (fun k hk => dE_ne hE h1 (by omega))
  have i3 : ctN M (i : Int) (dE N M D.1 D.2).1 := h3.congr (dE_ne hE h1 (by decide)) (fun k a b => dE_ne hE h1 (by omega))
  rw [sy_hits i3 c2 i2 c1 hE, dE_ne hE h1 (by decide)]
theorem m_decades (h : MN N M tp L PH PF PB μ q) (hH : HB 9999 q) {s n x : Int} (hn : 0 ≤ n ∧ n ≤ 60) {μ1 : kM} (h1 : TN N M tp L PH PF PB μ1 (trow q)) (hf : frM 145 μ μ1) : ∃ μ', kloop (fun st => mm_decades_l41 st.1 n x st.2.1 st.2.2) kFuel (kst μ1 0 (kup (μ1 0) 57 s), 0, 0) = some (μ', (dY N M PH PF PB L (trow q) s n.toNat).1 203) ∧ TN N M tp L PH PF PB μ' (dY N M PH PF PB L (trow q) s n.toNat).1 ∧ kpT μ μ' := by
  have hE := h.1
  have hI : IV M tp L (trow q) := trow_IV h.2.2.2.1
  have hc : ctN M 0 (trow q) := trow_ct
  have hH' : HB 9999 (trow q) := trow_HB hH
  have k0 : kpT μ (kst μ1 0 (kup (μ1 0) 57 s)) := (kpT.fr hf).trans ⟨kpM.put57, by rw [kst_eq, kup_ne (by decide)]⟩
  obtain ⟨μ2, b1, b2, b3, b4⟩ := kl_G (body := fun st => mm_decades_l41 st.1 n x st.2.1 st.2.2) (fun i μ2 => TN N M tp L PH PF PB μ2 (dY N M PH PF PB L (trow q) s i).1 ∧ μ2 0 57 = (dY N M PH PF PB L (trow q) s i).2 ∧ kpT μ μ2) (fun i => ((dY N M PH PF PB L (trow q) s i).1 203, (i : Int))) n.toNat ((dY N M PH PF PB L (trow q) s n.toNat).1 203) (by omega) (fun i μ2 hi hs => by
    have c0 : ¬ n ≤ (i : Int) := by omega
    have ew := kw_inc (i := i) (by omega)
    have hi2 : i < 60 := by omega
    have hi3 : i + 1 ≤ 60 := hi2
    obtain ⟨hs1, hs2, hs3⟩ := hs
    obtain ⟨μ3, t1, t2, t3, t4⟩ := m_event hs1 hs2
    obtain ⟨μ4, u1, u2, u4, u3⟩ := m_tstep t2 (acc := 0) (by rw [(hs3.trans t4).1.2.1 48 (by decide)]; exact h.2.2.2.2)
    have ey := dY_hits hE hI hH' hc s i hi2
    have er := (dY_inv hE hI hH' hc s (i + 1) hi3).2.2.1
    rw [ey] at er
    refine ⟨μ4, ?_, u2, ?_, (hs3.trans t4).trans (kpT.fr u3)⟩
    · show mm_decades_l41 μ2 n x ((dY N M PH PF PB L (trow q) s i).1 203) (i : Int) = some (Sum.inl (μ4, (dY N M PH PF PB L (trow q) s (i + 1)).1 203, ((i + 1 : Nat) : Int)))
      unfold mm_decades_l41
      rw [if_neg c0, kbind_eq t1, kbind_eq u1, klet_eq, klet_eq, ew, u4.2.1, ey]
      generalize (dY N M PH PF PB L (trow q) s i).1 203 + sp_year N M PH PF PB L 0 (dE N M (dY N M PH PF PB L (trow q) s i).1 (dY N M PH PF PB L (trow q) s i).2).1 196 = v at er
      rw [w32_s (v := v) (by omega) (by omega)]
    · show μ4 0 57 = (dE N M (dY N M PH PF PB L (trow q) s i).1 (dY N M PH PF PB L (trow q) s i).2).2
      rw [u3.2.1 57 (by decide) (by decide) (by decide) (by decide)]
      exact t3) (fun μ2 hs => by
    refine ⟨μ2, ?_, hs⟩
    show mm_decades_l41 μ2 n x ((dY N M PH PF PB L (trow q) s n.toNat).1 203) ((n.toNat : Nat) : Int) = _
    unfold mm_decades_l41
    rw [if_pos (by omega)]) (σ := kst μ1 0 (kup (μ1 0) 57 s)) ⟨h1.put57, by rw [kst_eq, kup_eq]; rfl, k0⟩ (b0 := (0, 0)) rfl
  exact ⟨μ2, b1, b2, b4⟩
theorem op_decades (h : RE N M tp L PH PF PB σ μ) (s n x : Int) : OC N M tp L PH PF PB thB (pf_P_decades_0 σ s n x) (mm_decades μ s n x) := by
  have hn1 := h.1.1
  have hn2 := h.1.2.1
  have hn3 := h.1.2.2.1
  have hCN := h.cn
  have hMN := h.mn
  obtain ⟨hN, hE, hR, hI⟩ := h.cn
  obtain ⟨-, hEM, hRM, -, -⟩ := h.mn
  unfold pf_P_decades_0 mm_decades
  rw [klet_eq]
  by_cases k1 : 0 ≤ x ∧ x ≤ 2
  · rw [kbind_eq (c_what1 k1), kbind_eq (m_isWhat1 (μ := mT μ) mT0 k1)]
    dsimp only
    rw [if_neg (show ¬ (1 : Int) = 0 by decide)]
    by_cases k2 : 0 ≤ n ∧ n ≤ 60
    · rw [kbind_eq (c_within1 k2), kbind_eq (m_isSoon1 (μ := mT μ) mT0 k2)]
      dsimp only
      rw [if_neg (show ¬ (1 : Int) = 0 by decide)]
      obtain ⟨σ1, a1, a2, a3⟩ := c_decades hCN (s := s) k2
      obtain ⟨μ0, d1, d2, d3⟩ := m_tries hMN
      obtain ⟨μ1, b1, b2, b3⟩ := m_decades hMN h.rv.2 (s := s) (x := x) k2 d2 d3
      have z0 : μ1 0 0 = 0 := b3.2.trans mT0
      rw [kbind_eq a1, kbind_eq d1, klet_eq, kbind_eq b1]
      dsimp only
      by_cases x0 : x = 0
      · rw [if_pos x0, if_pos x0, a2.2.2.1.2.2.2.2.2.2.2.2]
        exact OC.ok h rfl rfl a3 (kpM.th.trans b3.1) z0
      · rw [if_neg x0, if_neg x0]
        by_cases x1 : x = 1
        · rw [if_pos x1, if_pos x1, a2.2.1.2.1, b2.2.1.2.1, kbind_eq (c_total58 (a := 9) (a' := 9) hn1.1 (by decide) (by omega) (fun i i0 i1 => a2.2.2.1.1.scars i0 (by omega))), kbind_eq (m_sumOf b2.2.2.1 (by decide) (by decide) hn1.1 (by decide) (by omega))]
          exact OC.ok h rfl rfl a3 (kpM.th.trans b3.1) z0
        · rw [if_neg x1, if_neg x1, a2.2.1.2.1, b2.2.1.2.1, kbind_eq (c_total58 (a := 1) (a' := 1) hn1.1 (by decide) (by omega) (fun i i0 i1 => a2.2.2.1.1.money i0 (by omega))), kbind_eq (m_sumOf b2.2.2.1 (by decide) (by decide) hn1.1 (by decide) (by omega))]
          exact OC.ok h rfl rfl a3 (kpM.th.trans b3.1) z0
    · rw [kbind_eq (c_within0 k2), kbind_eq (m_isSoon0 (μ := mT μ) mT0 (by decide) k2)]
      exact OC.no h (b := 0) (μ' := mR (mT μ) 2) rfl rfl kpC.rfl (kpM.th.trans kpM.th) (Or.inr ⟨rfl, mR0⟩)
  · rw [kbind_eq (c_what0 k1), kbind_eq (m_isWhat0 (μ := mT μ) mT0 k1)]
    exact OC.no h (b := 0) (μ' := mR (mT μ) 1) rfl rfl kpC.rfl (kpM.th.trans kpM.th) (Or.inl ⟨rfl, mR0⟩)
end DEC

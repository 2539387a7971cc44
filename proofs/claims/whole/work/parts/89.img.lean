/-! CALLS: feel, forget, image, restore -/
section IMG
variable {N M tp : Int} {L : Nat → Int} {PH PF PB : List Int} {σ σ' μ μ' : kM} {q q' : Nat → Int}
theorem RE.no2 (h : RE N M tp L PH PF PB σ μ) : RE N M tp L PH PF PB (kst σ 2 (kup (σ 2) 2 (w32 (σ 2 2 + 1)))) (kst (mT μ) 3 (kup (mT μ 3) 2 (w32 (mT μ 3 2 + 1)))) ∧ kst (mT μ) 3 (kup (mT μ 3) 2 (w32 (mT μ 3 2 + 1))) 0 0 = 0 := by
  have h1 := h.th.refuse (j := 2) (by decide) (v := w32 (σ 2 2 + 1))
  have h2 := h.th.2.2.2.2.2.2.2.1 2 (by decide)
  rw [h2] at h1 ⊢
  exact ⟨h1, by rw [kst_ne (by decide)]; exact mT0⟩
/-- what is felt, one more -/
theorem RE.felt (h : RE N M tp L PH PF PB σ μ) {n : Nat} (hn : μ 0 53 = (n : Int)) (hn8 : n < 8) {p y v : Int} (hp : 0 ≤ p ∧ p < N) (hy : 1 ≤ y ∧ y ≤ 20) (hv : v = 0 ∨ v = 1)
    (e : ∀ c : Nat, c ≠ 29 → c ≠ 33 → c ≠ 34 → c ≠ 35 → σ' c = σ c) (e33 : σ' 33 = kup (σ 33) n p) (e34 : σ' 34 = kup (σ 34) n y) (e35 : σ' 35 = kup (σ 35) n v) (e29 : σ' 29 = kup (σ 29) 4 ((n : Int) + 1))
    (f : ∀ c : Nat, c ≠ 0 → c ≠ 19 → μ' c = μ c) (f0 : ∀ j : Nat, j ≠ 0 → j ≠ 53 → μ' 0 j = μ 0 j) (f53 : μ' 0 53 = (n : Int) + 1) (f19 : μ' 19 = kup (kup (kup (μ 19) (3 * n) p) (3 * n + 1) y) (3 * n + 2) v) : RE N M tp L PH PF PB σ' μ' := by
  obtain ⟨b1, b2, b3, b4, ⟨o, b5, b6, b7⟩, b8, b9, b10⟩ := h.2.2.2.2.1
  refine h.chron (fun c hc => e c (by omega) (by omega) (by omega) (by omega)) ⟨fun c hc => f c (by omega) (by omega), fun j hj => f0 j (by omega) (by omega)⟩ ?_
  rw [f 8 (by decide) (by decide), f 9 (by decide) (by decide), f0 38 (by decide) (by decide), f53, f19]
  refine ⟨b1.kept (e _ (by decide) (by decide) (by decide) (by decide)) (e _ (by decide) (by decide) (by decide) (by decide)) (e _ (by decide) (by decide) (by decide) (by decide)) (e _ (by decide) (by decide) (by decide) (by decide)), b2, by rw [e29, kup_ne (by decide)]; exact b3, b4, ⟨o, b5, by rw [e29, kup_ne (by decide)]; exact b6, fun i hi => ⟨?_, (b7 i hi).2⟩⟩, by rw [e29, kup_eq], by omega, fun i hi => ?_⟩
  · rw [e 32 (by decide) (by decide) (by decide) (by decide)]
    exact RCr.slot (by decide) (b7 i hi).1 (e 4 (by decide) (by decide) (by decide) (by decide)) (e 5 (by decide) (by decide) (by decide) (by decide)) (e 6 (by decide) (by decide) (by decide) (by decide)) (fun _ _ => rfl)
  · rw [e33, e34, e35]
    by_cases ei : i = n
    · subst ei
      have g1 : kup (kup (kup (μ 19) (3 * i) p) (3 * i + 1) y) (3 * i + 2) v (3 * i) = p := by rw [kup_ne (by omega), kup_ne (by omega), kup_eq]
      have g2 : kup (kup (kup (μ 19) (3 * i) p) (3 * i + 1) y) (3 * i + 2) v (3 * i + 1) = y := by rw [kup_ne (by omega), kup_eq]
      have g3 : kup (kup (kup (μ 19) (3 * i) p) (3 * i + 1) y) (3 * i + 2) v (3 * i + 2) = v := kup_eq _ _ _
      rw [g1, g2, g3, kup_eq, kup_eq, kup_eq]
      exact ⟨⟨rfl, rfl, rfl⟩, hp, hy, hv⟩
    · have g : ∀ k : Nat, k < 3 → kup (kup (kup (μ 19) (3 * n) p) (3 * n + 1) y) (3 * n + 2) v (3 * i + k) = μ 19 (3 * i + k) := fun k hk => by rw [kup_ne (by omega), kup_ne (by omega), kup_ne (by omega)]
      have g0 : kup (kup (kup (μ 19) (3 * n) p) (3 * n + 1) y) (3 * n + 2) v (3 * i) = μ 19 (3 * i) := by rw [kup_ne (by omega), kup_ne (by omega), kup_ne (by omega)]
      rw [g0, g 1 (by decide), g 2 (by decide), kup_ne ei, kup_ne ei, kup_ne ei]
      exact b10 i (by omega)
theorem op_feel (h : RE N M tp L PH PF PB σ μ) (p y v : Int) : OC N M tp L PH PF PB thN (pf_P_feel_0 σ p y v) (mm_feel μ p y v) := by
  obtain ⟨hN, hE, hR, hI⟩ := h.cn
  obtain ⟨-, hEM, hRM, -, -⟩ := h.mn
  obtain ⟨b1, b2, b3, b4, b5, b8, b9, b10⟩ := h.2.2.2.2.1
  unfold pf_P_feel_0 mm_feel
  simp only [klet]
  by_cases hp : 0 ≤ p ∧ p < N
  · rw [c_person1 (by rw [hE.2.1]; exact hp), m_isPerson1 mT0 (by rw [hEM.2.1]; exact hp)]
    simp only [Option.bind]
    have hno := h.no2
    have hm := m_refused (μ := mT μ) (x := 2) (Or.inr rfl)
    obtain ⟨n, hn⟩ : ∃ n : Nat, μ 0 53 = (n : Int) := ⟨(μ 0 53).toNat, by omega⟩
    have hn53 : mT μ 0 53 = (n : Int) := (mTj (by decide)).trans hn
    rw [hn] at b8
    rw [if_neg (show ¬ (1 : Int) = 0 by decide), b8, m_within]
    unfold mm_feel_j34
    rw [hm]
    simp only [hn53]
    by_cases c1 : 8 ≤ (n : Int)
    · rw [if_pos c1, if_pos (show (n : Int) = 8 by omega)]
      exact OC.of rfl rfl hno.1 hno.2
    rw [if_neg c1, if_neg (show ¬ (n : Int) = 8 by omega)]
    by_cases c2 : y < 1
    · rw [if_pos c2, if_neg (show ¬ (1 ≤ y ∧ y ≤ 20) by omega), if_pos rfl]
      exact OC.of rfl rfl hno.1 hno.2
    rw [if_neg c2]
    by_cases c3 : y ≤ 20
    · rw [if_pos c3, if_pos (show 1 ≤ y ∧ y ≤ 20 by omega), if_neg (show ¬ (1 : Int) = 0 by decide)]
      have hcl : ∃ vv σ1, (vv = if v = 0 then 0 else 1) ∧ pf_Chronicle_addFelt_29 σ p y v = some σ1 ∧ (∀ c : Nat, c ≠ 29 → c ≠ 33 → c ≠ 34 → c ≠ 35 → σ1 c = σ c) ∧ σ1 33 = kup (σ 33) n p ∧ σ1 34 = kup (σ 34) n y ∧ σ1 35 = kup (σ 35) n vv ∧ σ1 29 = kup (σ 29) 4 ((n : Int) + 1) := by
        refine ⟨_, kst (kst (kst (kst σ 33 (kup (σ 33) n p)) 34 (kup (σ 34) n y)) 35 (kup (σ 35) n (if v = 0 then 0 else 1))) 29 (kup (σ 29) 4 ((n : Int) + 1)), rfl, ?_, fun c h1 h2 h3 h4 => ?_, ?_, ?_, ?_, ?_⟩
        · unfold pf_Chronicle_addFelt_29 pf_Chronicle_addFelt_29_j46
          rw [b8, if_neg c1, kchk_t (by omega)]
          simp only [klet]
          rw [kst_ne (show (29 : Nat) ≠ 33 by decide), b8, kchk_t (by omega), kst_ne (show (34 : Nat) ≠ 33 by decide), kst_ne (show (29 : Nat) ≠ 34 by decide), kst_ne (show (29 : Nat) ≠ 33 by decide), b8, kchk_t (by omega), kchk_t (by omega), Int.toNat_natCast, kst_ne (show (35 : Nat) ≠ 34 by decide), kst_ne (show (35 : Nat) ≠ 33 by decide)]
          simp (disch := decide) only [kst_ne]
          rw [b8, w32_s (by omega) (by omega)]
          by_cases hv : v = 0
          · rw [if_pos hv, if_pos hv]
          · rw [if_neg hv, if_neg hv]
        · rw [kst_ne h1, kst_ne h4, kst_ne h3, kst_ne h2]
        · simp (disch := decide) only [kst_ne, kst_eq]
        · simp (disch := decide) only [kst_ne, kst_eq]
        · simp (disch := decide) only [kst_ne, kst_eq]
        · simp (disch := decide) only [kst_ne, kst_eq]
      obtain ⟨vv, σ1, hvv, a1, a2, a3, a4, a5, a6⟩ := hcl
      rw [a1]
      simp only
      rw [w32_s (v := 3 * (n : Int)) (by omega) (by omega), kchk_t (by omega)]
      have x1 : ∀ g : Nat → Int, kst (mT μ) 19 g 0 53 = (n : Int) := fun g => by rw [kst_ne (by decide)]; exact (mTj (by decide)).trans hn
      rw [x1, w32_s (v := 3 * (n : Int)) (by omega) (by omega), w32_s (v := 3 * (n : Int) + 1) (by omega) (by omega), kchk_t (by omega), kst_eq, kst_st, x1, w32_s (v := 3 * (n : Int)) (by omega) (by omega), w32_s (v := 3 * (n : Int) + 2) (by omega) (by omega), show (3 * (n : Int)).toNat = 3 * n by omega, show (3 * (n : Int) + 1).toNat = 3 * n + 1 by omega, mTc (show (19 : Nat) ≠ 0 by decide)]
      have hmo : (if v = 0 then mm_feel_j87 (kst (mT μ) 19 (kup (kup (μ 19) (3 * n) p) (3 * n + 1) y)) 0 (3 * (n : Int) + 2) else mm_feel_j87 (kst (mT μ) 19 (kup (kup (μ 19) (3 * n) p) (3 * n + 1) y)) 1 (3 * (n : Int) + 2)) = some ((n : Int) + 1, kst (kst (mT μ) 19 (kup (kup (kup (μ 19) (3 * n) p) (3 * n + 1) y) (3 * n + 2) vv)) 0 (kup (mT μ 0) 53 ((n : Int) + 1))) := by
        have key : ∀ z : Int, mm_feel_j87 (kst (mT μ) 19 (kup (kup (μ 19) (3 * n) p) (3 * n + 1) y)) z (3 * (n : Int) + 2) = some ((n : Int) + 1, kst (kst (mT μ) 19 (kup (kup (kup (μ 19) (3 * n) p) (3 * n + 1) y) (3 * n + 2) z)) 0 (kup (mT μ 0) 53 ((n : Int) + 1))) := by
          intro z
          unfold mm_feel_j87
          rw [kchk_t (by omega)]
          simp only [klet]
          rw [kst_eq, kst_st, x1, kst_ne (show (0 : Nat) ≠ 19 by decide), w32_s (by omega) (by omega), kst_eq, kup_eq, show (3 * (n : Int) + 2).toNat = 3 * n + 2 by omega]
        rw [hvv]
        by_cases hv : v = 0
        · rw [if_pos hv, if_pos hv, key]
        · rw [if_neg hv, if_neg hv, key]
      rw [hmo]
      refine OC.of (b := (n : Int) + 1) (σ' := σ1) (by rw [a6, kup_eq]) rfl (h.felt hn (by omega) hp ⟨by omega, c3⟩ (v := vv) (by rw [hvv]; split <;> simp) a2 a3 a4 a5 a6 (fun c h1 h2 => by rw [kst_ne h1, kst_ne h2]; exact mTc h1) (fun j h1 h2 => by rw [kst_eq, kup_ne h2]; exact mTj h1) (by rw [kst_eq, kup_eq]) (by rw [kst_ne (by decide), kst_eq])) (by rw [kst_eq, kup_ne (by decide)]; exact mT0)
    · rw [if_neg c3, if_neg (show ¬ (1 ≤ y ∧ y ≤ 20) by omega), if_pos rfl]
      exact OC.of rfl rfl hno.1 hno.2
  · rw [c_person0 (by rw [hE.2.1]; exact hp), m_isPerson0 mT0 (by rw [hEM.2.1]; exact hp)]
    exact OC.no h (b := 0) (μ' := mR (mT μ) 1) rfl rfl kpC.rfl (kpM.th.trans kpM.th) ⟨rfl, mR0⟩
theorem op_forget (h : RE N M tp L PH PF PB σ μ) : ∃ σ' μ', pf_P_forget_0 σ = some σ' ∧ mm_forget μ = some μ' ∧ RE N M tp L PH PF PB σ' μ' := by
  refine ⟨kst σ 29 (kup (σ 29) 4 0), kst (mT μ) 0 (kup (mT μ 0) 53 0), rfl, rfl, ?_⟩
  obtain ⟨b1, b2, b3, b4, ⟨o, b5, b6, b7⟩, b8, b9, b10⟩ := h.2.2.2.2.1
  have e : ∀ c : Nat, c ≠ 29 → kst σ 29 (kup (σ 29) 4 0) c = σ c := fun c hc => kst_ne hc
  have e29 : kst σ 29 (kup (σ 29) 4 0) 29 = kup (σ 29) 4 0 := kst_eq _ _ _
  generalize kst σ 29 (kup (σ 29) 4 0) = σ1 at e e29
  have f : ∀ c : Nat, c ≠ 0 → kst (mT μ) 0 (kup (mT μ 0) 53 0) c = μ c := fun c hc => by rw [kst_ne hc]; exact mTc hc
  have f0 : ∀ j : Nat, j ≠ 0 → j ≠ 53 → kst (mT μ) 0 (kup (mT μ 0) 53 0) 0 j = μ 0 j := fun j h1 h2 => by rw [kst_eq, kup_ne h2]; exact mTj h1
  have f53 : kst (mT μ) 0 (kup (mT μ 0) 53 0) 0 53 = 0 := by rw [kst_eq, kup_eq]
  generalize kst (mT μ) 0 (kup (mT μ 0) 53 0) = μ1 at f f0 f53
  refine h.chron (fun c hc => e c (by omega)) ⟨fun c hc => f c (by omega), fun j hj => f0 j (by omega) (by omega)⟩ ?_
  rw [f 8 (by decide), f 9 (by decide), f0 38 (by decide) (by decide), f53]
  refine ⟨b1.kept (e _ (by decide)) (e _ (by decide)) (e _ (by decide)) (e _ (by decide)), b2, by rw [e29, kup_ne (by decide)]; exact b3, b4, ⟨o, b5, by rw [e29, kup_ne (by decide)]; exact b6, fun i hi => ⟨?_, (b7 i hi).2⟩⟩, by rw [e29, kup_eq], by decide, fun i hi => absurd hi (by omega)⟩
  rw [e 32 (by decide)]
  exact RCr.slot (by decide) (b7 i hi).1 (e 4 (by decide)) (e 5 (by decide)) (e 6 (by decide)) (fun _ _ => rfl)
/-- a chronicle is copied -/
theorem CR.copy {X W A B I H X' W' A' B' I' H' : Nat} {row row' kept kept' feels feels' : Nat → Int} {acts felt : Int} (h : CR N M tp L σ X W A B I H row kept acts felt feels) (hW : 6 < W) (hW' : 6 < W')
    (e4 : σ' 4 = σ 4) (e5 : σ' 5 = σ 5) (e6 : σ' 6 = σ 6) (eX1 : σ' X' 1 = σ X 1) (eX3 : σ' X' 3 = σ X 3) (eX4 : σ' X' 4 = σ X 4) (eW : ∀ j : Nat, j < 85 → σ' W' j = σ W j) (eA : ∀ j : Nat, j < 3400 → σ' A' j = σ A j) (eB : ∀ j : Nat, j < 8 → σ' B' j = σ B j) (eI : ∀ j : Nat, j < 8 → σ' I' j = σ I j) (eH : ∀ j : Nat, j < 8 → σ' H' j = σ H j)
    (hr : ∀ k : Nat, k < 145 → row' k = row k) (hk : ∀ k : Nat, k < 5800 → kept' k = kept k) (hf : ∀ k : Nat, k < 24 → feels' k = feels k) : CR N M tp L σ' X' W' A' B' I' H' row' kept' acts felt feels' := by
  obtain ⟨b1, b2, b3, b4, ⟨o, b5, b6, b7⟩, b8, b9, b10⟩ := h
  have tr : ∀ (f f' : Nat → Int) (qq : Nat → Int), RCr N M tp L (kst σ W f) W qq → (∀ j : Nat, j < 85 → f' j = f j) → RCr N M tp L (kst σ' W' f') W' qq := by
    intro f f' qq hq hff k hk ho
    rw [← hq k hk ho]
    unfold vC
    rw [kst_ne (show (4 : Nat) ≠ W by omega), kst_ne (show (4 : Nat) ≠ W' by omega), kst_ne (show (5 : Nat) ≠ W by omega), kst_ne (show (5 : Nat) ≠ W' by omega), kst_ne (show (6 : Nat) ≠ W by omega), kst_ne (show (6 : Nat) ≠ W' by omega), e4, e5, e6, kst_eq, kst_eq]
    by_cases c1 : k < 17
    · rw [if_pos c1, if_pos c1, hff k (by omega)]
    rw [if_neg c1, if_neg c1]
    by_cases c2 : k < 29
    · rw [if_pos c2, if_pos c2, hff (k + 32) (by omega)]
    rw [if_neg c2, if_neg c2]
    by_cases c3 : k < 61
    · rw [if_pos c3, if_pos c3, hff (k - 12) (by omega)]
    rw [if_neg c3, if_neg c3]
    by_cases c4 : k < 65
    · rw [if_pos c4, if_pos c4]
    rw [if_neg c4, if_neg c4]
    by_cases c5 : k < 89
    · rw [if_pos c5, if_pos c5]
    rw [if_neg c5, if_neg c5]
    by_cases c6 : k < 113
    · rw [if_pos c6, if_pos c6, hff (k - 28) (by omega)]
    rw [if_neg c6, if_neg c6]
  refine ⟨?_, b2.congr hr, by rw [eX1]; exact b3, b4, ⟨o, b5, by rw [eX3]; exact b6, fun i hi => ⟨?_, ?_⟩⟩, by rw [eX4]; exact b8, b9, fun i hi => ?_⟩
  · have h1 := tr (σ W) (σ' W') row' (by rw [kst_id]; exact b1.congr hr) eW
    rw [kst_id] at h1
    exact h1
  · exact tr _ _ _ ((b7 i hi).1.congr (fun k hk' => hk _ (by omega))) (fun j hj => eA _ (by omega))
  · exact (b7 i hi).2.congr (fun k hk' => hk _ (by omega))
  · rw [eB i (by omega), eI i (by omega), eH i (by omega), hf (3 * i) (by omega), hf (3 * i + 1) (by omega), hf (3 * i + 2) (by omega)]
    exact b10 i hi
theorem m_cp9_23 : mm_copies_0_9_23 μ = some (kst μ 23 (cpz (μ 23) 0 5800 (μ 9))) := by
  unfold mm_copies_0_9_23
  obtain ⟨μ1, h1, h2⟩ := kl_M (body := fun st => mm_copies_0_9_23_l2 st.1 st.2) (fun i μ1 => μ1 = kst μ 23 (cpz (μ 23) 0 i (μ 9))) (fun i => (i : Int)) 5800 (by decide) (fun i μ1 hi hs => by
    subst hs
    refine ⟨_, ?_, rfl⟩
    show mm_copies_0_9_23_l2 (kst μ 23 (cpz (μ 23) 0 i (μ 9))) (i : Int) = _
    unfold mm_copies_0_9_23_l2
    rw [kst_ne (show (9 : Nat) ≠ 23 by decide), kst_eq, kst_st, if_neg (by omega), kchk_t (by omega), kchk_t (by omega), Int.toNat_natCast]
    simp only [klet]
    rw [w32_s (by omega) (by omega), show (i : Int) + 1 = ((i + 1 : Nat) : Int) by omega]
    show _ = some (Sum.inl (kst μ 23 (kup (cpz (μ 23) 0 i (μ 9)) (0 + i) (μ 9 i)), _))
    rw [Nat.zero_add]) (fun μ1 hs => by
    refine ⟨μ1, ?_, hs⟩
    show mm_copies_0_9_23_l2 μ1 ((5800 : Nat) : Int) = _
    unfold mm_copies_0_9_23_l2
    rw [if_pos (by decide)]) (σ := μ) (by show μ = kst μ 23 (μ 23); rw [kst_id]) (b0 := 0) rfl
  rw [h1, h2]
  rfl
theorem m_cp19_24 : mm_copies_0_19_24 μ = some (kst μ 24 (cpz (μ 24) 0 24 (μ 19))) := by
  unfold mm_copies_0_19_24
  obtain ⟨μ1, h1, h2⟩ := kl_M (body := fun st => mm_copies_0_19_24_l2 st.1 st.2) (fun i μ1 => μ1 = kst μ 24 (cpz (μ 24) 0 i (μ 19))) (fun i => (i : Int)) 24 (by decide) (fun i μ1 hi hs => by
    subst hs
    refine ⟨_, ?_, rfl⟩
    show mm_copies_0_19_24_l2 (kst μ 24 (cpz (μ 24) 0 i (μ 19))) (i : Int) = _
    unfold mm_copies_0_19_24_l2
    rw [kst_ne (show (19 : Nat) ≠ 24 by decide), kst_eq, kst_st, if_neg (by omega), kchk_t (by omega), kchk_t (by omega), Int.toNat_natCast]
    simp only [klet]
    rw [w32_s (by omega) (by omega), show (i : Int) + 1 = ((i + 1 : Nat) : Int) by omega]
    show _ = some (Sum.inl (kst μ 24 (kup (cpz (μ 24) 0 i (μ 19)) (0 + i) (μ 19 i)), _))
    rw [Nat.zero_add]) (fun μ1 hs => by
    refine ⟨μ1, ?_, hs⟩
    show mm_copies_0_19_24_l2 μ1 ((24 : Nat) : Int) = _
    unfold mm_copies_0_19_24_l2
    rw [if_pos (by decide)]) (σ := μ) (by show μ = kst μ 24 (μ 24); rw [kst_id]) (b0 := 0) rfl
  rw [h1, h2]
  rfl
theorem m_cp23_9 : mm_copies_0_23_9 μ = some (kst μ 9 (cpz (μ 9) 0 5800 (μ 23))) := by
  unfold mm_copies_0_23_9
  obtain ⟨μ1, h1, h2⟩ := kl_M (body := fun st => mm_copies_0_23_9_l2 st.1 st.2) (fun i μ1 => μ1 = kst μ 9 (cpz (μ 9) 0 i (μ 23))) (fun i => (i : Int)) 5800 (by decide) (fun i μ1 hi hs => by
    subst hs
    refine ⟨_, ?_, rfl⟩
    show mm_copies_0_23_9_l2 (kst μ 9 (cpz (μ 9) 0 i (μ 23))) (i : Int) = _
    unfold mm_copies_0_23_9_l2
    rw [kst_ne (show (23 : Nat) ≠ 9 by decide), kst_eq, kst_st, if_neg (by omega), kchk_t (by omega), kchk_t (by omega), Int.toNat_natCast]
    simp only [klet]
    rw [w32_s (by omega) (by omega), show (i : Int) + 1 = ((i + 1 : Nat) : Int) by omega]
    show _ = some (Sum.inl (kst μ 9 (kup (cpz (μ 9) 0 i (μ 23)) (0 + i) (μ 23 i)), _))
    rw [Nat.zero_add]) (fun μ1 hs => by
    refine ⟨μ1, ?_, hs⟩
    show mm_copies_0_23_9_l2 μ1 ((5800 : Nat) : Int) = _
    unfold mm_copies_0_23_9_l2
    rw [if_pos (by decide)]) (σ := μ) (by show μ = kst μ 9 (μ 9); rw [kst_id]) (b0 := 0) rfl
  rw [h1, h2]
  rfl
theorem m_cp24_19 : mm_copies_0_24_19 μ = some (kst μ 19 (cpz (μ 19) 0 24 (μ 24))) := by
  unfold mm_copies_0_24_19
  obtain ⟨μ1, h1, h2⟩ := kl_M (body := fun st => mm_copies_0_24_19_l2 st.1 st.2) (fun i μ1 => μ1 = kst μ 19 (cpz (μ 19) 0 i (μ 24))) (fun i => (i : Int)) 24 (by decide) (fun i μ1 hi hs => by
    subst hs
    refine ⟨_, ?_, rfl⟩
    show mm_copies_0_24_19_l2 (kst μ 19 (cpz (μ 19) 0 i (μ 24))) (i : Int) = _
    unfold mm_copies_0_24_19_l2
    rw [kst_ne (show (24 : Nat) ≠ 19 by decide), kst_eq, kst_st, if_neg (by omega), kchk_t (by omega), kchk_t (by omega), Int.toNat_natCast]
    simp only [klet]
    rw [w32_s (by omega) (by omega), show (i : Int) + 1 = ((i + 1 : Nat) : Int) by omega]
    show _ = some (Sum.inl (kst μ 19 (kup (cpz (μ 19) 0 i (μ 24)) (0 + i) (μ 24 i)), _))
    rw [Nat.zero_add]) (fun μ1 hs => by
    refine ⟨μ1, ?_, hs⟩
    show mm_copies_0_24_19_l2 μ1 ((24 : Nat) : Int) = _
    unfold mm_copies_0_24_19_l2
    rw [if_pos (by decide)]) (σ := μ) (by show μ = kst μ 19 (μ 19); rw [kst_id]) (b0 := 0) rfl
  rw [h1, h2]
  rfl
theorem m_imgRow : kloop (fun st => mm_image_l28 st.1 st.2) kFuel (μ, 0) = some (kst μ 22 (cpz (μ 22) 0 145 (μ 8))) := by
  obtain ⟨μ1, h1, h2⟩ := kl_M (body := fun st => mm_image_l28 st.1 st.2) (fun i μ1 => μ1 = kst μ 22 (cpz (μ 22) 0 i (μ 8))) (fun i => (i : Int)) 145 (by decide) (fun i μ1 hi hs => by
    subst hs
    refine ⟨_, ?_, rfl⟩
    show mm_image_l28 (kst μ 22 (cpz (μ 22) 0 i (μ 8))) (i : Int) = _
    unfold mm_image_l28
    rw [kst_ne (show (8 : Nat) ≠ 22 by decide), kst_eq, kst_st, if_neg (by omega), kchk_t (by omega), kchk_t (by omega), Int.toNat_natCast]
    simp only [klet]
    rw [w32_s (by omega) (by omega), show (i : Int) + 1 = ((i + 1 : Nat) : Int) by omega]
    show _ = some (Sum.inl (kst μ 22 (kup (cpz (μ 22) 0 i (μ 8)) (0 + i) (μ 8 i)), _))
    rw [Nat.zero_add]) (fun μ1 hs => by
    refine ⟨μ1, ?_, hs⟩
    show mm_image_l28 μ1 ((145 : Nat) : Int) = _
    unfold mm_image_l28
    rw [if_pos (by decide)]) (σ := μ) (by show μ = kst μ 22 (μ 22); rw [kst_id]) (b0 := 0) rfl
  rw [h1, h2]
theorem m_resRow : kloop (fun st => mm_restore_l32 st.1 st.2) kFuel (μ, 0) = some (kst μ 8 (cpz (μ 8) 0 145 (μ 22))) := by
  obtain ⟨μ1, h1, h2⟩ := kl_M (body := fun st => mm_restore_l32 st.1 st.2) (fun i μ1 => μ1 = kst μ 8 (cpz (μ 8) 0 i (μ 22))) (fun i => (i : Int)) 145 (by decide) (fun i μ1 hi hs => by
    subst hs
    refine ⟨_, ?_, rfl⟩
    show mm_restore_l32 (kst μ 8 (cpz (μ 8) 0 i (μ 22))) (i : Int) = _
    unfold mm_restore_l32
    rw [kst_ne (show (22 : Nat) ≠ 8 by decide), kst_eq, kst_st, if_neg (by omega), kchk_t (by omega), kchk_t (by omega), Int.toNat_natCast]
    simp only [klet]
    rw [w32_s (by omega) (by omega), show (i : Int) + 1 = ((i + 1 : Nat) : Int) by omega]
    show _ = some (Sum.inl (kst μ 8 (kup (cpz (μ 8) 0 i (μ 22)) (0 + i) (μ 22 i)), _))
    rw [Nat.zero_add]) (fun μ1 hs => by
    refine ⟨μ1, ?_, hs⟩
    show mm_restore_l32 μ1 ((145 : Nat) : Int) = _
    unfold mm_restore_l32
    rw [if_pos (by decide)]) (σ := μ) (by show μ = kst μ 8 (μ 8); rw [kst_id]) (b0 := 0) rfl
  rw [h1, h2]
theorem cpz0 {f0 v : Nat → Int} {n k : Nat} (hk : k < n) : cpz f0 0 n v k = v k := by
  rw [cpz_at, if_pos (by omega), Nat.sub_zero]
theorem va0 {f g : Nat → Int} {n k : Nat} (hk : k < n) : va_cpy f g 0 0 n k = f k := by
  unfold va_cpy
  rw [if_pos (by omega), show 0 + (k - 0) = k by omega]
theorem op_image (h : RE N M tp L PH PF PB σ μ) : ∃ σ' μ', pf_P_image_0 σ = some σ' ∧ mm_image μ = some μ' ∧ RE N M tp L PH PF PB σ' μ' := by
  have hcl : ∃ σ1, pf_P_image_0 σ = some σ1 ∧ (∀ c : Nat, c ≠ 0 → c ≠ 36 → c ≠ 38 → c ≠ 39 → c ≠ 40 → c ≠ 41 → c ≠ 42 → σ1 c = σ c) ∧ (∀ j : Nat, j ≠ 8 → σ1 0 j = σ 0 j) ∧ σ1 0 8 = 1 ∧ (σ1 36 1 = σ 29 1 ∧ σ1 36 3 = σ 29 3 ∧ σ1 36 4 = σ 29 4) ∧ (∀ j : Nat, j < 85 → σ1 38 j = σ 31 j) ∧ (∀ j : Nat, j < 3400 → σ1 39 j = σ 32 j) ∧ (∀ j : Nat, j < 8 → σ1 40 j = σ 33 j) ∧ (∀ j : Nat, j < 8 → σ1 41 j = σ 34 j) ∧ (∀ j : Nat, j < 8 → σ1 42 j = σ 35 j) := by
    refine ⟨_, rfl, fun c h0 h1 h2 h3 h4 h5 h6 => ?_, fun j hj => ?_, ?_, ⟨?_, ?_, ?_⟩, fun j hj => ?_, fun j hj => ?_, fun j hj => ?_, fun j hj => ?_, fun j hj => ?_⟩
    · rw [kst_ne h0, kst_ne h6, kst_ne h5, kst_ne h4, kst_ne h1, kst_ne h3, kst_ne h1, kst_ne h1, kst_ne h2]
    · rw [kst_eq, kup_ne hj]
      simp (disch := decide) only [kst_ne]
    · rw [kst_eq, kup_eq]
    · simp (disch := decide) only [kst_ne, kst_eq, kup_ne, kup_eq]
    · simp (disch := decide) only [kst_ne, kst_eq, kup_ne, kup_eq]
    · simp (disch := decide) only [kst_ne, kst_eq, kup_ne, kup_eq]
    · simp (disch := decide) only [kst_ne, kst_eq]
      exact va0 hj
    · simp (disch := decide) only [kst_ne, kst_eq]
      exact va0 hj
    · simp (disch := decide) only [kst_ne, kst_eq]
      exact va0 hj
    · simp (disch := decide) only [kst_ne, kst_eq]
      exact va0 hj
    · simp (disch := decide) only [kst_ne, kst_eq]
      exact va0 hj
  have hmo : ∃ μ1, mm_image μ = some μ1 ∧ (∀ c : Nat, c ≠ 0 → c ≠ 22 → c ≠ 23 → c ≠ 24 → μ1 c = μ c) ∧ (∀ j : Nat, j ≠ 0 → j ≠ 58 → j ≠ 59 → j ≠ 60 → μ1 0 j = μ 0 j) ∧ μ1 0 58 = 1 ∧ μ1 0 59 = μ 0 38 ∧ μ1 0 60 = μ 0 53 ∧ (∀ k : Nat, k < 145 → μ1 22 k = μ 8 k) ∧ (∀ k : Nat, k < 5800 → μ1 23 k = μ 9 k) ∧ (∀ k : Nat, k < 24 → μ1 24 k = μ 19 k) := by
    unfold mm_image
    simp only [klet]
    rw [m_imgRow]
    simp only [Option.bind]
    rw [m_cp9_23]
    simp only
    rw [m_cp19_24]
    refine ⟨_, rfl, fun c h0 h1 h2 h3 => ?_, fun j h0 h1 h2 h3 => ?_, ?_, ?_, ?_, fun k hk => ?_, fun k hk => ?_, fun k hk => ?_⟩
    · rw [kst_ne h3, kst_ne h2, kst_ne h1, kst_ne h0, kst_ne h0, kst_ne h0, kst_ne h0]
    · simp (disch := decide) only [kst_ne, kst_eq]
      rw [kup_ne h3, kup_ne h2, kup_ne h1, kup_ne h0]
    · simp (disch := decide) only [kst_ne, kst_eq, kup_ne, kup_eq]
    · simp (disch := decide) only [kst_ne, kst_eq, kup_ne, kup_eq]
    · simp (disch := decide) only [kst_ne, kst_eq, kup_ne, kup_eq]
    · simp (disch := decide) only [kst_ne, kst_eq]
      exact cpz0 hk
    · simp (disch := decide) only [kst_ne, kst_eq]
      exact cpz0 hk
    · simp (disch := decide) only [kst_ne, kst_eq]
      exact cpz0 hk
  obtain ⟨σ1, a1, a2, a3, a4, ⟨a5, a6, a7⟩, a8, a9, a10, a11, a12⟩ := hcl
  obtain ⟨μ1, c1, c2, c3, c4, c5, c6, c7, c8, c9⟩ := hmo
  refine ⟨σ1, μ1, a1, c1, ?_⟩
  obtain ⟨r1, r2, r3, r4, r5, r6, r7, r8, r9, r10⟩ := h
  have e : ∀ c : Nat, 0 < c → c < 36 → σ1 c = σ c := fun c h0 h1 => a2 c (by omega) (by omega) (by omega) (by omega) (by omega) (by omega) (by omega)
  have f : ∀ c : Nat, 0 < c → c < 22 → μ1 c = μ c := fun c h0 h1 => c2 c (by omega) (by omega) (by omega) (by omega)
  refine ⟨r1, r2.kept (e _ (by decide) (by decide)) (e _ (by decide) (by decide)) (e _ (by decide) (by decide)) (e _ (by decide) (by decide)) (e _ (by decide) (by decide)), r3.kept (fun j h1 h2 => c3 j (by omega) (by omega) (by omega) (by omega)) (f 1 (by decide) (by decide)), by rw [c3 48 (by decide) (by decide) (by decide) (by decide)]; exact r4, ?_, ?_, ?_, ?_, ?_, ?_⟩
  · rw [f 8 (by decide) (by decide), f 9 (by decide) (by decide), c3 38 (by decide) (by decide) (by decide) (by decide), c3 53 (by decide) (by decide) (by decide) (by decide), f 19 (by decide) (by decide)]
    exact r5.kept (by decide) (e _ (by decide) (by decide)) (e _ (by decide) (by decide)) (e _ (by decide) (by decide)) (e _ (by decide) (by decide)) (e _ (by decide) (by decide)) (e _ (by decide) (by decide)) (e _ (by decide) (by decide)) (e _ (by decide) (by decide)) (e _ (by decide) (by decide)) (fun _ _ => rfl)
  · rw [a3 1 (by decide), c3 9 (by decide) (by decide) (by decide) (by decide), e 1 (by decide) (by decide), f 2 (by decide) (by decide)]
    exact r6
  · rw [a3 2 (by decide), c3 11 (by decide) (by decide) (by decide) (by decide)]
    exact r7
  · rw [e 2 (by decide) (by decide), f 3 (by decide) (by decide)]
    exact r8
  · rw [a4, c4]
    exact ⟨rfl, Or.inr rfl⟩
  · intro _
    rw [c5, c6]
    exact r5.copy (by decide) (by decide) (e 4 (by decide) (by decide)) (e 5 (by decide) (by decide)) (e 6 (by decide) (by decide)) a5 a6 a7 a8 a9 a10 a11 a12 c7 c8 c9
theorem op_restore (h : RE N M tp L PH PF PB σ μ) : OP N M tp L PH PF PB (pf_P_restore_0 σ) (mm_restore μ) := by
  obtain ⟨r1, r2, r3, r4, r5, r6, r7, r8, r9, r10⟩ := h
  have h : RE N M tp L PH PF PB σ μ := ⟨r1, r2, r3, r4, r5, r6, r7, r8, r9, r10⟩
  unfold pf_P_restore_0 mm_restore
  simp only [klet]
  rw [show kst μ 0 (kup (μ 0) 0 0) 0 58 = μ 0 58 from mTj (by decide), r9.1]
  by_cases hz : μ 0 58 = 0
  · rw [if_pos hz, if_pos hz]
    unfold pf_P_restore_0_j18
    rw [r9.1, kchk_t r9.2]
    exact ⟨_, _, _, rfl, by rw [hz], h.th⟩
  have h1 : μ 0 58 = 1 := r9.2.resolve_left hz
  rw [if_neg hz, if_neg hz]
  have hcl : ∃ σ1, pf_Chronicle_copyFrom_29_36 σ = some σ1 ∧ (∀ c : Nat, c ≠ 29 → c ≠ 31 → c ≠ 32 → c ≠ 33 → c ≠ 34 → c ≠ 35 → σ1 c = σ c) ∧ (σ1 29 1 = σ 36 1 ∧ σ1 29 3 = σ 36 3 ∧ σ1 29 4 = σ 36 4) ∧ (∀ j : Nat, j < 85 → σ1 31 j = σ 38 j) ∧ (∀ j : Nat, j < 3400 → σ1 32 j = σ 39 j) ∧ (∀ j : Nat, j < 8 → σ1 33 j = σ 40 j) ∧ (∀ j : Nat, j < 8 → σ1 34 j = σ 41 j) ∧ (∀ j : Nat, j < 8 → σ1 35 j = σ 42 j) := by
    refine ⟨_, rfl, fun c h1 h2 h3 h4 h5 h6 => ?_, ⟨?_, ?_, ?_⟩, fun j hj => ?_, fun j hj => ?_, fun j hj => ?_, fun j hj => ?_, fun j hj => ?_⟩
    · rw [kst_ne h6, kst_ne h5, kst_ne h4, kst_ne h1, kst_ne h3, kst_ne h1, kst_ne h1, kst_ne h2]
    · simp (disch := decide) only [kst_ne, kst_eq, kup_ne, kup_eq]
    · simp (disch := decide) only [kst_ne, kst_eq, kup_ne, kup_eq]
    · simp (disch := decide) only [kst_ne, kst_eq, kup_ne, kup_eq]
    · simp (disch := decide) only [kst_ne, kst_eq]
      exact va0 hj
    · simp (disch := decide) only [kst_ne, kst_eq]
      exact va0 hj
    · simp (disch := decide) only [kst_ne, kst_eq]
      exact va0 hj
    · simp (disch := decide) only [kst_ne, kst_eq]
      exact va0 hj
    · simp (disch := decide) only [kst_ne, kst_eq]
      exact va0 hj
  obtain ⟨σ1, a1, a2, ⟨a5, a6, a7⟩, a8, a9, a10, a11, a12⟩ := hcl
  rw [a1]
  simp only [Option.bind]
  rw [m_resRow]
  simp only
  rw [m_cp23_9]
  simp only
  rw [m_cp24_19]
  unfold pf_P_restore_0_j18
  rw [a2 0 (by decide) (by decide) (by decide) (by decide) (by decide) (by decide), r9.1, h1, kchk_t (Or.inr rfl)]
  refine ⟨1, σ1, _, rfl, rfl, ?_⟩
  refine h.chron (fun c hc => a2 c (by omega) (by omega) (by omega) (by omega) (by omega) (by omega)) ⟨fun c hc => ?_, fun j hj => ?_⟩ ?_
  · rw [kst_ne (by omega), kst_ne (by omega), kst_ne (by omega), kst_ne (by omega), kst_ne (by omega), kst_ne (by omega)]
  · simp (disch := decide) only [kst_ne, kst_eq]
    rw [kup_ne (by omega), kup_ne (by omega), kup_ne (by omega)]
  · simp (disch := decide) only [kst_ne, kst_eq, kup_ne, kup_eq]
    refine (r10 h1).copy (by decide) (by decide) ?_ ?_ ?_ a5 a6 a7 a8 a9 a10 a11 a12 (fun k hk => cpz0 hk) (fun k hk => cpz0 hk) (fun k hk => cpz0 hk)
    · exact a2 4 (by decide) (by decide) (by decide) (by decide) (by decide) (by decide)
    · exact a2 5 (by decide) (by decide) (by decide) (by decide) (by decide) (by decide)
    · exact a2 6 (by decide) (by decide) (by decide) (by decide) (by decide) (by decide)
end IMG

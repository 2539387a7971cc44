/-! CALLS: undo, years, feel, forget -/
section CHR
variable {N M tp : Int} {L : Nat → Int} {PH PF PB : List Int} {σ σ' μ μ' : kM} {q q' : Nat → Int}
theorem op_undo (h : RE N M tp L PH PF PB σ μ) : OP N M tp L PH PF PB (pf_P_undo_0 σ) (mm_undo μ) := by
  obtain ⟨b1, b2, b3, b4, ⟨o, b5, b6, b7⟩, b8, b9, b10⟩ := h.2.2.2.2.1
  unfold pf_P_undo_0 mm_undo
  simp only [klet]
  rw [b3, show kst μ 0 (kup (μ 0) 0 0) 0 38 = μ 0 38 from mTj (by decide)]
  by_cases hz : μ 0 38 = 0
  · rw [if_pos hz, if_pos hz]
    exact ⟨_, _, _, rfl, rfl, h.th⟩
  rw [if_neg hz, if_neg hz]
  obtain ⟨a, ha⟩ : ∃ a : Nat, μ 0 38 = ((a + 1 : Nat) : Int) := ⟨(μ 0 38).toNat - 1, by omega⟩
  have ha2 : a < 40 := by omega
  -- the reference
  have e38 : w32 (μ 0 38 - 1) = (a : Int) := by
    rw [ha, w32_s (by omega) (by omega)]
    omega
  rw [e38]
  have f0 : ∀ j : Nat, j ≠ 0 → j ≠ 38 → kst (mT μ) 0 (kup (mT μ 0) 38 (a : Int)) 0 j = μ 0 j := fun j h1 h2 => by rw [kst_eq, kup_ne h2]; exact mTj h1
  have f38 : kst (mT μ) 0 (kup (mT μ 0) 38 (a : Int)) 0 38 = (a : Int) := by rw [kst_eq, kup_eq]
  have f : ∀ c : Nat, c ≠ 0 → kst (mT μ) 0 (kup (mT μ 0) 38 (a : Int)) c = μ c := fun c hc => by rw [kst_ne hc]; exact mTc hc
  show OP N M tp L PH PF PB _ ((kloop (fun st => mm_undo_l26 st.1 st.2) kFuel (kst (mT μ) 0 (kup (mT μ 0) 38 (a : Int)), 0)).bind fun σ_9 => some (σ_9 0 38, σ_9))
  generalize kst (mT μ) 0 (kup (mT μ 0) 38 (a : Int)) = μ1 at f0 f38 f
  obtain ⟨μ2, h1, h2⟩ := kl_M (body := fun st => mm_undo_l26 st.1 st.2) (fun i μ2 => μ2 = kst μ1 8 (cpz (μ1 8) 0 i (fun k => μ 9 (145 * a + k)))) (fun i => (i : Int)) 145 (by decide) (fun i μ2 hi hs => by
    subst hs
    refine ⟨_, ?_, rfl⟩
    show mm_undo_l26 (kst μ1 8 (cpz (μ1 8) 0 i (fun k => μ 9 (145 * a + k)))) (i : Int) = _
    unfold mm_undo_l26
    rw [kst_ne (show (0 : Nat) ≠ 8 by decide), f38, kst_ne (show (9 : Nat) ≠ 8 by decide), kst_eq, kst_st, if_neg (by omega), w32_s (v := 145 * (a : Int)) (by omega) (by omega), w32_s (v := 145 * (a : Int) + (i : Int)) (by omega) (by omega), kchk_t (by omega), kchk_t (by omega), f 9 (by decide)]
    simp only [klet]
    rw [w32_s (by omega) (by omega), Int.toNat_natCast, show (145 * (a : Int) + (i : Int)).toNat = 145 * a + i by omega, show (i : Int) + 1 = ((i + 1 : Nat) : Int) by omega]
    show _ = some (Sum.inl (kst μ1 8 (kup (cpz (μ1 8) 0 i (fun k => μ 9 (145 * a + k))) (0 + i) (μ 9 (145 * a + i))), _))
    rw [Nat.zero_add]) (fun μ2 hs => by
    refine ⟨μ2, ?_, hs⟩
    show mm_undo_l26 μ2 ((145 : Nat) : Int) = _
    unfold mm_undo_l26
    rw [if_pos (by decide)]) (σ := μ1) (by show μ1 = kst μ1 8 (μ1 8); rw [kst_id]) (b0 := 0) rfl
  rw [h1]
  have g0 : μ2 0 = μ1 0 := by rw [h2, kst_ne (by decide)]
  have g8 : ∀ k : Nat, k < 145 → μ2 8 k = μ 9 (145 * a + k) := fun k hk => by rw [h2, kst_eq, cpz_at, if_pos (by omega), Nat.sub_zero]
  have gc : ∀ c : Nat, c ≠ 0 → c ≠ 8 → μ2 c = μ c := fun c hc1 hc2 => by rw [h2, kst_ne hc2]; exact f c hc1
  clear h2
  -- the class
  obtain ⟨pl, hpl⟩ : ∃ pl, (o + a) % 40 = pl := ⟨_, rfl⟩
  have hp40 : pl < 40 := by omega
  have hc : pf_Chronicle_recall_29 σ = some (kst (kst σ 29 (kup (σ 29) 1 (a : Int))) 31 (va_cpy (σ 32) (σ 31) (pl * 85) 0 85)) := by
    unfold pf_Chronicle_recall_29
    have ex : krem (w32 (kst σ 29 (kup (σ 29) 1 (a : Int)) 29 3 + kst σ 29 (kup (σ 29) 1 (a : Int)) 29 1)) 40 = (pl : Int) := by
      rw [kst_eq, kup_eq, kup_ne (by decide), b6, w32_s (by omega) (by omega), show (o : Int) + (a : Int) = ((o + a : Nat) : Int) by omega, krem40 (by omega), hpl]
    rw [b3, if_neg (by omega), e38]
    show klet (krem (w32 (kst σ 29 (kup (σ 29) 1 (a : Int)) 29 3 + kst σ 29 (kup (σ 29) 1 (a : Int)) 29 1)) 40) (fun x => kchk ((0 : Int) ≤ (w32 (x * 85)) ∧ (0 : Int) ≤ 0 ∧ (0 : Int) ≤ 85 ∧ (w32 (x * 85)) + 85 ≤ (3400 : Int) ∧ 0 + 85 ≤ (85 : Int)) (some (kst (kst σ 29 (kup (σ 29) 1 (a : Int))) 31 (va_cpy (kst σ 29 (kup (σ 29) 1 (a : Int)) 32) (kst σ 29 (kup (σ 29) 1 (a : Int)) 31) (w32 (x * 85)).toNat 0 85)))) = _
    generalize krem (w32 (kst σ 29 (kup (σ 29) 1 (a : Int)) 29 3 + kst σ 29 (kup (σ 29) 1 (a : Int)) 29 1)) 40 = x at ex
    show kchk ((0 : Int) ≤ (w32 (x * 85)) ∧ (0 : Int) ≤ 0 ∧ (0 : Int) ≤ 85 ∧ (w32 (x * 85)) + 85 ≤ (3400 : Int) ∧ 0 + 85 ≤ (85 : Int)) (some (kst (kst σ 29 (kup (σ 29) 1 (a : Int))) 31 (va_cpy (kst σ 29 (kup (σ 29) 1 (a : Int)) 32) (kst σ 29 (kup (σ 29) 1 (a : Int)) 31) (w32 (x * 85)).toNat 0 85))) = _
    rw [c_rem3 ex hp40, kst_ne (show (32 : Nat) ≠ 29 by decide), kst_ne (show (31 : Nat) ≠ 29 by decide)]
    refine kchk_t ⟨?_, Int.le_refl _, by decide, ?_, by decide⟩
    · rw [ex, w32_s (by omega) (by omega)]
      omega
    · rw [ex, w32_s (by omega) (by omega)]
      omega
  have e : ∀ c : Nat, c ≠ 29 → c ≠ 31 → kst (kst σ 29 (kup (σ 29) 1 (a : Int))) 31 (va_cpy (σ 32) (σ 31) (pl * 85) 0 85) c = σ c := fun c h1 h2 => by rw [kst_ne h2, kst_ne h1]
  have e29 : kst (kst σ 29 (kup (σ 29) 1 (a : Int))) 31 (va_cpy (σ 32) (σ 31) (pl * 85) 0 85) 29 = kup (σ 29) 1 (a : Int) := by rw [kst_ne (by decide), kst_eq]
  have e31 : kst (kst σ 29 (kup (σ 29) 1 (a : Int))) 31 (va_cpy (σ 32) (σ 31) (pl * 85) 0 85) 31 = va_cpy (σ 32) (σ 31) (pl * 85) 0 85 := kst_eq _ _ _
  rw [hc]
  generalize kst (kst σ 29 (kup (σ 29) 1 (a : Int))) 31 (va_cpy (σ 32) (σ 31) (pl * 85) 0 85) = σ1 at e e29 e31
  refine ⟨(a : Int), σ1, μ2, ?_, ?_, ?_⟩
  · show some (σ1 29 1, σ1) = _
    rw [e29, kup_eq]
  · show some (μ2 0 38, μ2) = _
    rw [g0, f38]
  refine h.chron (fun c hc => e c (by omega) (by omega)) ⟨fun c hc => gc c (by omega) (by omega), fun j hj => by rw [g0]; exact f0 j (by omega) (by omega)⟩ ?_
  rw [gc 9 (by decide) (by decide), g0, f38, f0 53 (by decide) (by decide), gc 19 (by decide) (by decide)]
  have hb := b7 a (by omega)
  refine ⟨?_, hb.2.congr g8, by rw [e29, kup_eq], by omega, ⟨o, b5, by rw [e29, kup_ne (by decide)]; exact b6, fun i hi => ⟨?_, (b7 i (by omega)).2⟩⟩, by rw [e29, kup_ne (by decide)]; exact b8, b9, ?_⟩
  · have h3 : RCr N M tp L (kst σ1 31 (σ1 31)) 31 (μ2 8) := RCr.slot (by decide) (hb.1.congr g8) (e 4 (by decide) (by decide)) (e 5 (by decide) (by decide)) (e 6 (by decide) (by decide)) (fun j hj => by
      rw [e31, hpl]
      unfold va_cpy
      rw [if_pos (by omega), show pl * 85 + (j - 0) = 85 * pl + j by omega])
    rw [kst_id] at h3
    exact h3
  · rw [e 32 (by decide) (by decide)]
    exact RCr.slot (by decide) (b7 i (by omega)).1 (e 4 (by decide) (by decide)) (e 5 (by decide) (by decide)) (e 6 (by decide) (by decide)) (fun _ _ => rfl)
  · rw [e 33 (by decide) (by decide), e 34 (by decide) (by decide), e 35 (by decide) (by decide)]
    exact b10
/-- years, one behind the other -/
def yrs (N M : Int) (PH PF PB : List Int) (L : Nat → Int) (n : Nat) (q : Nat → Int) : Nat → Int := kit (fun _ q => sp_year N M PH PF PB L 0 q) n q
theorem yrs_IV (hE : EN N M tp L PH PF PB) (hI : IV M tp L q) (n : Nat) : IV M tp L (yrs N M PH PF PB L n q) := kit_ind n hI (fun _ q _ h => IV.year h hE)
theorem yrs_HB (hE : EN N M tp L PH PF PB) (hI : IV M tp L q) {Y : Int} (hH : HB Y q) (n : Nat) (hY : Y + (n : Int) < 800000) : HB (Y + (n : Int)) (yrs N M PH PF PB L n q) := by
  induction n with
  | zero =>
    rw [show Y + ((0 : Nat) : Int) = Y by omega]
    exact hH
  | succ n ih =>
    rw [show Y + ((n + 1 : Nat) : Int) = Y + (n : Int) + 1 by omega]
    exact HB.year (ih (by omega)) (by omega) (yrs_IV hE hI n) hE
theorem yrs_agr (hE : EN N M tp L PH PF PB) (hI : IV M tp L q) (h : agr (fun k => k < 145) q q') (n : Nat) : agr (fun k => k < 145) (yrs N M PH PF PB L n q) (yrs N M PH PF PB L n q') := by
  induction n with
  | zero => exact h
  | succ n ih => exact (ih.year (fun k hk => hk) (yrs_IV hE hI n) hE 0).sub (fun k hk => Or.inl hk)
/-- a row with the counters that are there -/
def tvC (σ : kM) (T A B C D : Nat) (row : Nat → Int) : Nat → Int := fun k =>
  if k < 145 then row k else if k < 149 then σ A (k - 145) else if k < 153 then σ B (k - 149) else if k < 157 then σ C (k - 153) else if k < 161 then 0 else if k < 193 then σ D (k - 161) else if k = 193 then σ T 4 else if k = 194 then σ T 8 else if k = 195 then σ T 6 else if k = 201 then σ T 7 else if k = 202 then σ T 9 else if k = 203 then σ T 5 else 0
theorem tvC_RT (σ : kM) (T A B C D : Nat) (row : Nat → Int) : RT σ T A B C D (tvC σ T A B C D row) := by
  refine ⟨fun k hk => ⟨?_, ?_, ?_⟩, fun k hk => ?_, rfl, rfl, rfl, rfl, rfl, rfl⟩
  · unfold tvC
    rw [if_neg (by omega), if_pos (by omega), show 145 + k - 145 = k by omega]
  · unfold tvC
    rw [if_neg (by omega), if_neg (by omega), if_pos (by omega), show 149 + k - 149 = k by omega]
  · unfold tvC
    rw [if_neg (by omega), if_neg (by omega), if_neg (by omega), if_pos (by omega), show 153 + k - 153 = k by omega]
  · unfold tvC
    rw [if_neg (by omega), if_neg (by omega), if_neg (by omega), if_neg (by omega), if_neg (by omega), if_pos (by omega), show 161 + k - 161 = k by omega]
def tvM (μ : kM) (row : Nat → Int) : Nat → Int := fun k =>
  if k < 145 then row k else if k < 149 then μ 10 (k - 145) else if k < 153 then μ 11 (k - 149) else if k < 157 then μ 12 (k - 153) else if k < 161 then μ 13 (k - 157) else if k < 193 then μ 14 (k - 161) else if k = 193 then μ 0 44 else if k = 194 then μ 0 45 else if k = 195 then μ 0 49 else if k = 196 then μ 0 50 else if k < 201 then μ 17 (k - 197) else 0
theorem tvM_RM (μ : kM) (row : Nat → Int) : RMt μ (tvM μ row) := by
  refine ⟨fun k hk => ⟨?_, ?_, ?_, ?_, ?_⟩, fun k hk => ?_, rfl, rfl, rfl, rfl⟩
  · unfold tvM
    rw [if_neg (by omega), if_pos (by omega), show 145 + k - 145 = k by omega]
  · unfold tvM
    rw [if_neg (by omega), if_neg (by omega), if_pos (by omega), show 149 + k - 149 = k by omega]
  · unfold tvM
    rw [if_neg (by omega), if_neg (by omega), if_neg (by omega), if_pos (by omega), show 153 + k - 153 = k by omega]
  · unfold tvM
    rw [if_neg (by omega), if_neg (by omega), if_neg (by omega), if_neg (by omega), if_pos (by omega), show 157 + k - 157 = k by omega]
  · unfold tvM
    rw [if_neg (by omega), if_neg (by omega), if_neg (by omega), if_neg (by omega), if_neg (by omega), if_neg (by omega), if_neg (by omega), if_neg (by omega), if_neg (by omega), if_neg (by omega), if_pos (by omega), show 197 + k - 197 = k by omega]
  · unfold tvM
    rw [if_neg (by omega), if_neg (by omega), if_neg (by omega), if_neg (by omega), if_neg (by omega), if_pos (by omega), show 161 + k - 161 = k by omega]
theorem op_years (h : RE N M tp L PH PF PB σ μ) (x : Int) : OP N M tp L PH PF PB (pf_P_years_0 σ x) (mm_years μ x) := by
  have hR := h.rc
  have hV := h.rv
  have hN := h.1
  unfold pf_P_years_0 mm_years
  simp only [klet]
  rw [m_within]
  simp only [Option.bind]
  rw [show (0 : Int).toNat = 0 from rfl, hR.year, show kst μ 0 (kup (μ 0) 0 0) 8 = μ 8 from mTc (by decide)]
  have hno := h.no
  have hm := m_refused (μ := mT μ) (x := 1) (Or.inl rfl)
  unfold pf_P_years_0_j33 mm_years_j29
  rw [c_refused, hm]
  by_cases c1 : x < 1
  · rw [if_pos c1, if_neg (show ¬ (1 ≤ x ∧ x ≤ 20) by omega), if_pos rfl]
    exact ⟨_, _, _, rfl, rfl, hno.1⟩
  rw [if_neg c1]
  by_cases c2 : 20 < x
  · rw [if_pos c2, if_neg (show ¬ (1 ≤ x ∧ x ≤ 20) by omega), if_pos rfl]
    exact ⟨_, _, _, rfl, rfl, hno.1⟩
  rw [if_neg c2, if_pos (show 1 ≤ x ∧ x ≤ 20 by omega), if_neg (show ¬ (1 : Int) = 0 by decide)]
  have hy0 := hV.2.1
  rw [w32_s (v := μ 8 0 + x) (by omega) (by omega)]
  by_cases c3 : μ 8 0 + x ≤ 9999
  · rw [if_pos c3, if_pos c3]
    obtain ⟨σ1, μ1, k1, k2, k3, k4, k5, k6⟩ := act_keep h.th mT0
    have k5 : μ1 8 = μ 8 := k5.trans (mTc (by decide))
    rw [k1, k2]
    simp only
    obtain ⟨hN1, hE1, hR1, hI1⟩ := k3.cn
    have hEM1 := k3.2.2.1
    have hac1 := k3.2.2.2.1
    rw [k5] at hR1 hI1
    have hx0 : ((x.toNat : Nat) : Int) = x := by omega
    -- the class
    have qC0 : ∀ k : Nat, k < 145 → tvC σ1 44 45 46 47 48 (μ 8) k = μ 8 k := fun k hk => if_pos hk
    have iC : IV M tp L (tvC σ1 44 45 46 47 48 (μ 8)) := hI1.congr qC0
    have rC : RS N M tp L σ1 31 44 45 46 47 48 (tvC σ1 44 45 46 47 48 (μ 8)) := ⟨hR1.congr qC0, tvC_RT _ _ _ _ _ _ _⟩
    generalize tvC σ1 44 45 46 47 48 (μ 8) = qC at qC0 iC rC
    obtain ⟨σ2, s1, s2, s3⟩ := kl_M (body := fun st => pf_P_years_0_l47 st.1 x st.2) (fun i σ2 => RS N M tp L σ2 31 44 45 46 47 48 (yrs N M PH PF PB L i qC) ∧ fr43 σ1 σ2) (fun i => (i : Int)) x.toNat (by omega) (fun i σ2 hi hs => by
      obtain ⟨σ3, t1, t2, t3⟩ := cs_year43 (EC43.fr hE1 hs.2) hN hs.1 (yrs_IV hN iC i) 0
      refine ⟨σ3, ?_, t2, hs.2.trans t3⟩
      show pf_P_years_0_l47 σ2 x (i : Int) = _
      unfold pf_P_years_0_l47
      rw [if_neg (by omega), t1]
      simp only [Option.bind, klet]
      rw [w32_s (by omega) (by omega)]
      rfl) (fun σ2 hs => by
      refine ⟨σ2, ?_, hs⟩
      show pf_P_years_0_l47 σ2 x ((x.toNat : Nat) : Int) = _
      unfold pf_P_years_0_l47
      rw [if_pos (by omega)]) (σ := σ1) ⟨rC, frS.rfl⟩ (b0 := 0) rfl
    -- the reference
    have qM0 : ∀ k : Nat, k < 145 → tvM μ1 (μ 8) k = μ 8 k := fun k hk => if_pos hk
    have iM : IV M tp L (tvM μ1 (μ 8)) := hI1.congr qM0
    have rM : RM μ1 0 (tvM μ1 (μ 8)) := ⟨fun k hk => by rw [qM0 k hk, k5]; show μ 8 (0 + k) = _; rw [Nat.zero_add], tvM_RM _ _⟩
    generalize tvM μ1 (μ 8) = qM at qM0 iM rM
    obtain ⟨μ2, u1, u2, u3⟩ := kl_M (body := fun st => mm_years_l41 st.1 x st.2) (fun i μ2 => RM μ2 0 (yrs N M PH PF PB L i qM) ∧ frM 0 μ1 μ2) (fun i => (i : Int)) x.toNat (by omega) (fun i μ2 hi hs => by
      obtain ⟨μ3, t1, t2, t3⟩ := ms_year (hEM1.fr hs.2) hN hs.1 (yrs_IV hN iM i) (by decide) (by decide) (acc := 0) (by rw [hs.2.2.1 48 (by decide) (by decide) (by decide) (by decide)]; exact hac1)
      refine ⟨μ3, ?_, t2, hs.2.trans t3⟩
      show mm_years_l41 μ2 x (i : Int) = _
      unfold mm_years_l41
      rw [if_neg (by omega), t1]
      simp only [Option.bind, klet]
      rw [w32_s (by omega) (by omega)]
      rfl) (fun μ2 hs => by
      refine ⟨μ2, ?_, hs⟩
      show mm_years_l41 μ2 x ((x.toNat : Nat) : Int) = _
      unfold mm_years_l41
      rw [if_pos (by omega)]) (σ := μ1) ⟨rM, frM.rfl⟩ (b0 := 0) rfl
    rw [s1, u1]
    have hag : agr (fun k => k < 145) qC qM := fun k hk => by rw [qC0 k hk, qM0 k hk]
    have hrow : ∀ k : Nat, k < 145 → μ2 8 k = yrs N M PH PF PB L x.toNat qC k := fun k hk => by
      have h1 := u2.1 k hk
      rw [show (0 : Int).toNat + k = k by omega] at h1
      rw [h1, yrs_agr hN iC hag x.toNat k hk]
    have hHB : HB 9999 (yrs N M PH PF PB L x.toNat qC) := by
      have h2 : HB (μ 8 0) qC := ⟨by rw [qC0 0 (by omega)]; omega, fun w p h0 h1 h2 h3 => by
        rw [qC0 _ (by omega), qC0 _ (by omega)]
        exact hV.2.2 w p h0 h1 h2 h3⟩
      have h3 := yrs_HB hN iC h2 x.toNat (by omega)
      exact ⟨by have := h3.1; omega, h3.2⟩
    refine ⟨μ2 8 0, σ2, μ2, ?_, rfl, ?_⟩
    · show some (σ2 31 0, σ2) = _
      rw [s2.1.year, hrow 0 (by omega)]
    · obtain ⟨b1, b2, b3, b4, ⟨o, b5, b6, b7⟩, b8, b9, b10⟩ := k3.2.2.2.2.1
      have e : ∀ c : Nat, c ≠ 11 → c ≠ 31 → c < 44 ∨ 49 < c → σ2 c = σ1 c := fun c h1 h2 h3 => s3 c h1 h2 (by omega) (by omega) (by omega) (by omega) (by omega) (by omega)
      refine k3.chron (fun c hc => e c (by omega) (by omega) (by omega)) ⟨fun c hc => u3.1 c (by omega) (by omega) (by omega), fun j hj => u3.2.1 j (by omega) (by omega) (by omega) (by omega)⟩ ?_
      rw [u3.1 9 (by decide) (by decide) (by decide), u3.2.1 38 (by decide) (by decide) (by decide) (by decide), u3.2.1 53 (by decide) (by decide) (by decide) (by decide), u3.1 19 (by decide) (by decide) (by decide)]
      refine ⟨s2.1.congr hrow, RV.congr ⟨yrs_IV hN iC _, hHB⟩ hrow, by rw [e 29 (by decide) (by decide) (by decide)]; exact b3, b4, ⟨o, b5, by rw [e 29 (by decide) (by decide) (by decide)]; exact b6, fun i hi => ⟨?_, (b7 i hi).2⟩⟩, by rw [e 29 (by decide) (by decide) (by decide)]; exact b8, b9, ?_⟩
      · rw [e 32 (by decide) (by decide) (by decide)]
        exact RCr.slot (by decide) (b7 i hi).1 (e 4 (by decide) (by decide) (by decide)) (e 5 (by decide) (by decide) (by decide)) (e 6 (by decide) (by decide) (by decide)) (fun _ _ => rfl)
      · rw [e 33 (by decide) (by decide) (by decide), e 34 (by decide) (by decide) (by decide), e 35 (by decide) (by decide) (by decide)]
        exact b10
  · rw [if_neg c3, if_neg c3]
    exact ⟨_, _, _, rfl, rfl, hno.1⟩
end CHR

/-! CALLS: rewrite, pardon, fill, heal, burn, undo -/
section ACT2
variable {N M tp : Int} {L : Nat → Int} {PH PF PB : List Int} {σ σ' μ μ' : kM} {q : Nat → Int}
theorem HB.up {Y : Int} (h : HB Y q) {i : Nat} {v : Int} (hi : i ≠ 0) (hi2 : i < 29 ∨ 61 ≤ i) : HB Y (kup q i v) := by
  refine ⟨by rw [kup_ne (by omega)]; exact h.1, fun w p h0 h1 h2 h3 => ?_⟩
  rw [kup_ne (by omega), kup_ne (by omega)]
  exact h.2 w p h0 h1 h2 h3
/-- one number of now changes -/
theorem RE.set (h : RE N M tp L PH PF PB σ μ) {i j : Nat} {v : Int} (hij : (i < 17 ∧ j = i) ∨ (17 ≤ i ∧ i < 29 ∧ j = i + 32) ∨ (89 ≤ i ∧ i < 113 ∧ j = i - 28)) (hi : i ≠ 0) (hv : bd M tp L i v) : RE N M tp L PH PF PB (kst σ 31 (kup (σ 31) j v)) (kst μ 8 (kup (μ 8) i v)) := by
  obtain ⟨b1, b2, b3, b4, ⟨o, b5, b6, b7⟩, b8, b9, b10⟩ := h.2.2.2.2.1
  have e : ∀ c : Nat, c ≠ 31 → kst σ 31 (kup (σ 31) j v) c = σ c := fun c hc => kst_ne hc
  refine h.chron (fun c hc => e c (by omega)) ⟨fun c hc => kst_ne (by omega), fun k hk => by rw [kst_ne (by decide)]⟩ ?_
  rw [kst_eq, kst_ne (show (9 : Nat) ≠ 8 by decide), kst_ne (show (0 : Nat) ≠ 8 by decide), kst_ne (show (19 : Nat) ≠ 8 by decide)]
  refine ⟨b1.set (by decide) v (by omega), ⟨b2.1.up (fun _ => hv), b2.2.up hi (by omega)⟩, by rw [e 29 (by decide)]; exact b3, b4, ⟨o, b5, by rw [e 29 (by decide)]; exact b6, fun i hi => ⟨?_, (b7 i hi).2⟩⟩, by rw [e 29 (by decide)]; exact b8, b9, ?_⟩
  · rw [e 32 (by decide)]
    exact RCr.slot (by decide) (b7 i hi).1 (e 4 (by decide)) (e 5 (by decide)) (e 6 (by decide)) (fun _ _ => rfl)
  · rw [e 33 (by decide), e 34 (by decide), e 35 (by decide)]
    exact b10
theorem RE.th (h : RE N M tp L PH PF PB σ μ) : RE N M tp L PH PF PB σ (mT μ) := h.kept kpC.rfl kpM.th
theorem c_refused : pf_P_refusedAct_0 σ = some ((-1), kst σ 2 (kup (σ 2) 1 (w32 (σ 2 1 + 1)))) := rfl
theorem m_refused {x : Int} (hx : x = 1 ∨ x = 2) : mm_refuses μ x = some ((-1), kst μ 3 (kup (μ 3) x.toNat (w32 (μ 3 x.toNat + 1)))) := by
  unfold mm_refuses
  rw [kchk_t (by omega), kchk_t (by omega)]
  rfl
/-- an act that is refused -/
theorem RE.no (h : RE N M tp L PH PF PB σ μ) : RE N M tp L PH PF PB (kst σ 2 (kup (σ 2) 1 (w32 (σ 2 1 + 1)))) (kst (mT μ) 3 (kup (mT μ 3) 1 (w32 (mT μ 3 1 + 1)))) ∧ kst (mT μ) 3 (kup (mT μ 3) 1 (w32 (mT μ 3 1 + 1))) 0 0 = 0 := by
  have h1 := h.th.refuse (j := 1) (by decide) (v := w32 (σ 2 1 + 1))
  have h2 := h.th.2.2.2.2.2.2.2.1 1 (by decide)
  rw [h2] at h1 ⊢
  exact ⟨h1, by rw [kst_ne (by decide)]; exact mT0⟩
/-- an act that changes one number: the class's side as a function of what it was -/
theorem act_change (h : RE N M tp L PH PF PB σ μ) {i j : Nat} {v : Int} (most : Int) (hij : (i < 17 ∧ j = i) ∨ (17 ≤ i ∧ i < 29 ∧ j = i + 32) ∨ (89 ≤ i ∧ i < 113 ∧ j = i - 28)) (hi : i ≠ 0) (hv : 0 ≤ v → v ≤ most → bd M tp L i v) :
    ∃ (b : Int) (σ' μ' : kM), (if (0 ≤ v ∧ v ≤ most) ∧ v ≠ σ 31 j then (pf_Chronicle_remember_29 σ).bind (fun σ1 => some (σ 31 j, kst σ1 31 (kup (σ1 31) j v))) else some ((-1), kst σ 2 (kup (σ 2) 1 (w32 (σ 2 1 + 1))))) = some (b, σ') ∧ mm_changes (mT μ) (i : Int) v most = some (b, μ') ∧ RE N M tp L PH PF PB σ' μ' ∧ μ' 0 0 = 0 := by
  have hrow : σ 31 j = μ 8 i := by
    have hk := h.rc i (by omega) ⟨fun h1 h2 => by omega, fun h1 => by omega⟩
    unfold vC at hk
    rcases hij with ⟨c, rfl⟩ | ⟨c1, c2, rfl⟩ | ⟨c1, c2, rfl⟩
    · rw [if_pos c] at hk
      exact hk
    · rw [if_neg (by omega), if_pos c2] at hk
      exact hk
    · rw [if_neg (by omega), if_neg (by omega), if_neg (by omega), if_neg (by omega), if_neg (by omega), if_pos c2] at hk
      exact hk
  unfold mm_changes
  rw [kchk_t (by omega), m_within, Int.toNat_natCast, show mT μ 8 = μ 8 from mTc (by decide), hrow]
  simp only [klet, Option.bind]
  have hno := h.no
  have hm := m_refused (μ := mT μ) (x := 1) (Or.inl rfl)
  unfold mm_changes_j23
  rw [hm]
  by_cases h1 : 0 ≤ v ∧ v ≤ most
  · rw [if_pos h1, if_neg (show ¬ (1 : Int) = 0 by decide)]
    by_cases h2 : v = μ 8 i
    · rw [if_neg (show ¬ ((0 ≤ v ∧ v ≤ most) ∧ v ≠ μ 8 i) from fun c => c.2 h2), if_pos h2.symm]
      exact ⟨_, _, _, rfl, rfl, hno.1, hno.2⟩
    · rw [if_pos (show (0 ≤ v ∧ v ≤ most) ∧ v ≠ μ 8 i from ⟨h1, h2⟩), if_neg (show ¬ μ 8 i = v from fun c => h2 c.symm)]
      obtain ⟨σ1, μ1, k1, k2, k3, k4, k5, k6⟩ := act_keep h.th mT0
      rw [k1, k2]
      simp only
      rw [kchk_t (by omega)]
      refine ⟨_, _, _, rfl, rfl, k3.set hij hi (hv h1.1 h1.2), ?_⟩
      rw [kst_ne (by decide)]
      exact k4
  · rw [if_neg h1, if_pos rfl, if_neg (show ¬ ((0 ≤ v ∧ v ≤ most) ∧ v ≠ μ 8 i) from fun c => h1 c.1)]
    exact ⟨_, _, _, rfl, rfl, hno.1, hno.2⟩
theorem OC.of {th : String → Int → Prop} {f : Option ((String ⊕ Int) × kM)} {g : Option (Int × kM)} {b : Int} (hf : f = some (.inr b, σ')) (hg : g = some (b, μ')) (h : RE N M tp L PH PF PB σ' μ') (h0 : μ' 0 0 = 0) : OC N M tp L PH PF PB th f g := ⟨_, _, _, _, hf, hg, h, Or.inr ⟨rfl, h0⟩⟩
theorem op_fill (h : RE N M tp L PH PF PB σ μ) (p v : Int) : OC N M tp L PH PF PB thN (pf_P_fill_0 σ p v) (mm_fill μ p v) := by
  have hn1 := h.1.1
  obtain ⟨hN, hE, hR, hI⟩ := h.cn
  obtain ⟨-, hEM, hRM, -, -⟩ := h.mn
  unfold pf_P_fill_0 mm_fill
  simp only [klet]
  by_cases hp : 0 ≤ p ∧ p < N
  · rw [c_person1 (by rw [hE.2.1]; exact hp), m_isPerson1 mT0 (by rw [hEM.2.1]; exact hp)]
    simp only [Option.bind]
    rw [if_neg (show ¬ (1 : Int) = 0 by decide), w32_s (v := 1 + p) (by omega) (by omega), kchk_t (by omega)]
    obtain ⟨b, σ1, μ1, k1, k2, k3, k4⟩ := act_change h (i := (1 + p).toNat) (j := (1 + p).toNat) (v := v) 99 (by omega) (by omega) (fun a1 a2 => by unfold bd; omega)
    rw [show (((1 + p).toNat : Nat) : Int) = 1 + p by omega] at k2
    rw [k2]
    refine OC.of ?_ rfl k3 k4
    unfold pf_P_fill_0_j35
    rw [c_refused]
    by_cases c1 : v < 0
    · rw [if_pos c1]
      rw [if_neg (fun c => by omega)] at k1
      cases k1
      rfl
    · rw [if_neg c1]
      by_cases c2 : 99 < v
      · rw [if_pos c2]
        rw [if_neg (fun c => by omega)] at k1
        cases k1
        rfl
      · rw [if_neg c2]
        by_cases c3 : v = σ 31 (1 + p).toNat
        · rw [if_pos c3]
          rw [if_neg (fun c => c.2 c3)] at k1
          cases k1
          rfl
        · rw [if_neg c3]
          rw [if_pos ⟨by omega, c3⟩] at k1
          obtain ⟨σ2, e1, e2⟩ := kbind_h k1
          rw [e1]
          simp only
          rw [kchk_t (by omega)]
          cases e2
          rfl
  · rw [c_person0 (by rw [hE.2.1]; exact hp), m_isPerson0 mT0 (by rw [hEM.2.1]; exact hp)]
    exact OC.no h (b := 0) (μ' := mR (mT μ) 1) rfl rfl kpC.rfl (kpM.th.trans kpM.th) ⟨rfl, mR0⟩
theorem op_heal (h : RE N M tp L PH PF PB σ μ) (p : Int) : OC N M tp L PH PF PB thN (pf_P_heal_0 σ p) (mm_heal μ p) := by
  have hn1 := h.1.1
  obtain ⟨hN, hE, hR, hI⟩ := h.cn
  obtain ⟨-, hEM, hRM, -, -⟩ := h.mn
  unfold pf_P_heal_0 mm_heal
  simp only [klet]
  by_cases hp : 0 ≤ p ∧ p < N
  · rw [c_person1 (by rw [hE.2.1]; exact hp), m_isPerson1 mT0 (by rw [hEM.2.1]; exact hp)]
    simp only [Option.bind]
    rw [if_neg (show ¬ (1 : Int) = 0 by decide), w32_s (v := 9 + p) (by omega) (by omega), kchk_t (by omega)]
    obtain ⟨b, σ1, μ1, k1, k2, k3, k4⟩ := act_change h (i := (9 + p).toNat) (j := (9 + p).toNat) (v := 0) 99 (by omega) (by omega) (fun a1 a2 => by unfold bd; omega)
    rw [show (((9 + p).toNat : Nat) : Int) = 9 + p by omega] at k2
    rw [k2]
    refine OC.of ?_ rfl k3 k4
    rw [c_refused]
    by_cases c3 : σ 31 (9 + p).toNat = 0
    · rw [if_pos c3]
      rw [if_neg (fun c => c.2 c3.symm)] at k1
      cases k1
      rfl
    · rw [if_neg c3]
      rw [if_pos ⟨by omega, fun c => c3 c.symm⟩] at k1
      obtain ⟨σ2, e1, e2⟩ := kbind_h k1
      rw [e1]
      simp only
      rw [kchk_t (by omega)]
      cases e2
      rfl
  · rw [c_person0 (by rw [hE.2.1]; exact hp), m_isPerson0 mT0 (by rw [hEM.2.1]; exact hp)]
    exact OC.no h (b := 0) (μ' := mR (mT μ) 1) rfl rfl kpC.rfl (kpM.th.trans kpM.th) ⟨rfl, mR0⟩
theorem op_pardon (h : RE N M tp L PH PF PB σ μ) (w : Int) : OC N M tp L PH PF PB thN (pf_P_pardon_0 σ w) (mm_pardon μ w) := by
  have hn2 := h.1.2.1
  obtain ⟨hN, hE, hR, hI⟩ := h.cn
  obtain ⟨-, hEM, hRM, -, -⟩ := h.mn
  unfold pf_P_pardon_0 mm_pardon
  simp only [klet]
  by_cases hp : 0 ≤ w ∧ w < M
  · rw [c_poet1 (by rw [hE.2.2.1]; exact hp), m_isPoet1 mT0 (by rw [hEM.2.2.1]; exact hp)]
    simp only [Option.bind]
    rw [if_neg (show ¬ (1 : Int) = 0 by decide), w32_s (v := 57 + w) (by omega) (by omega), kchk_t (by omega), w32_s (v := 25 + w) (by omega) (by omega)]
    obtain ⟨b, σ1, μ1, k1, k2, k3, k4⟩ := act_change h (i := (25 + w).toNat) (j := (57 + w).toNat) (v := 0) 9 (by omega) (by omega) (fun a1 a2 => by unfold bd; omega)
    rw [show (((25 + w).toNat : Nat) : Int) = 25 + w by omega] at k2
    rw [k2]
    refine OC.of ?_ rfl k3 k4
    rw [c_refused]
    by_cases c3 : σ 31 (57 + w).toNat = 0
    · rw [if_pos c3]
      rw [if_neg (fun c => c.2 c3.symm)] at k1
      cases k1
      rfl
    · rw [if_neg c3]
      rw [if_pos ⟨by omega, fun c => c3 c.symm⟩] at k1
      obtain ⟨σ2, e1, e2⟩ := kbind_h k1
      rw [e1]
      simp only
      rw [kchk_t (by omega)]
      cases e2
      rfl
  · rw [c_poet0 (by rw [hE.2.2.1]; exact hp), m_isPoet0 mT0 (by rw [hEM.2.2.1]; exact hp)]
    exact OC.no h (b := 0) (μ' := mR (mT μ) 1) rfl rfl kpC.rfl (kpM.th.trans kpM.th) ⟨rfl, mR0⟩
theorem op_rewrite (h : RE N M tp L PH PF PB σ μ) (w l v : Int) : OC N M tp L PH PF PB thN (pf_P_rewrite_0 σ w l v) (mm_rewrite μ w l v) := by
  have hn2 := h.1.2.1
  have hMN := h.mn
  obtain ⟨hN, hE, hR, hI⟩ := h.cn
  unfold pf_P_rewrite_0 mm_rewrite
  simp only [klet]
  by_cases hl : (0 ≤ w ∧ w < M) ∧ (0 ≤ l ∧ l < L w.toNat)
  · obtain ⟨hw, hl⟩ := hl
    have hL := hN.2.2.2.1 w hw.1 hw.2
    rw [c_line1 hE hN hw hl, m_line1 hMN mT0 hw hl]
    simp only [Option.bind]
    rw [if_neg (show ¬ (1 : Int) = 0 by decide), w32_s (v := 6 * w) (by omega) (by omega), w32_s (v := 89 + 6 * w) (by omega) (by omega), w32_s (v := 89 + 6 * w + l) (by omega) (by omega)]
    unfold pf_World_depthOf_30
    rw [w32_s (v := w * 6) (by omega) (by omega), w32_s (v := 61 + w * 6) (by omega) (by omega), w32_s (v := 61 + w * 6 + l) (by omega) (by omega), kchk_t (by omega)]
    obtain ⟨b, σ1, μ1, k1, k2, k3, k4⟩ := act_change h (i := (89 + 6 * w + l).toNat) (j := (61 + w * 6 + l).toNat) (v := v) 9 (by omega) (by omega) (fun a1 a2 => by unfold bd; omega)
    rw [show (((89 + 6 * w + l).toNat : Nat) : Int) = 89 + 6 * w + l by omega] at k2
    rw [k2]
    refine OC.of ?_ rfl k3 k4
    unfold pf_P_rewrite_0_j36
    rw [c_refused]
    simp only
    by_cases c1 : v < 0
    · rw [if_pos c1]
      rw [if_neg (fun c => by omega)] at k1
      cases k1
      rfl
    · rw [if_neg c1]
      by_cases c2 : 9 < v
      · rw [if_pos c2]
        rw [if_neg (fun c => by omega)] at k1
        cases k1
        rfl
      · rw [if_neg c2]
        by_cases c3 : v = σ 31 (61 + w * 6 + l).toNat
        · rw [if_pos c3]
          rw [if_neg (fun c => c.2 c3)] at k1
          cases k1
          rfl
        · rw [if_neg c3]
          rw [if_pos ⟨by omega, c3⟩] at k1
          obtain ⟨σ2, e1, e2⟩ := kbind_h k1
          rw [e1]
          unfold pf_World_setDepth_30
          simp only
          rw [if_neg (by omega), w32_s (v := w * 6) (by omega) (by omega), w32_s (v := 61 + w * 6) (by omega) (by omega), w32_s (v := 61 + w * 6 + l) (by omega) (by omega), kchk_t (by omega)]
          cases e2
          rfl
  · rw [c_line0 hE hN hl, m_line0 hMN mT0 hl]
    exact OC.no h (b := 0) (μ' := mR (mT μ) 1) rfl rfl kpC.rfl (kpM.th.trans kpM.th) ⟨rfl, mR0⟩
theorem m_burns {b w : Int} (hR : RMr μ b q) (hN : EN N M tp L PH PF PB) (hI : IV M tp L q) (hb0 : 0 ≤ b) (hb : b ≤ 145) (hw : 0 ≤ w ∧ w < M) : mm_burns μ b w = some (kst μ 8 (kup (μ 8) (b + 21 + w).toNat (if L w.toNat ≤ w32 (q (21 + w).toNat + 1) then 0 else w32 (q (21 + w).toNat + 1)))) := by
  have hn2 := hN.2.1
  have hL := hN.2.2.2.1 w hw.1 hw.2
  have hnx := hI.next hw.1 (by omega) hw.2
  unfold mm_burns
  rw [w32_s (v := b + 21) (by omega) (by omega), w32_s (v := b + 21 + w) (by omega) (by omega), kchk_t (by omega), w32_s (v := b + 61) (by omega) (by omega), w32_s (v := b + 61 + w) (by omega) (by omega), kchk_t (by omega), hR.at (j := (b + 61 + w).toNat) (i := 61 + w) (by omega) (by omega) hb0 (by omega), hI.many hw.1 (by omega), kchk_t (by omega), kchk_t (by omega), hR.at (j := (b + 21 + w).toNat) (i := 21 + w) (by omega) (by omega) hb0 (by omega)]
  simp only [klet]
  rw [w32_s (v := q (21 + w).toNat + 1) (by omega) (by omega), krem_next hnx.1 hnx.2 hL.2]
theorem op_burn (h : RE N M tp L PH PF PB σ μ) (w : Int) : OC N M tp L PH PF PB thN (pf_P_burn_0 σ w) (mm_burn μ w) := by
  have hn2 := h.1.2.1
  obtain ⟨hN, hE, hR, hI⟩ := h.cn
  obtain ⟨-, hEM, hRM, -, -⟩ := h.mn
  unfold pf_P_burn_0 mm_burn
  simp only [klet]
  by_cases hp : 0 ≤ w ∧ w < M
  · have hL := hN.2.2.2.1 w hp.1 hp.2
    have hnx := hI.next hp.1 (by omega) hp.2
    rw [c_poet1 (by rw [hE.2.2.1]; exact hp), m_isPoet1 mT0 (by rw [hEM.2.2.1]; exact hp)]
    simp only [Option.bind]
    rw [if_neg (show ¬ (1 : Int) = 0 by decide), kchk_t (by omega), w32_s (v := 61 + w) (by omega) (by omega), kchk_t (by omega), hRM.at (j := (61 + w).toNat) (i := 61 + w) (by omega) (by omega) (by decide) (by omega), hI.many hp.1 (by omega), hE.2.2.2.1 w hp.1 hp.2]
    by_cases c : 2 ≤ L w.toNat
    · rw [if_pos c, if_neg (show ¬ L w.toNat = 1 by omega), w32_s (v := 21 + w) (by omega) (by omega), kchk_t (by omega), hRM.at (j := (21 + w).toNat) (i := 21 + w) (by omega) (by omega) (by decide) (by omega)]
      obtain ⟨σ1, μ1, k1, k2, k3, k4, k5, k6⟩ := act_keep h.th mT0
      have k5 : μ1 8 = μ 8 := k5.trans (mTc (by decide))
      rw [k1, k2]
      simp only
      obtain ⟨hN1, hE1, hR1, hI1⟩ := k3.cn
      have hbr := m_burns (b := 0) k3.rm hN hI1 (by decide) (by decide) hp
      rw [k5] at hbr hR1 hI1
      rw [w32_s (v := 53 + w) (by omega) (by omega), kchk_t (by omega), hR1.next hp.1 (by omega), hbr]
      unfold pf_Stage_turnPage_43 pf_Law_behind_3
      rw [w32_s (v := 53 + w) (by omega) (by omega), kchk_t (by omega), hR1.next hp.1 (by omega), kchk_t (by omega), hE1.2.2.2.1 w hp.1 hp.2]
      simp only [klet]
      have hset := k3.set (i := (21 + w).toNat) (j := (53 + w).toNat) (v := if L w.toNat ≤ w32 (μ 8 (21 + w).toNat + 1) then 0 else w32 (μ 8 (21 + w).toNat + 1)) (by omega) (by omega) (by
        rw [w32_s (by omega) (by omega)]
        have e : (21 + w).toNat - 21 = w.toNat := by omega
        unfold bd
        refine ⟨by omega, by omega, by omega, fun _ _ _ => ?_, by omega, by omega, by omega, by omega, by omega⟩
        rw [e]
        split <;> omega)
      rw [k5] at hset
      rw [show (0 + 21 + w).toNat = (21 + w).toNat by omega]
      refine OC.of ?_ rfl hset (by rw [kst_ne (by decide)]; exact k4)
      by_cases c2 : L w.toNat ≤ w32 (μ 8 (21 + w).toNat + 1)
      · rw [if_pos c2, if_pos c2]
        simp only [Option.bind]
        rw [kchk_t (by omega)]
      · rw [if_neg c2, if_neg c2]
        simp only [Option.bind]
        rw [kchk_t (by omega)]
    · rw [if_neg c, if_pos (show L w.toNat = 1 by omega), c_refused, m_refused (Or.inl rfl)]
      have hno := h.no
      exact OC.of rfl rfl hno.1 hno.2
  · rw [c_poet0 (by rw [hE.2.2.1]; exact hp), m_isPoet0 mT0 (by rw [hEM.2.2.1]; exact hp)]
    exact OC.no h (b := 0) (μ' := mR (mT μ) 1) rfl rfl kpC.rfl (kpM.th.trans kpM.th) ⟨rfl, mR0⟩
end ACT2

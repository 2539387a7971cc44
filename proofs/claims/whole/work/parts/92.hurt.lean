/-! CALLS: hurt, best -/
section HURT
variable {N M tp : Int} {L : Nat → Int} {PH PF PB : List Int} {σ σ' μ μ' : kM} {q q' : Nat → Int}
/-- one was hit in the year n from now -/
def hurtN (N M : Int) (PH PF PB : List Int) (L : Nat → Int) (q : Nat → Int) (w p : Int) (n : Nat) : Prop := kbt (yrs N M PH PF PB L n (trow q) (197 + w).toNat) p = 1
def hurtV (N M : Int) (PH PF PB : List Int) (L : Nat → Int) (q : Nat → Int) (w p v : Int) : Prop :=
  (∃ n : Nat, 1 ≤ n ∧ n ≤ 60 ∧ hurtN N M PH PF PB L q w p n ∧ (∀ j : Nat, 1 ≤ j → j < n → ¬ hurtN N M PH PF PB L q w p j) ∧ v = (n : Int)) ∨ ((∀ j : Nat, 1 ≤ j → j ≤ 60 → ¬ hurtN N M PH PF PB L q w p j) ∧ v = -1)
theorem hurtV_one {w p v v' : Int} (h : hurtV N M PH PF PB L q w p v) (h' : hurtV N M PH PF PB L q w p v') : v = v' := by
  rcases h with ⟨d, h1, h2, h3, h4, rfl⟩ | ⟨h1, rfl⟩
  · rcases h' with ⟨e, g1, g2, g3, g4, rfl⟩ | ⟨g1, rfl⟩
    · rcases Nat.lt_trichotomy d e with hlt | rfl | hgt
      · exact absurd h3 (g4 d h1 hlt)
      · rfl
      · exact absurd g3 (h4 e g1 hgt)
    · exact absurd h3 (g1 d h1 h2)
  · rcases h' with ⟨e, g1, g2, g3, g4, rfl⟩ | ⟨g1, rfl⟩
    · exact absurd g3 (h1 e g1 g2)
    · rfl
theorem hurt_step (hE : EN N M tp L PH PF PB) (hI : IV M tp L q) (hH : HB 9999 q) {w p : Int} (hw0 : 0 ≤ w) (hw : w < M) (hp0 : 0 ≤ p) (hp : p < 8) (n : Nat) (hn : n < 1000) :
    (yrs N M PH PF PB L (n + 1) (trow q) (29 + 8 * w + p).toNat = yrs N M PH PF PB L n (trow q) (29 + 8 * w + p).toNat ∧ kbt (yrs N M PH PF PB L (n + 1) (trow q) (197 + w).toNat) p = 0) ∨ (yrs N M PH PF PB L (n + 1) (trow q) (29 + 8 * w + p).toNat = yrs N M PH PF PB L n (trow q) (29 + 8 * w + p).toNat + 1 ∧ kbt (yrs N M PH PF PB L (n + 1) (trow q) (197 + w).toNat) p = 1) := by
  have hM := hE.2.1
  have hIv := trow_IV hI
  have hc := yrs_ct hE hIv (trow_HB hH) (by decide) (trow_ct (M := M)) n (by omega)
  obtain ⟨c1, c2⟩ := ct_year1 (acc := 0) (hc.B (by omega) (yrs_HB hE hIv (trow_HB hH) n (by omega)) (by omega)) hE
  have h1 := (c1.2.2.2.2.2.1 w p hw0 (by omega) hp0 hp).1 (by omega)
  rw [kup_ne (by omega), kup_ne (by omega)] at h1
  exact h1
theorem c_hurt (h : CN N M tp L PH PF PB σ q) (hH : HB 9999 q) {w p : Int} (hw : 0 ≤ w ∧ w < M) (hp : 0 ≤ p ∧ p < N) : ∃ v σ', pf_Oracle_firstHit_57 σ p w = some (v, σ') ∧ hurtV N M PH PF PB L q w p v ∧ fr64 σ σ' := by
  have hn1 := h.1.1
  have hn2 := h.1.2.1
  have hidx : ∀ (σ1 : kM) (r : Nat → Int), TC N M tp L PH PF PB σ1 r → pf_World_hitsBy_58 σ1 w p = some (r (29 + 8 * w + p).toNat) := by
    intro σ1 r h1
    unfold pf_World_hitsBy_58
    rw [w32_s (v := w * 8) (by omega) (by omega), w32_s (v := 17 + w * 8) (by omega) (by omega), w32_s (v := 17 + w * 8 + p) (by omega) (by omega), kchk_t (by omega), h1.2.2.1.1.hits hw.1 (by omega) hp.1 (by omega)]
  unfold pf_Oracle_firstHit_57
  obtain ⟨σ1, a1, a2, a3⟩ := c_begin h
  rw [a1]
  simp only [Option.bind]
  rw [hidx _ _ a2]
  simp only
  obtain ⟨r, g1, g2⟩ := kOk_for (body := fun st => pf_Oracle_firstHit_57_l17 st.1 p w (trow q (29 + 8 * w + p).toNat) st.2) (P := Sum.elim (fun (r : kM × Int) => hurtV N M PH PF PB L q w p r.2 ∧ fr64 σ r.1) (fun σ2 => hurtV N M PH PF PB L q w p (-1) ∧ fr64 σ σ2)) 60 (fun i st => st.2 = (i : Int) + 1 ∧ TC N M tp L PH PF PB st.1 (yrs N M PH PF PB L i (trow q)) ∧ fr64 σ st.1 ∧ yrs N M PH PF PB L i (trow q) (29 + 8 * w + p).toNat = trow q (29 + 8 * w + p).toNat ∧ ∀ j : Nat, 1 ≤ j → j ≤ i → ¬ hurtN N M PH PF PB L q w p j) (fun i st hi hI => by
    obtain ⟨σ2, x⟩ := st
    obtain ⟨rfl, h1, h2, h3, h4⟩ := hI
    have h1 : TC N M tp L PH PF PB σ2 (yrs N M PH PF PB L i (trow q)) := h1
    have h2 : fr64 σ σ2 := h2
    obtain ⟨σ3, t1, t2, t3⟩ := c_tstep h1 0
    have hst := hurt_step h.1 h.2.2.2 hH hw.1 hw.2 hp.1 (by omega) i (by omega)
    show kOk (pf_Oracle_firstHit_57_l17 σ2 p w (trow q (29 + 8 * w + p).toNat) ((i : Int) + 1)) _
    unfold pf_Oracle_firstHit_57_l17
    rw [if_neg (by omega), t1]
    simp only [Option.bind]
    rw [hidx _ _ t2]
    simp only [klet]
    rw [← h3]
    rcases hst with ⟨e1, e2⟩ | ⟨e1, e2⟩
    · have e1 : sp_year N M PH PF PB L 0 (yrs N M PH PF PB L i (trow q)) (29 + 8 * w + p).toNat = yrs N M PH PF PB L i (trow q) (29 + 8 * w + p).toNat := e1
      rw [if_pos (by omega), w32_s (by omega) (by omega)]
      refine ⟨_, rfl, by simp, t2, h2.trans t3, e1, fun j j1 j2 => ?_⟩
      by_cases ej : j = i + 1
      · subst ej
        intro hh
        unfold hurtN at hh
        rw [e2] at hh
        exact absurd hh (by decide)
      · exact h4 j j1 (by omega)
    · have e1 : sp_year N M PH PF PB L 0 (yrs N M PH PF PB L i (trow q)) (29 + 8 * w + p).toNat = yrs N M PH PF PB L i (trow q) (29 + 8 * w + p).toNat + 1 := e1
      rw [if_neg (by omega)]
      exact ⟨_, rfl, Or.inl ⟨i + 1, by omega, by omega, e2, fun j j1 j2 => h4 j j1 (by omega), rfl⟩, h2.trans t3⟩) (fun st hI => by
    obtain ⟨σ2, x⟩ := st
    obtain ⟨rfl, h1, h2, h3, h4⟩ := hI
    refine ⟨.inr (.inr σ2), ?_, Or.inr ⟨h4, rfl⟩, h2⟩
    show pf_Oracle_firstHit_57_l17 σ2 p w (trow q (29 + 8 * w + p).toNat) (((60 : Nat) : Int) + 1) = _
    unfold pf_Oracle_firstHit_57_l17
    rw [if_pos (by decide)]) (kFuel_lt (by decide)) (σ1, 1) ⟨rfl, a2, a3, rfl, fun j j1 j2 => absurd j1 (by omega)⟩
  rw [g1]
  cases r with
  | inl r => exact ⟨r.2, r.1, rfl, g2.1, g2.2⟩
  | inr r => exact ⟨-1, r, rfl, g2.1, g2.2⟩
theorem m_hurt (h : MN N M tp L PH PF PB μ q) {w p : Int} (hw : 0 ≤ w ∧ w < M) (hp : 0 ≤ p ∧ p < N) {μ1 : kM} (h1 : TN N M tp L PH PF PB μ1 (trow q)) (hf : frM 145 μ μ1) : ∃ v μ', ((kloop (fun st => mm_hurt_l29 st.1 p w st.2) kFuel (μ1, 1)).bind fun ex_11 => match ex_11 with
        | (Sum.inl (σ_13, x3_14)) =>
          some ((x3_14, σ_13))
        | (Sum.inr σ_15) =>
          some (((-1), σ_15))) = some (v, μ') ∧ hurtV N M PH PF PB L q w p v ∧ frM 145 μ μ' := by
  have hn1 := h.1.1
  have hn2 := h.1.2.1
  obtain ⟨r, g1, g2⟩ := kOk_for (body := fun st => mm_hurt_l29 st.1 p w st.2) (P := Sum.elim (fun (r : kM × Int) => hurtV N M PH PF PB L q w p r.2 ∧ frM 145 μ r.1) (fun σ2 => hurtV N M PH PF PB L q w p (-1) ∧ frM 145 μ σ2)) 60 (fun i st => st.2 = (i : Int) + 1 ∧ TN N M tp L PH PF PB st.1 (yrs N M PH PF PB L i (trow q)) ∧ frM 145 μ st.1 ∧ ∀ j : Nat, 1 ≤ j → j ≤ i → ¬ hurtN N M PH PF PB L q w p j) (fun i st hi hI => by
    obtain ⟨μ2, x⟩ := st
    obtain ⟨rfl, h1, h2, h4⟩ := hI
    have h1 : TN N M tp L PH PF PB μ2 (yrs N M PH PF PB L i (trow q)) := h1
    have h2 : frM 145 μ μ2 := h2
    obtain ⟨μ3, t1, t2, t4, t3⟩ := m_tstep h1 (acc := 0) (by rw [h2.2.1 48 (by decide) (by decide) (by decide) (by decide)]; exact h.2.2.2.2)
    show kOk (mm_hurt_l29 μ2 p w ((i : Int) + 1)) _
    unfold mm_hurt_l29
    rw [if_neg (by omega), t1]
    simp only [Option.bind, klet]
    rw [kchk_t (by omega), t4.2.2 w hw.1 hw.2]
    by_cases c : kand (kshr (sp_year N M PH PF PB L 0 (yrs N M PH PF PB L i (trow q)) (197 + w).toNat) p) 1 = 1
    · rw [if_pos c]
      exact ⟨_, rfl, Or.inl ⟨i + 1, by omega, by omega, c, fun j j1 j2 => h4 j j1 (by omega), rfl⟩, h2.trans t3⟩
    · rw [if_neg c, w32_s (by omega) (by omega)]
      refine ⟨_, rfl, by simp, t2, h2.trans t3, fun j j1 j2 => ?_⟩
      by_cases ej : j = i + 1
      · subst ej
        exact c
      · exact h4 j j1 (by omega)) (fun st hI => by
    obtain ⟨μ2, x⟩ := st
    obtain ⟨rfl, h1, h2, h4⟩ := hI
    refine ⟨.inr (.inr μ2), ?_, Or.inr ⟨h4, rfl⟩, h2⟩
    show mm_hurt_l29 μ2 p w (((60 : Nat) : Int) + 1) = _
    unfold mm_hurt_l29
    rw [if_pos (by decide)]) (kFuel_lt (by decide)) (μ1, 1) ⟨rfl, h1, hf, fun j j1 j2 => absurd j1 (by omega)⟩
  rw [g1]
  cases r with
  | inl r => exact ⟨r.2, r.1, rfl, g2.1, g2.2⟩
  | inr r => exact ⟨-1, r, rfl, g2.1, g2.2⟩
theorem op_hurt (h : RE N M tp L PH PF PB σ μ) (p w : Int) : OC N M tp L PH PF PB thN (pf_P_hurt_0 σ p w) (mm_hurt μ p w) := by
  have hn1 := h.1.1
  have hn2 := h.1.2.1
  have hn3 := h.1.2.2.1
  have hCN := h.cn
  have hMN := h.mn
  obtain ⟨hN, hE, hR, hI⟩ := h.cn
  obtain ⟨-, hEM, hRM, -, -⟩ := h.mn
  unfold pf_P_hurt_0 mm_hurt
  simp only [klet]
  by_cases k1 : 0 ≤ p ∧ p < N
  · rw [c_person1 (by rw [hE.2.1]; exact k1), m_isPerson1 mT0 (by rw [hEM.2.1]; exact k1)]
    simp only [Option.bind]
    rw [if_neg (show ¬ (1 : Int) = 0 by decide)]
    by_cases k2 : 0 ≤ w ∧ w < M
    · rw [c_poet1 (by rw [hE.2.2.1]; exact k2), m_isPoet1 mT0 (by rw [hEM.2.2.1]; exact k2)]
      simp only
      rw [if_neg (show ¬ (1 : Int) = 0 by decide)]
      obtain ⟨v, σ1, a1, a2, a3⟩ := c_hurt hCN h.rv.2 k2 k1
      obtain ⟨μ0, d1, d2, d3⟩ := m_tries hMN
      obtain ⟨v', μ1, b1, b2, b3⟩ := m_hurt hMN k2 k1 d2 d3
      have e := hurtV_one a2 b2
      subst e
      rw [a1, d1]
      exact OC.ok h rfl b1 (kpC.fr64 a3) (kpM.th.trans (kpM.fr b3)) (fr0 b3)
    · rw [c_poet0 (by rw [hE.2.2.1]; exact k2), m_isPoet0 mT0 (by rw [hEM.2.2.1]; exact k2)]
      exact OC.no h (b := 0) (μ' := mR (mT μ) 1) rfl rfl kpC.rfl (kpM.th.trans kpM.th) ⟨rfl, mR0⟩
  · rw [c_person0 (by rw [hE.2.1]; exact k1), m_isPerson0 mT0 (by rw [hEM.2.1]; exact k1)]
    exact OC.no h (b := 0) (μ' := mR (mT μ) 1) rfl rfl kpC.rfl (kpM.th.trans kpM.th) ⟨rfl, mR0⟩
/-- inches of a year are few -/
theorem sy_193 {acc : Int} (hE : EN N M tp L PH PF PB) (hI : IV M tp L q) (h0 : 0 ≤ q 193) (h1 : q 193 < 1000000) : q 193 ≤ sp_year N M PH PF PB L acc q 193 ∧ sp_year N M PH PF PB L acc q 193 ≤ q 193 + 288 := by
  have hn1 := hE.1
  have hn2 := hE.2.1
  have hn3 := hE.2.2.1
  have hh : ∀ (w l t d : Int) (r : Nat → Int), 0 ≤ w → w < 4 → IV M tp L r → 0 ≤ t → t < 4 → 0 ≤ d ∧ d ≤ 9 → 0 ≤ r 193 → r 193 < 1100000 → r 193 ≤ (sp_hits N PH PF L w l t d r).1 193 ∧ (sp_hits N PH PF L w l t d r).1 193 ≤ r 193 + 72 := by
    intro w l t d r hw0 hw hIr ht0 ht hd hr0 hr1
    have key : IV M tp L (sp_hits N PH PF L w l t d r).1 ∧ 0 ≤ (sp_hits N PH PF L w l t d r).2 ∧ r 193 ≤ (sp_hits N PH PF L w l t d r).1 193 ∧ (sp_hits N PH PF L w l t d r).1 193 ≤ r 193 + 9 * (N.toNat : Int) := by
      unfold sp_hits
      refine kit_indN (P := fun i (s : (Nat → Int) × Int) => IV M tp L s.1 ∧ 0 ≤ s.2 ∧ r 193 ≤ s.1 193 ∧ s.1 193 ≤ r 193 + 9 * (i : Int)) _ ⟨hIr, Int.le_refl 0, Int.le_refl _, by show r 193 ≤ r 193 + 9 * ((0 : Nat) : Int); omega⟩ (fun i s hi hs => ?_)
      obtain ⟨s1, s2, s3, s4⟩ := hs
      unfold sp_hit
      have hr := sp_in_rng (PH := PH) (w := w) (d := d) s1 (p := (i : Int)) (t := t) (by omega) (by omega) ht0 ht hd
      have hf := sp_fi_rng (PF := PF) (L := L) (q := s.1) (w := w) (p := (i : Int)) (l := l) (i := sp_in PH s.1 w (i : Int) t d) (by omega)
      have hp := s1.pence hw0 hw
      split
      · exact ⟨s1, s2, s3, by omega⟩
      · refine ⟨s1.hq hw0 hw (by omega) (by omega) hr ⟨by omega, by omega⟩, by omega, ?_⟩
        have e : ∀ y : Int, sp_hq s.1 w (i : Int) (sp_in PH s.1 w (i : Int) t d) y 193 = s.1 193 + sp_in PH s.1 w (i : Int) t d := by
          intro y
          unfold sp_hq
          simp (disch := omega) only [kup_eq, kup_ne]
          exact w32_s (by omega) (by omega)
        show _ ≤ sp_hq s.1 w (i : Int) (sp_in PH s.1 w (i : Int) t d) _ 193 ∧ sp_hq s.1 w (i : Int) (sp_in PH s.1 w (i : Int) t d) _ 193 ≤ _
        rw [e]
        omega
    exact ⟨key.2.2.1, by have := key.2.2.2; omega⟩
  unfold sp_year
  have hk : IV M tp L (kit (fun i q => sp_poet N PH PF PB L acc (i : Int) q) M.toNat (kup (kup q 195 0) 196 0)) ∧ q 193 ≤ kit (fun i q => sp_poet N PH PF PB L acc (i : Int) q) M.toNat (kup (kup q 195 0) 196 0) 193 ∧ kit (fun i q => sp_poet N PH PF PB L acc (i : Int) q) M.toNat (kup (kup q 195 0) 196 0) 193 ≤ q 193 + 72 * (M.toNat : Int) := by
    refine kit_indN (P := fun i (s : Nat → Int) => IV M tp L s ∧ q 193 ≤ s 193 ∧ s 193 ≤ q 193 + 72 * (i : Int)) _ ⟨IV.hi (IV.hi hI (by omega)) (by omega), by rw [kup_ne (by decide), kup_ne (by decide)]; exact Int.le_refl _, by rw [kup_ne (by decide), kup_ne (by decide)]; omega⟩ (fun i s hi hs => ?_)
    obtain ⟨s1, s2, s3⟩ := hs
    have hL := hE.2.2.2.1 (i : Int) (by omega) (by omega)
    refine ⟨s1.poet (by omega) (by omega) hn2.2 hn1.2 hn3.2 hL, ?_⟩
    unfold sp_poet
    have i1 : IV M tp L (kup s (197 + (i : Int)).toNat 0) := s1.hi (by omega)
    have e1 : kup s (197 + (i : Int)).toNat 0 193 = s 193 := kup_ne (by omega)
    generalize kup s (197 + (i : Int)).toNat 0 = s0 at i1 e1
    split
    · have i2 : IV M tp L (sp_sells N PB (i : Int) s0) := i1.sells (by omega) (by omega) hn1.2
      have e2 : sp_sells N PB (i : Int) s0 193 = s 193 := by rw [sp_sells_ne (by omega) (by omega) hn1.2 (by omega), e1]
      generalize sp_sells N PB (i : Int) s0 = r at i2 e2
      unfold sp_read sp_rd2
      have hnx := i2.next (w := (i : Int)) (by omega) (by omega) (by omega)
      have htp := i2.topic (w := (i : Int)) (by omega) (by omega) hnx.1 (by omega)
      have hdp := i2.depth (w := (i : Int)) (by omega) (by omega) hnx.1 (by omega)
      rw [kup_ne (by omega), kup_ne (by omega), kup_ne (by omega)]
      have hf := hh (i : Int) (r (21 + (i : Int)).toNat) (r (65 + 6 * (i : Int) + r (21 + (i : Int)).toNat).toNat) (if acc = 0 then r (89 + 6 * (i : Int) + r (21 + (i : Int)).toNat).toNat else 9) r (by omega) (by omega) i2 htp.1 (by omega) (by split <;> omega) (by omega) (by omega)
      rw [e2] at hf
      omega
    · unfold sp_sit
      rw [kup_ne (by omega), kup_ne (by omega), e1]
      omega
  generalize kit (fun i q => sp_poet N PH PF PB L acc (i : Int) q) M.toNat (kup (kup q 195 0) 196 0) = r at hk
  unfold sp_end
  rw [kup_ne (by decide), kup_ne (by decide), kup_ne (by decide)]
  omega
theorem yrs_193 (hE : EN N M tp L PH PF PB) (hI : IV M tp L q) (hz : q 193 = 0) (n : Nat) (hn : n < 1000) : 0 ≤ yrs N M PH PF PB L n q 193 ∧ yrs N M PH PF PB L n q 193 ≤ 288 * (n : Int) := by
  induction n with
  | zero =>
    show 0 ≤ q 193 ∧ q 193 ≤ _
    omega
  | succ n ih =>
    have h1 := ih (by omega)
    have h2 := sy_193 (acc := 0) hE (yrs_IV hE hI n) h1.1 (by omega)
    show 0 ≤ sp_year N M PH PF PB L 0 (yrs N M PH PF PB L n q) 193 ∧ sp_year N M PH PF PB L 0 (yrs N M PH PF PB L n q) 193 ≤ _
    omega
/-- years of the reference's, in a loop of its own -/
theorem m_yl {β : Type} {body : kM × β → Option ((kM × β) ⊕ kM)} (B : Nat → β) (n : Nat) (hn : n < 1000) (h : TN N M tp L PH PF PB μ q) (h0 : μ 0 48 = 0) (hs : ∀ (i : Nat) (μ1 μ2 : kM), i < n → mm_yearGoes μ1 145 = some μ2 → body (μ1, B i) = some (.inl (μ2, B (i + 1)))) (he : ∀ μ1 : kM, body (μ1, B n) = some (.inr μ1)) {b0 : β} (hb : b0 = B 0) : ∃ μ', kloop body kFuel (μ, b0) = some μ' ∧ TN N M tp L PH PF PB μ' (yrs N M PH PF PB L n q) ∧ frM 145 μ μ' :=
  kl_M (body := body) (fun i μ1 => TN N M tp L PH PF PB μ1 (yrs N M PH PF PB L i q) ∧ frM 145 μ μ1) B n (by omega) (fun i μ1 hi hI => by
    obtain ⟨μ2, t1, t2, -, t3⟩ := m_tstep hI.1 (acc := 0) (by rw [hI.2.2.1 48 (by decide) (by decide) (by decide) (by decide)]; exact h0)
    exact ⟨μ2, hs i μ1 μ2 hi t1, t2, hI.2.trans t3⟩) (fun μ1 hI => ⟨μ1, he μ1, hI⟩) ⟨h, frM.rfl⟩ hb
theorem c_tset (h : TC N M tp L PH PF PB σ q) {i j : Nat} {v : Int} (hij : (i < 17 ∧ j = i) ∨ (17 ≤ i ∧ i < 29 ∧ j = i + 32) ∨ (89 ≤ i ∧ i < 113 ∧ j = i - 28)) (hv : bd M tp L i v) : TC N M tp L PH PF PB (kst σ 59 (kup (σ 59) j v)) (kup q i v) ∧ fr64 σ (kst σ 59 (kup (σ 59) j v)) := by
  have hf : fr64 σ (kst σ 59 (kup (σ 59) j v)) := frS.rfl.put (by decide)
  exact ⟨⟨h.1, EC64.fr h.2.1 hf, RS64.put h.2.2.1 v (by omega), h.2.2.2.up (fun _ => hv)⟩, hf⟩
theorem m_tset (h : TN N M tp L PH PF PB μ q) {i : Int} {j : Nat} {v : Int} (hi0 : 0 ≤ i) (hi : i < 145) (hj : j = (145 + i).toNat) (hv : bd M tp L i.toNat v) : TN N M tp L PH PF PB (kst μ 8 (kup (μ 8) j v)) (kup q i.toNat v) ∧ frM 145 μ (kst μ 8 (kup (μ 8) j v)) := by
  have hf : frM 145 μ (kst μ 8 (kup (μ 8) j v)) := frM.rfl.put8 (by have : (145 : Int).toNat = 145 := rfl; omega)
  refine ⟨⟨h.1, h.2.1.fr hf, h.2.2.1.set v hi0 hi (by decide) hj, ?_, h.2.2.2.2.up (fun _ => hv)⟩, hf⟩
  obtain ⟨w1, w2, w3, w4⟩ := h.2.2.2.1
  refine ⟨fun k hk => ?_, fun k hk => ?_, ?_, ?_⟩
  · rw [kup_ne (by omega), kup_ne (by omega), kup_ne (by omega), kup_ne (by omega)]
    simp (disch := decide) only [kst_ne]
    exact w1 k hk
  · rw [kup_ne (by omega), kst_ne (by decide)]
    exact w2 k hk
  · rw [kup_ne (by omega), kst_ne (by decide)]
    exact w3
  · rw [kup_ne (by omega), kst_ne (by decide)]
    exact w4
def nxt (L : Nat → Int) (q : Nat → Int) (w : Int) : Int := if L w.toNat ≤ w32 (q (21 + w).toNat + 1) then 0 else w32 (q (21 + w).toNat + 1)
theorem nxt_bd (hE : EN N M tp L PH PF PB) (hI : IV M tp L q) {w : Int} (hw : 0 ≤ w ∧ w < M) : bd M tp L (21 + w).toNat (nxt L q w) := by
  have hn2 := hE.2.1
  have hL := hE.2.2.2.1 w hw.1 hw.2
  have hnx := hI.next hw.1 (by omega) hw.2
  unfold nxt
  rw [w32_s (by omega) (by omega)]
  have e : (21 + w).toNat - 21 = w.toNat := by omega
  unfold bd
  refine ⟨by omega, by omega, by omega, fun _ _ _ => ?_, by omega, by omega, by omega, by omega, by omega⟩
  rw [e]
  split <;> omega
/-- the next line is burnt, on trial -/
theorem c_tburn (h : TC N M tp L PH PF PB σ q) {w : Int} (hw : 0 ≤ w ∧ w < M) : ∃ σ', pf_Stage_turnPage_64 σ w = some σ' ∧ TC N M tp L PH PF PB σ' (kup q (21 + w).toNat (nxt L q w)) ∧ fr64 σ σ' := by
  have hn2 := h.1.2.1
  have h1 := cs_tp64 h.2.1 h.1 h.2.2.1 hw.1 hw.2
  have h2 := c_tset h (i := (21 + w).toNat) (j := (53 + w).toNat) (v := nxt L q w) (by omega) (nxt_bd h.1 h.2.2.2 hw)
  exact ⟨_, h1, h2.1, h2.2⟩
theorem m_tburn (h : TN N M tp L PH PF PB μ q) {w : Int} (hw : 0 ≤ w ∧ w < M) : ∃ μ', mm_burns μ 145 w = some μ' ∧ TN N M tp L PH PF PB μ' (kup q (21 + w).toNat (nxt L q w)) ∧ frM 145 μ μ' := by
  have hn2 := h.1.2.1
  have h1 := m_burns (b := 145) h.2.2.1 h.1 h.2.2.2.2 (by decide) (by decide) hw
  have h2 := m_tset h (i := 21 + w) (j := (145 + 21 + w).toNat) (v := nxt L q w) (by omega) (by omega) (by omega) (nxt_bd h.1 h.2.2.2.2 hw)
  exact ⟨_, h1, h2.1, h2.2⟩
end HURT

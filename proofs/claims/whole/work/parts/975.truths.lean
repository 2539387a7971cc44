/-! CALLS: truths -/
theorem g_skip {tp : Int} {p T k : Nat} (hT : T = tp.toNat) (h4 : T ≤ 4) (h0 : 0 ≤ tp) (hk : k < 100 - 10 * T) : ¬ (((100 * p + 10 * T + k) / 10 % 10 : Nat) : Int) < tp := by
  have h1 : (100 * p + 10 * T + k) / 10 % 10 = T + k / 10 := by omega
  rw [h1]
  omega
section TRUTHS
variable {N M tp : Int} {L : Nat → Int} {PH PF PB : List Int} {σ σ' σb μ μ' : kM} {q q' : Nat → Int} {f n : Int} {F : Nat → Int} {p t : Nat}
theorem frG.cn0 (h : frG σ σ') (h5 : σ' 5 = σ 5) (hC : CN N M tp L PH PF PB σ q) : CN N M tp L PH PF PB σ' q :=
  hC.eq (h 3 (by decide)) (h 4 (by decide)) h5 (h 6 (by decide)) (h 8 (by decide)) (h 9 (by decide)) (h 10 (by decide)) (h 31 (by decide))
theorem c_topics {σ0 : kM} (hC : CN N M tp L PH PF PB σ0 q) (hF : CF σ0 f F) (hn : 0 ≤ n ∧ n ≤ 20) (hm : ∀ i : Nat, (i : Int) < f → F (3 * i + 1) ≤ n) (hp : (p : Int) < N) (h1 : TIs N M tp PH PF PB L f F q n σ0 σ (100 * p)) (h5 : σ 5 = σ0 5) :
    ∃ σ', kloop (fun st => pf_Oracle_tryTruths_57_l49 st.1 n (p : Int) st.2) kFuel (σ, 0) = some σ' ∧ TIs N M tp PH PF PB L f F q n σ0 σ' (100 * p + 100) ∧ σ' 5 = σ0 5 := by
  have hn1 := hC.1.1
  have hn3 := hC.1.2.2.1
  have p8 : p < 8 := by omega
  have bp : 0 ≤ (p : Int) ∧ (p : Int) < 8 := by omega
  have T4 : tp.toNat ≤ 4 := by omega
  have eT : ((tp.toNat : Nat) : Int) = tp := by omega
  have tp0 : 0 ≤ tp := by omega
  have e100 : 100 * p + 10 * tp.toNat + (100 - 10 * tp.toNat) = 100 * p + 100 := by omega
  obtain ⟨σ1, b1, b2, b3⟩ := kl_M (body := fun st => pf_Oracle_tryTruths_57_l49 st.1 n (p : Int) st.2) (fun t σ1 => TIs N M tp PH PF PB L f F q n σ0 σ1 (100 * p + 10 * t) ∧ σ1 5 = σ0 5) (fun i => (i : Int)) tp.toNat (by omega) (fun t σ1 ht hs => by
    have ew := kw_inc (i := t) (by omega)
    have t4 : t < 4 := by omega
    have ttp : (t : Int) < tp := by omega
    have bt : 0 ≤ (t : Int) ∧ (t : Int) < 4 := by omega
    have c0 : ¬ tp ≤ (t : Int) := by omega
    have ei : (4 * (p : Int) + (t : Int)).toNat = 4 * p + t := by omega
    have ei2 : ((p : Int) * 4 + (t : Int)).toNat = 4 * p + t := by omega
    have ei3 : (113 + 4 * (p : Int) + (t : Int)).toNat = 113 + (4 * p + t) := by omega
    have e10 : 100 * p + 10 * t + 10 = 100 * p + 10 * (t + 1) := by omega
    obtain ⟨s1, s2⟩ := hs
    have s1 : TIs N M tp PH PF PB L f F q n σ0 σ1 (100 * p + 10 * t) := s1
    have s2 : σ1 5 = σ0 5 := s2
    have hC1 : CN N M tp L PH PF PB σ1 q := s1.1.cn0 s2 hC
    have htr := hC1.2.2.1.truth bp.1 hp hn1.2 bt.1 ttp hn3.2
    rw [ei2, ei3] at htr
    obtain ⟨σ2, d1, d2, u, d3⟩ := in_loop hC1 (hF.frG s1.1) hn hm p8 t4 ttp s1.1 s1
    have g1 := c_truthOf (σ := σ1) bp bt
    rw [ei, htr] at g1
    have g2 := c_suppose (σ := σ2) (v := q (113 + (4 * p + t))) bp bt
    rw [ei] at g2
    refine ⟨kst σ2 5 (kup (σ2 5) (4 * p + t) (q (113 + (4 * p + t)))), ?_, ?_, ?_⟩
    · show pf_Oracle_tryTruths_57_l49 σ1 n (p : Int) (t : Int) = _
      unfold pf_Oracle_tryTruths_57_l49
      rw [hC1.2.1.1, if_neg c0, kbind_eq g1, kbind_eq d1, kbind_eq g2, klet_eq, ew]
    · rw [← e10]
      exact ⟨d2.1.trans frG.put5, by rw [kst_ne (by decide)]; exact d2.2.1, by rw [kst_ne (by decide)]; exact d2.2.2.1, by rw [kst_ne (by decide)]; exact d2.2.2.2⟩
    · rw [kst_eq, d3, kup_up, ← htr, kup_id, s2]) (fun σ1 hs => by
    refine ⟨σ1, ?_, hs⟩
    have c0 : tp ≤ ((tp.toNat : Nat) : Int) := by omega
    show pf_Oracle_tryTruths_57_l49 σ1 n (p : Int) ((tp.toNat : Nat) : Int) = _
    unfold pf_Oracle_tryTruths_57_l49
    rw [hs.1.1 3 (by decide), hC.2.1.1, if_pos c0]) (σ := σ) ⟨h1, h5⟩ (b0 := 0) rfl
  refine ⟨σ1, b1, ?_, b3⟩
  have hG : ∀ k : Nat, k < 100 - 10 * tp.toNat → tB N M tp PH PF PB L f F q (100 * p + 10 * tp.toNat + k) = false := fun k hk => tB_f (fun hh => g_skip rfl T4 tp0 hk hh.1)
  have k1 := tF_skip (100 - 10 * tp.toNat) hG
  have k2 := tW_skip (sc := scG N M PH PF PB L q) (m := N.toNat) (100 - 10 * tp.toNat) hG
  rw [e100] at k1 k2
  refine ⟨b2.1, ?_, ?_, ?_⟩
  · rw [k1]
    exact b2.2.1
  · rw [k1]
    exact b2.2.2.1
  · rw [k2]
    exact b2.2.2.2
theorem c_tryTruths (hC : CN N M tp L PH PF PB σ q) (hF : CF σ f F) (hn : 0 ≤ n ∧ n ≤ 20) (hm : ∀ i : Nat, (i : Int) < f → F (3 * i + 1) ≤ n) :
    ∃ σ', pf_Oracle_tryTruths_57 σ n = some σ' ∧ kpC σ σ' ∧ σ' 57 2 = (tF (tB N M tp PH PF PB L f F q) (100 * N.toNat)).1 ∧ σ' 57 3 = (tF (tB N M tp PH PF PB L f F q) (100 * N.toNat)).2 ∧ (5 ≤ n → ∀ k : Nat, k < 16 → σ' 61 k = tW (tB N M tp PH PF PB L f F q) (scG N M PH PF PB L q) N.toNat (100 * N.toNat) k) := by
  have hn1 := hC.1.1
  have hkC : kpC σ (kst (kst σ 57 (kup (σ 57) 2 0)) 57 (kup (kst σ 57 (kup (σ 57) 2 0) 57) 3 (-1))) := (kpC.put (by decide)).trans (kpC.put (by decide))
  have e2 : kst (kst σ 57 (kup (σ 57) 2 0)) 57 (kup (kst σ 57 (kup (σ 57) 2 0) 57) 3 (-1)) 57 2 = 0 := by rw [kst_eq, kup_ne (by decide), kst_eq, kup_eq]
  have e3 : kst (kst σ 57 (kup (σ 57) 2 0)) 57 (kup (kst σ 57 (kup (σ 57) 2 0) 57) 3 (-1)) 57 3 = -1 := by rw [kst_eq, kup_eq]
  unfold pf_Oracle_tryTruths_57
  rw [klet_eq, klet_eq]
  generalize kst (kst σ 57 (kup (σ 57) 2 0)) 57 (kup (kst σ 57 (kup (σ 57) 2 0) 57) 3 (-1)) = σz at hkC e2 e3
  obtain ⟨σ0, a1, a2, a3⟩ := kl_M (body := fun st => pf_Oracle_tryTruths_57_l12 st.1 n st.2) (fun i σ1 => (∀ c : Nat, c ≠ 61 → σ1 c = σz c) ∧ ∀ k : Nat, k < i → σ1 61 k = 0) (fun i => (i : Int)) 16 (by decide) (fun i σ1 hi hs => by
    have ew := kw_inc (i := i) (by omega)
    refine ⟨kst σ1 61 (kup (σ1 61) i 0), ?_, fun c hc => by rw [kst_ne hc]; exact hs.1 c hc, fun k hk => ?_⟩
    · show pf_Oracle_tryTruths_57_l12 σ1 n (i : Int) = _
      unfold pf_Oracle_tryTruths_57_l12
      rw [if_neg (by omega), kchk_t (by omega), klet_eq, klet_eq, ew, Int.toNat_natCast]
    · rw [kst_eq]
      by_cases e : k = i
      · subst e
        rw [kup_eq]
      · rw [kup_ne e]
        exact hs.2 k (by omega)) (fun σ1 hs => by
    refine ⟨σ1, ?_, hs⟩
    show pf_Oracle_tryTruths_57_l12 σ1 n ((16 : Nat) : Int) = _
    unfold pf_Oracle_tryTruths_57_l12
    rw [if_pos (by decide)]) (σ := σz) ⟨fun _ _ => rfl, fun k hk => absurd hk (by omega)⟩ (b0 := 0) rfl
  have hk0 : kpC σ σ0 := hkC.trans (fun c hc => a2 c (by omega))
  have hC0 := hC.kp hk0
  have hF0 := hF.kp hk0
  obtain ⟨σ1, b1, b2, b3⟩ := kl_M (body := fun st => pf_Oracle_tryTruths_57_l36 st.1 n st.2) (fun p σ1 => TIs N M tp PH PF PB L f F q n σ0 σ1 (100 * p) ∧ σ1 5 = σ0 5) (fun i => (i : Int)) N.toNat (by omega) (fun p σ1 hp hs => by
    have ew := kw_inc (i := p) (by omega)
    have hpN : (p : Int) < N := by omega
    have c0 : ¬ N ≤ (p : Int) := by omega
    obtain ⟨s1, s2⟩ := hs
    have s1 : TIs N M tp PH PF PB L f F q n σ0 σ1 (100 * p) := s1
    obtain ⟨σ2, d1, d2, d3⟩ := c_topics hC0 hF0 hn hm hpN s1 s2
    refine ⟨σ2, ?_, d2, d3⟩
    show pf_Oracle_tryTruths_57_l36 σ1 n (p : Int) = _
    unfold pf_Oracle_tryTruths_57_l36
    rw [s1.1 3 (by decide), hC0.2.1.2.1, if_neg c0, kbind_eq d1, klet_eq, ew]) (fun σ1 hs => by
    refine ⟨σ1, ?_, hs⟩
    have c0 : N ≤ ((N.toNat : Nat) : Int) := by omega
    show pf_Oracle_tryTruths_57_l36 σ1 n ((N.toNat : Nat) : Int) = _
    unfold pf_Oracle_tryTruths_57_l36
    rw [hs.1.1 3 (by decide), hC0.2.1.2.1, if_pos c0]) (σ := σ0) ⟨⟨frG.rfl, (by rw [a2 57 (by decide), e2]; rfl), (by rw [a2 57 (by decide), e3]; rfl), fun _ k hk => a3 k hk⟩, rfl⟩ (b0 := 0) rfl
  refine ⟨σ1, ?_, fun c hc => ?_, b2.2.1, b2.2.2.1, b2.2.2.2⟩
  · rw [kbind_eq a1, kbind_eq b1]
  · by_cases c5 : c = 5
    · subst c5
      exact b3.trans (hk0 5 hc)
    · exact (b2.1 c (by omega)).trans (hk0 c hc)
theorem m_truths (h : MN N M tp L PH PF PB μ q) (hf : μ 0 53 = f) (hf8 : 0 ≤ f ∧ f ≤ 8) (hF : μ 19 = F) {x : Int} : ∃ μ', kloop (fun st => mm_truths_l45 st.1 x st.2.1 st.2.2.1 st.2.2.2) kFuel (μ, 0, -1, 0) = some (μ', (tF (tB N M tp PH PF PB L f F q) (100 * N.toNat)).1, (tF (tB N M tp PH PF PB L f F q) (100 * N.toNat)).2) ∧ kpU μ μ' := by
  have hn1 := h.1.1
  have e100 : w32 (100 * N) = ((100 * N.toNat : Nat) : Int) := by
    rw [w32_s (by omega) (by omega)]
    omega
  generalize hG : tB N M tp PH PF PB L f F q = G
  obtain ⟨μ1, b1, b2⟩ := kl_S (body := fun st => mm_truths_l45 st.1 x st.2.1 st.2.2.1 st.2.2.2) (fun μ1 => kpU μ μ1) (fun i => ((tF G i).1, (tF G i).2, (i : Int))) (100 * N.toNat) ((tF G (100 * N.toNat)).1, (tF G (100 * N.toNat)).2) (by omega) (fun i μ1 hi hs => by
    have ew := kw_inc (i := i) (by omega)
    have c0 : ¬ ((100 * N.toNat : Nat) : Int) ≤ (i : Int) := by omega
    have hg : (i : Int) < 100 * N := by omega
    have hi8 : (i : Int) < 2000000000 := by omega
    have hMN1 : MN N M tp L PH PF PB μ1 q := h.kp hs.1.1
    obtain ⟨r, μ2, t1, t2, t3⟩ := m_isGuess hMN1 ((hs.1.1.2.1 53 (by decide)).trans hf) hf8 ((hs.1.1.1 19 (by decide)).trans hF) hg
    show ∃ μ2, mm_truths_l45 μ1 x (tF G i).1 (tF G i).2 (i : Int) = some (Sum.inl (μ2, (tF G (i + 1)).1, (tF G (i + 1)).2, ((i + 1 : Nat) : Int))) ∧ kpU μ μ2
    unfold mm_truths_l45 mm_truths_l45_j80
    rw [hMN1.2.1.2.1, e100, if_neg c0, kbind_eq t1]
    dsimp only
    rw [klet_eq, ew]
    rcases t3 with ⟨rfl, t4⟩ | ⟨rfl, t4, -⟩
    · have gf : G i = false := by rw [← hG]; exact tB_f t4
      rw [if_pos rfl, tF_f gf]
      exact ⟨μ2, rfl, hs.trans t2⟩
    · have gt : G i = true := by rw [← hG]; exact tB_t t4
      have hinv := tF_inv G i
      rw [if_neg (by decide), klet_eq, tF_t gt]
      generalize tF G i = D at hinv
      have hw : w32 (D.1 + 1) = D.1 + 1 := by
        clear hG gt t1 t2 t4 hs
        exact w32_s (by omega) (by omega)
      rw [hw]
      by_cases c1 : D.1 = 0
      · rw [if_pos (hinv.2.2.mp c1), if_pos c1]
        exact ⟨μ2, rfl, hs.trans t2⟩
      · rw [if_neg (fun hh => c1 (hinv.2.2.mpr hh)), if_neg c1]
        exact ⟨μ2, rfl, hs.trans t2⟩) (fun μ1 hs => by
    refine ⟨μ1, ?_, hs⟩
    have hMN1 : MN N M tp L PH PF PB μ1 q := h.kp hs.1.1
    show mm_truths_l45 μ1 x (tF G (100 * N.toNat)).1 (tF G (100 * N.toNat)).2 ((100 * N.toNat : Nat) : Int) = _
    unfold mm_truths_l45
    rw [hMN1.2.1.2.1, e100, if_pos (Int.le_refl _)]) (σ := μ) kpU.rfl (b0 := (0, -1, 0)) rfl
  exact ⟨μ1, b1, b2⟩
theorem RE.cf (h : RE N M tp L PH PF PB σ μ) : CF σ (μ 0 53) (μ 19) := by
  have hn1 := h.1.1
  obtain ⟨b1, b2, b3, b4, b5, b8, b9, b10⟩ := h.2.2.2.2.1
  refine ⟨b8, b9, fun i hi => ?_⟩
  obtain ⟨c1, c2, c3, c4⟩ := b10 i hi
  exact ⟨c1, ⟨c2.1, Int.lt_of_lt_of_le c2.2 hn1.2⟩, c3⟩
theorem op_truths (h : RE N M tp L PH PF PB σ μ) (x : Int) : OC N M tp L PH PF PB thN (pf_P_truths_0 σ x) (mm_truths μ x) := by
  have hn1 := h.1.1
  have hn2 := h.1.2.1
  have hn3 := h.1.2.2.1
  have hCN := h.cn
  have hMN := h.mn
  obtain ⟨hN, hE, hR, hI⟩ := h.cn
  obtain ⟨-, hEM, hRM, -, -⟩ := h.mn
  unfold pf_P_truths_0 mm_truths
  rw [klet_eq]
  by_cases k1 : 0 ≤ x ∧ x ≤ 2
  · rw [kbind_eq (c_what1 k1), kbind_eq (m_isWhat1 (μ := mT μ) mT0 k1)]
    dsimp only
    rw [if_neg (show ¬ (1 : Int) = 0 by decide)]
    have hCF := h.cf
    have hf8 := hCF.2.1
    obtain ⟨r, l1, l2, l3⟩ := c_lastFelt hCF
    have m53 : mT μ 0 53 = μ 0 53 := mTj (by decide)
    have m19 : mT μ 19 = μ 19 := kst_ne (by decide)
    rw [kbind_eq l1]
    by_cases x2 : x = 2
    · rw [if_pos x2, if_pos x2]
      obtain ⟨r1, σ1, a1, a2, a3⟩ := c_allFelt hCN hCF l2
      obtain ⟨μ0, d1, d2, d3⟩ := m_tries hMN
      have hk := kpU.fr d3
      obtain ⟨r2, μ1, b1, b2, b3⟩ := m_isFelt (f := μ 0 53) (F := μ 19) d2 ((hk.1.1.2.1 48 (by decide)).trans hMN.2.2.2.2) ((hk.1.1.2.1 53 (by decide)).trans m53) hf8 ((hk.1.1.1 19 (by decide)).trans m19)
      have e20 : tH N M PH PF PB L (μ 0 53) (μ 19) 20 (trow (μ 8)) ↔ tH N M PH PF PB L (μ 0 53) (μ 19) r.toNat (trow (μ 8)) := tH_ge (by rw [Int.toNat_of_nonneg l2.1]; exact l3) (by omega)
      have z0 : μ1 0 0 = 0 := (hk.trans b2).1.2.trans mT0
      have er : r1 = r2 ∧ (r1 = 0 ∨ r1 = 1) := by
        rcases a3 with ⟨p1, p2⟩ | ⟨p1, p2, -⟩
        · rcases b3 with ⟨s1, s2⟩ | ⟨s1, s2, -⟩
          · exact ⟨p1.trans s1.symm, Or.inl p1⟩
          · exact absurd (e20.mp s2) p2
        · rcases b3 with ⟨s1, s2⟩ | ⟨s1, s2, -⟩
          · exact absurd (e20.mpr p2) s2
          · exact ⟨p1.trans s1.symm, Or.inr p1⟩
      obtain ⟨er, er2⟩ := er
      subst er
      rw [kbind_eq a1, kbind_eq d1, kbind_eq b1]
      dsimp only
      by_cases c : r1 = 0
      · rw [if_pos c, if_pos c]
        exact OC.ok h rfl rfl a2.kp (kpM.th.trans (hk.trans b2).1.1) z0
      · rw [if_neg c, if_neg c]
        exact OC.ok h rfl rfl a2.kp (kpM.th.trans (hk.trans b2).1.1) z0
    · rw [if_neg x2, if_neg x2, klet_eq]
      obtain ⟨σ1, a1, a2, a3, a4, -⟩ := c_tryTruths hCN hCF l2 l3
      obtain ⟨μ1, b1, b2⟩ := m_truths hMN m53 hf8 m19 (x := x)
      have z0 : μ1 0 0 = 0 := b2.1.2.trans mT0
      rw [kbind_eq a1, kbind_eq b1]
      dsimp only
      by_cases c : x = 0
      · rw [if_pos c, if_pos c, a3]
        exact OC.ok h rfl rfl a2 (kpM.th.trans b2.1.1) z0
      · rw [if_neg c, if_neg c, a4]
        exact OC.ok h rfl rfl a2 (kpM.th.trans b2.1.1) z0
  · rw [kbind_eq (c_what0 k1), kbind_eq (m_isWhat0 (μ := mT μ) mT0 k1)]
    exact OC.no h (b := 0) (μ' := mR (mT μ) 1) rfl rfl kpC.rfl (kpM.th.trans kpM.th) ⟨rfl, mR0⟩
end TRUTHS

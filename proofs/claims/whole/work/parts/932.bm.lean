/-! CALLS: best -/
section BEST
variable {N M tp : Int} {L : Nat → Int} {PH PF PB : List Int} {σ σ' μ μ' : kM} {q q' : Nat → Int}
theorem klet_eq {α β : Type} {a : α} {f : α → β} : klet a f = f a := rfl
theorem m_bestY (h : TN N M tp L PH PF PB μ q) (h0 : μ 0 48 = 0) {n x2 x3 x4 x5 : Int} (hn0 : 0 ≤ n) (hn : n ≤ 60) : ∃ μ', kloop (fun st => mm_best_l127 st.1 n x2 x3 x4 x5 st.2) kFuel (μ, 0) = some μ' ∧ TN N M tp L PH PF PB μ' (yrs N M PH PF PB L n.toNat q) ∧ frM 145 μ μ' :=
  m_yl (body := fun st => mm_best_l127 st.1 n x2 x3 x4 x5 st.2) (fun i => (i : Int)) n.toNat (by omega) h h0 (fun i μ1 μ2 hi hy => by
    show mm_best_l127 μ1 n x2 x3 x4 x5 (i : Int) = _
    unfold mm_best_l127
    rw [if_neg (by omega), hy]
    simp only [Option.bind, klet]
    rw [w32_s (by omega) (by omega)]
    rfl) (fun μ1 => by
    show mm_best_l127 μ1 n x2 x3 x4 x5 ((n.toNat : Nat) : Int) = _
    unfold mm_best_l127
    rw [if_pos (by omega)]) rfl
theorem m_bestP (h : MN N M tp L PH PF PB μ q) {n : Int} (hn0 : 0 ≤ n) (hn : n ≤ 60) {μ1 : kM} (hf : frM 145 μ μ1) (base : Int) : ∃ μ', kloop (fun st => mm_best_l63 st.1 n 0 st.2.1 st.2.2.1 st.2.2.2) kFuel (μ1, base, -1, 0) = some (μ', (kit (bpF N M PH PF PB L q n.toNat) M.toNat (base, -1)).2) ∧ frM 145 μ μ' := by
  have hn1 := h.1.1
  have hn2 := h.1.2.1
  exact kl_S (body := fun st => mm_best_l63 st.1 n 0 st.2.1 st.2.2.1 st.2.2.2) (frM 145 μ) (fun i => ((kit (bpF N M PH PF PB L q n.toNat) i (base, -1)).1, (kit (bpF N M PH PF PB L q n.toNat) i (base, -1)).2, (i : Int))) M.toNat (kit (bpF N M PH PF PB L q n.toNat) M.toNat (base, -1)).2 (by omega) (fun i μ3 hi hs => by
    have h3 : MN N M tp L PH PF PB μ3 q := h.fr hs
    show ∃ μ4, mm_best_l63 μ3 n 0 (kit (bpF N M PH PF PB L q n.toNat) i (base, -1)).1 (kit (bpF N M PH PF PB L q n.toNat) i (base, -1)).2 (i : Int) = some (Sum.inl (μ4, (bpF N M PH PF PB L q n.toNat i (kit (bpF N M PH PF PB L q n.toNat) i (base, -1))).1, (bpF N M PH PF PB L q n.toNat i (kit (bpF N M PH PF PB L q n.toNat) i (base, -1))).2, ((i + 1 : Nat) : Int))) ∧ frM 145 μ μ4
    generalize kit (bpF N M PH PF PB L q n.toNat) i (base, -1) = s
    have hsi := h.2.2.2.1.sits (w := (i : Int)) (by omega) (by omega)
    have hdone : ∀ (μ4 : kM) (a b : Int), mm_best_l63_j189 μ4 n 0 a b (i : Int) = some (Sum.inl (μ4, a, b, ((i + 1 : Nat) : Int))) := fun μ4 a b => by
      unfold mm_best_l63_j189
      simp only [klet]
      rw [w32_s (by omega) (by omega)]
      rfl
    unfold mm_best_l63 bpF
    rw [h3.2.1.2.2.1, if_neg (by omega), if_pos rfl, w32_s (v := 25 + (i : Int)) (by omega) (by omega), kchk_t (by omega), h3.2.2.1.at (j := (25 + (i : Int)).toNat) (i := 25 + (i : Int)) (by omega) (by omega) (by decide) (by omega)]
    by_cases c1 : q (25 + (i : Int)).toNat ≤ 0
    · rw [if_pos (show q (25 + (i : Int)).toNat = 0 by omega), if_pos c1, hdone]
      exact ⟨μ3, rfl, hs⟩
    · rw [if_neg (show ¬ q (25 + (i : Int)).toNat = 0 by omega), if_neg c1]
      obtain ⟨μ4, t1, t2, t3⟩ := m_tries h3
      have t4 := m_tset t2 (i := 25 + (i : Int)) (j := (170 + (i : Int)).toNat) (v := 0) (by omega) (by omega) (by omega) (by unfold bd; omega)
      obtain ⟨μ5, t5, t6, t7⟩ := m_bestY (x2 := 0) (x3 := s.1) (x4 := s.2) (x5 := (i : Int)) t4.1 (by rw [t4.2.2.1 48 (by decide) (by decide) (by decide) (by decide), t3.2.1 48 (by decide) (by decide) (by decide) (by decide)]; exact h3.2.2.2.2) hn0 hn
      unfold mm_best_l63_j92 mm_best_l63_j124 mm_best_l63_j171
      rw [kbind_eq t1, if_pos rfl, w32_s (v := 170 + (i : Int)) (by omega) (by omega), kchk_t (by omega), klet_eq, kbind_eq t5, if_pos rfl, t6.2.1.2.1, kbind_eq (m_sumOf t6.2.2.1 (by decide) (by decide) hn1.1 (by decide) (by omega))]
      refine ⟨μ5, ?_, ((hs.trans t3).trans t4.2).trans t7⟩
      rw [hdone, hdone]
      generalize sSum (yrs N M PH PF PB L n.toNat (kup (trow q) (25 + (i : Int)).toNat 0)) 1 N.toNat = V
      by_cases c2 : V ≤ s.1
      · rw [if_neg (show ¬ s.1 < V by omega), if_pos c2]
      · rw [if_pos (show s.1 < V by omega), if_neg c2]) (fun μ3 hs => by
    have h3 : MN N M tp L PH PF PB μ3 q := h.fr hs
    refine ⟨μ3, ?_, hs⟩
    show mm_best_l63 μ3 n 0 _ _ ((M.toNat : Nat) : Int) = _
    unfold mm_best_l63
    rw [h3.2.1.2.2.1, if_pos (by omega)]) hf (b0 := (base, -1, 0)) rfl
theorem bb_one (h : EN N M tp L PH PF PB) (hI : IV M tp L q) {i : Nat} (hi : (i : Int) < M) (c : L i ≤ 1) : kup (trow q) (21 + (i : Int)).toNat (nxt L (trow q) (i : Int)) = trow q := by
  have hn2 := h.2.1
  have hL := h.2.2.2.1 (i : Int) (by omega) hi
  rw [Int.toNat_natCast] at hL
  have hnx := (trow_IV hI).next (w := (i : Int)) (by omega) (by omega) hi
  rw [Int.toNat_natCast] at hnx
  have e : nxt L (trow q) (i : Int) = trow q (21 + (i : Int)).toNat := by
    unfold nxt
    rw [Int.toNat_natCast, w32_s (by omega) (by omega), if_pos (by omega)]
    omega
  rw [e]
  exact kup_id _ _
theorem bbF_inv (h : EN N M tp L PH PF PB) (hI : IV M tp L q) (n : Nat) (hn : n ≤ 60) (m : Nat) (hm : (m : Int) ≤ M) : 0 ≤ (kit (bbF N M PH PF PB L q n) m (yrs N M PH PF PB L n (trow q) 193, -1)).1 ∧ (kit (bbF N M PH PF PB L q n) m (yrs N M PH PF PB L n (trow q) 193, -1)).1 ≤ yrs N M PH PF PB L n (trow q) 193 := by
  have hz : trow q 193 = 0 := if_neg (by decide)
  have hn2 := h.2.1
  refine kit_ind (P := fun (s : Int × Int) => 0 ≤ s.1 ∧ s.1 ≤ yrs N M PH PF PB L n (trow q) 193) m ⟨(yrs_193 h (trow_IV hI) hz n (by omega)).1, Int.le_refl _⟩ (fun i s hi hs => ?_)
  unfold bbF
  split
  · exact hs
  · split
    · exact hs
    · rename_i c2
      have hi2 : IV M tp L (kup (trow q) (21 + (i : Int)).toNat (nxt L (trow q) (i : Int))) := (trow_IV hI).up (fun _ => nxt_bd h (trow_IV hI) ⟨by omega, by omega⟩)
      have h3 := (yrs_193 h hi2 (by rw [kup_ne (by omega)]; exact hz) n (by omega)).1
      exact ⟨h3, Int.le_trans (Int.le_of_lt (Int.not_le.mp c2)) hs.2⟩
theorem w32_neg {a : Int} (h0 : 0 ≤ a) (h1 : a ≤ 20000) : w32 (0 - a) = 0 - a := w32_s (by omega) (by omega)
theorem m_bestB (h : MN N M tp L PH PF PB μ q) {n : Int} (hn0 : 0 ≤ n) (hn : n ≤ 60) {μ1 : kM} (hf : frM 145 μ μ1) {b0 : Int} (hb0 : b0 = w32 (0 - yrs N M PH PF PB L n.toNat (trow q) 193)) : ∃ μ', kloop (fun st => mm_best_l63 st.1 n 1 st.2.1 st.2.2.1 st.2.2.2) kFuel (μ1, b0, -1, 0) = some (μ', (kit (bbF N M PH PF PB L q n.toNat) M.toNat (yrs N M PH PF PB L n.toNat (trow q) 193, -1)).2) ∧ frM 145 μ μ' := by
  have hn1 := h.1.1
  have hn2 := h.1.2.1
  subst hb0
  have hz : trow q 193 = 0 := if_neg (by decide)
  have hbase := yrs_193 h.1 (trow_IV h.2.2.2.1) hz n.toNat (by omega)
  exact kl_S (body := fun st => mm_best_l63 st.1 n 1 st.2.1 st.2.2.1 st.2.2.2) (frM 145 μ) (fun i => (w32 (0 - (kit (bbF N M PH PF PB L q n.toNat) i (yrs N M PH PF PB L n.toNat (trow q) 193, -1)).1), (kit (bbF N M PH PF PB L q n.toNat) i (yrs N M PH PF PB L n.toNat (trow q) 193, -1)).2, (i : Int))) M.toNat (kit (bbF N M PH PF PB L q n.toNat) M.toNat (yrs N M PH PF PB L n.toNat (trow q) 193, -1)).2 (by omega) (fun i μ3 hi hs => by
    have h3 : MN N M tp L PH PF PB μ3 q := h.fr hs
    show ∃ μ4, mm_best_l63 μ3 n 1 (w32 (0 - (kit (bbF N M PH PF PB L q n.toNat) i (yrs N M PH PF PB L n.toNat (trow q) 193, -1)).1)) (kit (bbF N M PH PF PB L q n.toNat) i (yrs N M PH PF PB L n.toNat (trow q) 193, -1)).2 (i : Int) = some (Sum.inl (μ4, w32 (0 - (bbF N M PH PF PB L q n.toNat i (kit (bbF N M PH PF PB L q n.toNat) i (yrs N M PH PF PB L n.toNat (trow q) 193, -1))).1), (bbF N M PH PF PB L q n.toNat i (kit (bbF N M PH PF PB L q n.toNat) i (yrs N M PH PF PB L n.toNat (trow q) 193, -1))).2, ((i + 1 : Nat) : Int))) ∧ frM 145 μ μ4
    have hv := bbF_inv h.1 h.2.2.2.1 n.toNat (by omega) i (by omega)
    generalize kit (bbF N M PH PF PB L q n.toNat) i (yrs N M PH PF PB L n.toNat (trow q) 193, -1) = s at hv
    have hdone : ∀ (μ4 : kM) (a b : Int), mm_best_l63_j189 μ4 n 1 a b (i : Int) = some (Sum.inl (μ4, a, b, ((i + 1 : Nat) : Int))) := fun μ4 a b => by
      unfold mm_best_l63_j189
      simp only [klet]
      rw [w32_s (by omega) (by omega)]
      rfl
    unfold mm_best_l63 bbF
    rw [h3.2.1.2.2.1, if_neg (by omega), if_neg (show ¬ (1 : Int) = 0 by decide)]
    obtain ⟨μ4, t1, t2, t3⟩ := m_tries h3
    obtain ⟨μ4', u1, u2, u3⟩ := m_tburn t2 (w := (i : Int)) (by omega)
    obtain ⟨μ5, t5, t6, t7⟩ := m_bestY (x2 := 1) (x3 := w32 (0 - s.1)) (x4 := s.2) (x5 := (i : Int)) u2 (by rw [u3.2.1 48 (by decide) (by decide) (by decide) (by decide), t3.2.1 48 (by decide) (by decide) (by decide) (by decide)]; exact h3.2.2.2.2) hn0 hn
    unfold mm_best_l63_j92 mm_best_l63_j124 mm_best_l63_j171
    rw [kbind_eq t1, if_neg (show ¬ (1 : Int) = 0 by decide), kbind_eq u1, kbind_eq t5, if_neg (show ¬ (1 : Int) = 0 by decide), t6.2.2.2.1.2.2.1, hdone, hdone]
    refine ⟨μ5, ?_, ((hs.trans t3).trans u3).trans t7⟩
    have hi2 : IV M tp L (kup (trow q) (21 + (i : Int)).toNat (nxt L (trow q) (i : Int))) := (trow_IV h.2.2.2.1).up (fun _ => nxt_bd h.1 (trow_IV h.2.2.2.1) ⟨by omega, by omega⟩)
    have h193 := yrs_193 h.1 hi2 (by rw [kup_ne (by omega)]; exact hz) n.toNat (by omega)
    have hV0 : 0 ≤ yrs N M PH PF PB L n.toNat (kup (trow q) (21 + (i : Int)).toNat (nxt L (trow q) (i : Int))) 193 := h193.1
    have hV1 : yrs N M PH PF PB L n.toNat (kup (trow q) (21 + (i : Int)).toNat (nxt L (trow q) (i : Int))) 193 ≤ 20000 := Int.le_trans h193.2 (by omega)
    have hs1 : s.1 ≤ 20000 := Int.le_trans hv.2 (Int.le_trans hbase.2 (by omega))
    have e1 : L i ≤ 1 → yrs N M PH PF PB L n.toNat (kup (trow q) (21 + (i : Int)).toNat (nxt L (trow q) (i : Int))) 193 = yrs N M PH PF PB L n.toNat (trow q) 193 := fun c1 => by
      rw [bb_one h.1 h.2.2.2.1 (i := i) (by omega) c1]
    generalize yrs N M PH PF PB L n.toNat (kup (trow q) (21 + (i : Int)).toNat (nxt L (trow q) (i : Int))) 193 = V at hV0 hV1 e1
    have hv2 := hv.2
    have hv1 := hv.1
    clear hv h193 hbase t1 t2 t3 t5 t6 t7 u1 u2 u3 hdone hi2 h3 hs
    rw [w32_neg hv1 hs1, w32_neg hV0 hV1]
    by_cases c1 : L i ≤ 1
    · have e2 := e1 c1
      rw [if_pos c1, if_neg (by omega), w32_neg hv1 hs1]
    · rw [if_neg c1]
      by_cases c2 : s.1 ≤ V
      · rw [if_neg (by omega), if_pos c2, w32_neg hv1 hs1]
      · rw [if_pos (by omega), if_neg c2]
        show _ = some (Sum.inl (μ5, w32 (0 - V), (i : Int), _))
        rw [w32_neg hV0 hV1]) (fun μ3 hs => by
    have h3 : MN N M tp L PH PF PB μ3 q := h.fr hs
    refine ⟨μ3, ?_, hs⟩
    show mm_best_l63 μ3 n 1 _ _ ((M.toNat : Nat) : Int) = _
    unfold mm_best_l63
    rw [h3.2.1.2.2.1, if_pos (by omega)]) hf (b0 := (w32 (0 - yrs N M PH PF PB L n.toNat (trow q) 193), -1, 0)) rfl
theorem op_best (h : RE N M tp L PH PF PB σ μ) (n x : Int) : OC N M tp L PH PF PB thB (pf_P_best_0 σ n x) (mm_best μ n x) := by
  have hn1 := h.1.1
  have hn2 := h.1.2.1
  have hn3 := h.1.2.2.1
  have hCN := h.cn
  have hMN := h.mn
  obtain ⟨hN, hE, hR, hI⟩ := h.cn
  obtain ⟨-, hEM, hRM, -, -⟩ := h.mn
  unfold pf_P_best_0 mm_best
  simp only [klet]
  by_cases k1 : 0 ≤ x ∧ x ≤ 1
  · rw [c_what1 k1, m_isWhat1 mT0 k1]
    simp only [Option.bind]
    rw [if_neg (show ¬ (1 : Int) = 0 by decide)]
    by_cases k2 : 1 ≤ n ∧ n ≤ 60
    · rw [c_within1 k2, m_isSoon1 mT0 k2]
      simp only
      rw [if_neg (show ¬ (1 : Int) = 0 by decide)]
      obtain ⟨μ1, b1, b2, b3⟩ := m_goesTo hMN (n := n) (by omega) (by omega)
      rw [b1]
      simp only
      unfold mm_best_j56
      simp only [klet]
      have hc : x = 0 ∨ x = 1 := by omega
      rcases hc with rfl | rfl
      · rw [if_pos rfl, if_pos rfl, b2.2.1.2.1, m_sumOf b2.2.2.1 (by decide) (by decide) hn1.1 (by decide) (by omega)]
        simp only
        obtain ⟨σ1, a1, a2⟩ := c_bestP hCN (n := n) (by omega) (by omega)
        obtain ⟨μ2, d1, d2⟩ := m_bestP hMN (n := n) (by omega) (by omega) b3 (sSum (yrs N M PH PF PB L n.toNat (trow (μ 8))) 1 N.toNat)
        rw [a1, d1]
        exact OC.ok h rfl rfl (kpC.fr64 a2) (kpM.th.trans (kpM.fr d2)) (fr0 d2)
      · rw [if_neg (show ¬ (1 : Int) = 0 by decide), if_neg (show ¬ (1 : Int) = 0 by decide), b2.2.2.2.1.2.2.1]
        obtain ⟨σ1, a1, a2⟩ := c_bestB hCN (n := n) (by omega) (by omega)
        obtain ⟨μ2, d1, d2⟩ := m_bestB hMN (n := n) (by omega) (by omega) b3 rfl
        rw [a1, d1]
        exact OC.ok h rfl rfl (kpC.fr64 a2) (kpM.th.trans (kpM.fr d2)) (fr0 d2)
    · rw [c_within0 k2, m_isSoon0 mT0 (by decide) k2]
      exact OC.no h (b := 0) (μ' := mR (mT μ) 2) rfl rfl kpC.rfl (kpM.th.trans kpM.th) (Or.inr ⟨rfl, mR0⟩)
  · rw [c_what0 k1, m_isWhat0 mT0 k1]
    exact OC.no h (b := 0) (μ' := mR (mT μ) 1) rfl rfl kpC.rfl (kpM.th.trans kpM.th) (Or.inl ⟨rfl, mR0⟩)
end BEST

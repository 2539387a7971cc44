/-! CALLS: action -/
section OPS4
variable {N M tp : Int} {L : Nat → Int} {PH PF PB : List Int} {σ σ' μ μ' : kM} {q : Nat → Int}
def pcn (s : Int) : Int := kit (fun k n => w32 (n + kand (kshr s (k : Int)) 1)) 8 0
theorem m_bits {s : Int} : mm_bits μ s = some (pcn s) := by
  unfold mm_bits
  rw [kl_V (fun i => (kit (fun k n => w32 (n + kand (kshr s (k : Int)) 1)) i 0, (i : Int))) 8 (pcn s) (by decide) (fun i hi => by
    show mm_bits_l4 μ s (kit (fun k n => w32 (n + kand (kshr s (k : Int)) 1)) i 0) (i : Int) = _
    unfold mm_bits_l4
    rw [if_neg (by omega), w32_s (v := (i : Int) + 1) (by omega) (by omega)]
    rfl) (by
    show mm_bits_l4 μ s _ ((8 : Nat) : Int) = _
    unfold mm_bits_l4
    rw [if_pos (by decide)]
    rfl) (b0 := (0, 0)) rfl]
  rfl
theorem pcn_all : ∀ s : Fin 256, (0 ≤ pcn (s.val : Int) ∧ pcn (s.val : Int) ≤ 8) ∧ kand (w32 (w32 (kand (w32 ((w32 (kand (w32 ((s.val : Int) - kand (kushr (s.val : Int) 1) 1431655765)) 858993459 + kand (kushr (w32 ((s.val : Int) - kand (kushr (s.val : Int) 1) 1431655765)) 2) 858993459)) + kushr (w32 (kand (w32 ((s.val : Int) - kand (kushr (s.val : Int) 1) 1431655765)) 858993459 + kand (kushr (w32 ((s.val : Int) - kand (kushr (s.val : Int) 1) 1431655765)) 2) 858993459)) 4)) 252645135 + kushr (kand (w32 ((w32 (kand (w32 ((s.val : Int) - kand (kushr (s.val : Int) 1) 1431655765)) 858993459 + kand (kushr (w32 ((s.val : Int) - kand (kushr (s.val : Int) 1) 1431655765)) 2) 858993459)) + kushr (w32 (kand (w32 ((s.val : Int) - kand (kushr (s.val : Int) 1) 1431655765)) 858993459 + kand (kushr (w32 ((s.val : Int) - kand (kushr (s.val : Int) 1) 1431655765)) 2) 858993459)) 4)) 252645135) 8) + kushr (w32 (kand (w32 ((w32 (kand (w32 ((s.val : Int) - kand (kushr (s.val : Int) 1) 1431655765)) 858993459 + kand (kushr (w32 ((s.val : Int) - kand (kushr (s.val : Int) 1) 1431655765)) 2) 858993459)) + kushr (w32 (kand (w32 ((s.val : Int) - kand (kushr (s.val : Int) 1) 1431655765)) 858993459 + kand (kushr (w32 ((s.val : Int) - kand (kushr (s.val : Int) 1) 1431655765)) 2) 858993459)) 4)) 252645135 + kushr (kand (w32 ((w32 (kand (w32 ((s.val : Int) - kand (kushr (s.val : Int) 1) 1431655765)) 858993459 + kand (kushr (w32 ((s.val : Int) - kand (kushr (s.val : Int) 1) 1431655765)) 2) 858993459)) + kushr (w32 (kand (w32 ((s.val : Int) - kand (kushr (s.val : Int) 1) 1431655765)) 858993459 + kand (kushr (w32 ((s.val : Int) - kand (kushr (s.val : Int) 1) 1431655765)) 2) 858993459)) 4)) 252645135) 8)) 16)) 63 = pcn (s.val : Int) := by decide +kernel
theorem c_bitCount {s : Int} (h0 : 0 ≤ s) (h : s < 256) : pf_Integer_bitCount_0f7a4 σ s = some (pcn s) := by
  have h1 := (pcn_all ⟨s.toNat, by omega⟩).2
  simp only [Int.toNat_of_nonneg h0] at h1
  rw [← h1]
  rfl
theorem pcn_rng {s : Int} (h0 : 0 ≤ s) (h : s < 256) : 0 ≤ pcn s ∧ pcn s ≤ 8 := by
  have h1 := (pcn_all ⟨s.toNat, by omega⟩).1
  simp only [Int.toNat_of_nonneg h0] at h1
  exact h1
/-- the fewest, ahead of the set i -/
def anF (f : Nat → Int) (n : Nat) (purse : Int) (i : Nat) (b : Int) : Int :=
  if b ≠ -1 ∧ pcn b ≤ pcn (i : Int) then b else if bsum f n (i : Int) ≤ purse then b else (i : Int)
abbrev anDue (PH PF : List Int) (L : Nat → Int) (q : Nat → Int) (w : Int) : Nat → Int := fun p => nDue PH PF L q w (p : Int) (L w.toNat).toNat
abbrev anI (N : Int) (PH PF : List Int) (L : Nat → Int) (q : Nat → Int) (w : Int) (i : Nat) : Int := kit (anF (anDue PH PF L q w) N.toNat (q (17 + w).toNat)) i (-1)
theorem anI_inv {w : Int} (i : Nat) : -1 ≤ anI N PH PF L q w i ∧ anI N PH PF L q w i < (i : Int) := by
  refine kit_indN (P := fun i (b : Int) => -1 ≤ b ∧ b < (i : Int)) i (by decide) (fun i b hi h => ?_)
  unfold anF
  split
  · omega
  · split <;> omega
theorem nDue_rng (w p : Int) (n : Nat) : kR32 (nDue PH PF L q w p n) := by
  unfold nDue
  exact kit_ind (P := fun v => kR32 v) _ k32_0 (fun i v _ h => w32_rng _)
def anW (b : Int) : Int := if b = -1 then 9 else pcn b
theorem c_action (h : CN N M tp L PH PF PB σ q) {w : Int} (hw : 0 ≤ w ∧ w < M) : ∃ σ', pf_Court_classAction_50 σ w = some (anI N PH PF L q w (kshl 1 N).toNat, σ') ∧ kpC σ σ' := by
  have hn1 := h.1.1
  have hn2 := h.1.2.1
  have hsh := ksh_rng (n := N) (by omega) (by omega)
  have hpu := h.2.2.2.pence hw.1 (by omega)
  unfold pf_Court_classAction_50
  obtain ⟨σ1, h1, h2, h3⟩ := kl_M (body := fun st => pf_Court_classAction_50_l2 st.1 w st.2) (fun i σ1 => (∀ l : Nat, l < i → σ1 53 l = anDue PH PF L q w l) ∧ kpC σ σ1) (fun i => (i : Int)) N.toNat (by omega) (fun i σ1 hi hs => by
    have h3 : CN N M tp L PH PF PB σ1 q := h.kp hs.2
    obtain ⟨σ2, h4, h5⟩ := c_due h3 hw.1 hw.2 (p := (i : Int)) (by omega) (by omega)
    refine ⟨kst σ2 53 (kup (σ2 53) i (anDue PH PF L q w i)), ?_, ?_, (hs.2.trans (kpC.scr h5)).trans (kpC.put (by decide))⟩
    · show pf_Court_classAction_50_l2 σ1 w (i : Int) = _
      unfold pf_Court_classAction_50_l2
      rw [h3.2.1.2.1, if_neg (by omega), h4]
      simp only [Option.bind, klet]
      rw [kchk_t (by omega), Int.toNat_natCast, w32_s (by omega) (by omega)]
      rfl
    · intro l hl
      rw [kst_eq, h5 53 (by decide) (by decide)]
      by_cases e : l = i
      · subst e
        rw [kup_eq]
      · rw [kup_ne e]
        exact hs.1 l (by omega)) (fun σ1 hs => by
    refine ⟨σ1, ?_, hs⟩
    have h3 : CN N M tp L PH PF PB σ1 q := h.kp hs.2
    show pf_Court_classAction_50_l2 σ1 w ((N.toNat : Nat) : Int) = _
    unfold pf_Court_classAction_50_l2
    rw [h3.2.1.2.1, if_pos (by omega)]) (σ := σ) ⟨fun l hl => absurd hl (by omega), kpC.rfl⟩ (b0 := 0) rfl
  rw [h1]
  simp only [Option.bind, klet]
  have h4 := h.kp h3
  rw [w32_s (v := 49 + w) (by omega) (by omega), kchk_t (by omega), h4.2.2.1.pence hw.1 (by omega)]
  have eN : ((N.toNat : Nat) : Int) = N := by omega
  have e0 : anI N PH PF L q w 1 = -1 := by
    show anF (anDue PH PF L q w) N.toNat (q (17 + w).toNat) 0 (-1) = -1
    unfold anF
    rw [if_neg (by intro h; exact h.1 rfl), if_pos]
    show bsum (anDue PH PF L q w) N.toNat 0 ≤ _
    rw [bsum0 _ _ (by omega)]
    exact hpu.1
  rw [kl_V (body := fun st => pf_Court_classAction_50_l56 σ1 (q (17 + w).toNat) st.1 st.2.1 st.2.2) (fun i => (anI N PH PF L q w (i + 1), anW (anI N PH PF L q w (i + 1)), (i : Int) + 1)) ((kshl 1 N).toNat - 1) (anI N PH PF L q w (kshl 1 N).toNat) (by omega) (fun i hi => by
    show pf_Court_classAction_50_l56 σ1 (q (17 + w).toNat) (anI N PH PF L q w (i + 1)) (anW (anI N PH PF L q w (i + 1))) ((i : Int) + 1) = some (Sum.inl (anF (anDue PH PF L q w) N.toNat (q (17 + w).toNat) (i + 1) (anI N PH PF L q w (i + 1)), anW (anF (anDue PH PF L q w) N.toNat (q (17 + w).toNat) (i + 1) (anI N PH PF L q w (i + 1))), ((i + 1 : Nat) : Int) + 1))
    have hv := anI_inv (N := N) (PH := PH) (PF := PF) (L := L) (q := q) (w := w) (i + 1)
    generalize anI N PH PF L q w (i + 1) = b at hv
    unfold pf_Court_classAction_50_l56 pf_Court_classAction_50_l56_j103 anF
    rw [h4.2.1.2.1, if_neg (by omega), c_bitCount (by omega) (by omega), c_sumOf53 (f := anDue PH PF L q w) (n := N.toNat) (by omega) (by omega) (by rw [eN]; omega) h2]
    simp only [Option.bind, klet]
    rw [w32_s (by omega) (by omega), show ((i + 1 : Nat) : Int) = (i : Int) + 1 by omega]
    have hp1 := pcn_rng (s := (i : Int) + 1) (by omega) (by omega)
    by_cases c0 : b = -1
    · subst c0
      rw [if_neg (show ¬ anW (-1) ≤ pcn ((i : Int) + 1) by show ¬ 9 ≤ pcn ((i : Int) + 1); omega), if_neg (show ¬ ((-1 : Int) ≠ -1 ∧ pcn (-1) ≤ pcn ((i : Int) + 1)) from fun h => h.1 rfl)]
      by_cases c1 : bsum (anDue PH PF L q w) N.toNat ((i : Int) + 1) ≤ q (17 + w).toNat
      · rw [if_pos c1, if_pos c1]
      · rw [if_neg c1, if_neg c1, show anW ((i : Int) + 1) = pcn ((i : Int) + 1) from if_neg (by omega)]
    · have e1 : anW b = pcn b := if_neg c0
      rw [e1]
      by_cases c2 : pcn b ≤ pcn ((i : Int) + 1)
      · rw [if_pos c2, if_pos ⟨c0, c2⟩, e1]
      · rw [if_neg c2, if_neg (show ¬ (b ≠ -1 ∧ pcn b ≤ pcn ((i : Int) + 1)) from fun h => c2 h.2)]
        by_cases c1 : bsum (anDue PH PF L q w) N.toNat ((i : Int) + 1) ≤ q (17 + w).toNat
        · rw [if_pos c1, if_pos c1, e1]
        · rw [if_neg c1, if_neg c1, show anW ((i : Int) + 1) = pcn ((i : Int) + 1) from if_neg (by omega)]) (by
    show pf_Court_classAction_50_l56 σ1 (q (17 + w).toNat) (anI N PH PF L q w ((kshl 1 N).toNat - 1 + 1)) (anW (anI N PH PF L q w ((kshl 1 N).toNat - 1 + 1))) ((((kshl 1 N).toNat - 1 : Nat) : Int) + 1) = _
    rw [show (kshl 1 N).toNat - 1 + 1 = (kshl 1 N).toNat by omega]
    unfold pf_Court_classAction_50_l56
    rw [h4.2.1.2.1, if_pos (by omega)]) (b0 := (-1, 9, 1)) (by
    show ((-1 : Int), (9 : Int), (1 : Int)) = (anI N PH PF L q w 1, anW (anI N PH PF L q w 1), _)
    rw [e0]
    rfl)]
  exact ⟨σ1, rfl, h3⟩
theorem m_actIn (h : MN N M tp L PH PF PB μ q) {w x2 s : Int} (hw : 0 ≤ w ∧ w < M) (hs0 : 0 ≤ s) (hs : s < 256) : ∃ μ', kloop (fun st => mm_action_l54 st.1 w x2 s st.2.1 st.2.2) kFuel (μ, 0, 0) = some (μ', bsum (anDue PH PF L q w) N.toNat s) ∧ scrM μ μ' := by
  have hn1 := h.1.1
  have hn2 := h.1.2.1
  rw [← bsum_m (by omega) hs0 hs (fun l _ => nDue_rng w (l : Int) _)]
  exact kl_S (body := fun st => mm_action_l54 st.1 w x2 s st.2.1 st.2.2) (scrM μ) (fun i => (kit (fun l v => w32 (v + w32 (kand (kshr s (l : Int)) 1 * anDue PH PF L q w l))) i 0, (i : Int))) N.toNat _ (by omega) (fun i σ1 hi hs => by
    have h3 : MN N M tp L PH PF PB σ1 q := h.scr hs
    obtain ⟨σ2, h4, h5⟩ := m_due h3 hw.1 hw.2 (p := (i : Int)) (by omega) (by omega)
    refine ⟨σ2, ?_, hs.trans h5⟩
    show mm_action_l54 σ1 w x2 s (kit (fun l v => w32 (v + w32 (kand (kshr s (l : Int)) 1 * anDue PH PF L q w l))) i 0) (i : Int) = _
    unfold mm_action_l54
    rw [h3.2.1.2.1, if_neg (by omega), h4]
    simp only [Option.bind, klet]
    rw [w32_s (v := (i : Int) + 1) (by omega) (by omega)]
    rfl) (fun σ1 hs => by
    have h3 : MN N M tp L PH PF PB σ1 q := h.scr hs
    refine ⟨σ1, ?_, hs⟩
    show mm_action_l54 σ1 w x2 s _ ((N.toNat : Nat) : Int) = _
    unfold mm_action_l54
    rw [h3.2.1.2.1, if_pos (by omega)]) scrM.rfl (b0 := (0, 0)) rfl
theorem m_action (h : MN N M tp L PH PF PB μ q) {w : Int} (hw : 0 ≤ w ∧ w < M) : ∃ μ', kloop (fun st => mm_action_l19 st.1 w st.2.1 st.2.2) kFuel (μ, -1, 0) = some (μ', anI N PH PF L q w (kshl 1 N).toNat) ∧ scrM μ μ' := by
  have hn1 := h.1.1
  have hn2 := h.1.2.1
  have hsh := ksh_rng (n := N) (by omega) (by omega)
  exact kl_S (body := fun st => mm_action_l19 st.1 w st.2.1 st.2.2) (scrM μ) (fun i => (anI N PH PF L q w i, (i : Int))) (kshl 1 N).toNat _ (by omega) (fun i σ1 hi hs => by
    have h3 : MN N M tp L PH PF PB σ1 q := h.scr hs
    show ∃ σ2, mm_action_l19 σ1 w (anI N PH PF L q w i) (i : Int) = some (Sum.inl (σ2, anF (anDue PH PF L q w) N.toNat (q (17 + w).toNat) i (anI N PH PF L q w i), ((i + 1 : Nat) : Int))) ∧ scrM μ σ2
    have hv := anI_inv (N := N) (PH := PH) (PF := PF) (L := L) (q := q) (w := w) i
    generalize anI N PH PF L q w i = b at hv
    obtain ⟨σ2, h4, h5⟩ := m_actIn (x2 := b) h3 hw (s := (i : Int)) (by omega) (by omega)
    have e48 : mm_action_l19_j48 σ1 w b (i : Int) = some (Sum.inl (σ2, (if bsum (anDue PH PF L q w) N.toNat (i : Int) ≤ q (17 + w).toNat then b else (i : Int)), ((i + 1 : Nat) : Int))) := by
      unfold mm_action_l19_j48 mm_action_l19_j104
      rw [h4]
      simp only [Option.bind, klet]
      rw [w32_s (v := 17 + w) (by omega) (by omega), kchk_t (by omega), (h3.scr h5).2.2.1.at (j := (17 + w).toNat) (i := 17 + w) (by omega) (by omega) (by decide) (by omega), w32_s (v := (i : Int) + 1) (by omega) (by omega)]
      by_cases c1 : bsum (anDue PH PF L q w) N.toNat (i : Int) ≤ q (17 + w).toNat
      · rw [if_pos c1, if_pos c1]
        rfl
      · rw [if_neg c1, if_neg c1]
        rfl
    unfold mm_action_l19 anF
    rw [h3.2.1.2.1, if_neg (by omega), e48, m_bits, m_bits]
    simp only [Option.bind]
    by_cases c0 : b = -1
    · rw [if_pos c0, if_neg (show ¬ (b ≠ -1 ∧ pcn b ≤ pcn (i : Int)) from fun h => h.1 c0)]
      exact ⟨σ2, rfl, hs.trans h5⟩
    · rw [if_neg c0]
      by_cases c2 : pcn b ≤ pcn (i : Int)
      · rw [if_neg (by omega), if_pos ⟨c0, c2⟩]
        refine ⟨σ1, ?_, hs⟩
        unfold mm_action_l19_j104
        simp only [klet]
        rw [w32_s (v := (i : Int) + 1) (by omega) (by omega)]
        rfl
      · rw [if_pos (by omega), if_neg (show ¬ (b ≠ -1 ∧ pcn b ≤ pcn (i : Int)) from fun h => c2 h.2)]
        exact ⟨σ2, rfl, hs.trans h5⟩) (fun σ1 hs => by
    have h3 : MN N M tp L PH PF PB σ1 q := h.scr hs
    refine ⟨σ1, ?_, hs⟩
    show mm_action_l19 σ1 w _ (((kshl 1 N).toNat : Nat) : Int) = _
    unfold mm_action_l19
    rw [h3.2.1.2.1, if_pos (by omega)]) scrM.rfl (b0 := (-1, 0)) rfl
theorem op_action (h : RE N M tp L PH PF PB σ μ) (w : Int) : OC N M tp L PH PF PB thN (pf_P_action_0 σ w) (mm_action μ w) := by
  have hCN := h.cn
  have hMN := h.mn
  obtain ⟨hN, hE, hR, hI⟩ := h.cn
  obtain ⟨-, hEM, hRM, -, -⟩ := h.mn
  unfold pf_P_action_0 mm_action
  simp only [klet]
  by_cases hw : 0 ≤ w ∧ w < M
  · rw [c_poet1 (by rw [hE.2.2.1]; exact hw), m_isPoet1 mT0 (by rw [hEM.2.2.1]; exact hw)]
    simp only [Option.bind]
    rw [if_neg (show ¬ (1 : Int) = 0 by decide)]
    obtain ⟨σ1, a1, a2⟩ := c_action hCN hw
    obtain ⟨μ1, b1, b2⟩ := m_action hMN hw
    rw [a1, b1]
    exact OC.ok h rfl rfl a2 (kpM.th.trans (kpM.scr b2)) (scr0 b2)
  · rw [c_poet0 (by rw [hE.2.2.1]; exact hw), m_isPoet0 mT0 (by rw [hEM.2.2.1]; exact hw)]
    exact OC.no h (b := 0) (μ' := mR (mT μ) 1) rfl rfl kpC.rfl (kpM.th.trans kpM.th) ⟨rfl, mR0⟩
end OPS4

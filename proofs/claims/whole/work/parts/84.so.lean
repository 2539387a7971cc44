/-! CALLS: sonnet, action -/
section OPS3
variable {N M tp : Int} {L : Nat → Int} {PH PF PB : List Int} {σ σ' μ μ' : kM} {q : Nat → Int}
/-- the best set of lines, ahead of the set i + 1 -/
def soF (f g : Nat → Int) (n : Nat) (purse : Int) (i : Nat) (s : Int × Int) : Int × Int :=
  if purse < bsum f n ((i : Int) + 1) then s else if s.2 < bsum g n ((i : Int) + 1) then ((i : Int) + 1, bsum g n ((i : Int) + 1)) else s
theorem bsum0 (f : Nat → Int) (n : Nat) (hn : n ≤ 8) : bsum f n 0 = 0 := by
  unfold bsum
  refine kit_ind (P := fun v => v = 0) _ rfl (fun i v hi h => ?_)
  rw [kb_0 (by omega) (by omega), if_pos rfl]
  exact h
theorem soF_inv {f g : Nat → Int} {n : Nat} {purse : Int} (hn : n ≤ 8) (m : Nat) : (0 ≤ (kit (soF f g n purse) m (0, 0)).1 ∧ (kit (soF f g n purse) m (0, 0)).1 ≤ (m : Int)) ∧ bsum g n (kit (soF f g n purse) m (0, 0)).1 = (kit (soF f g n purse) m (0, 0)).2 := by
  refine kit_indN (P := fun i (s : Int × Int) => (0 ≤ s.1 ∧ s.1 ≤ (i : Int)) ∧ bsum g n s.1 = s.2) m ⟨by decide, bsum0 g n hn⟩ (fun i s hi h => ?_)
  unfold soF
  split
  · exact ⟨by omega, h.2⟩
  · split
    · exact ⟨⟨by show 0 ≤ (i : Int) + 1; omega, by show (i : Int) + 1 ≤ ((i + 1 : Nat) : Int); omega⟩, rfl⟩
    · exact ⟨by omega, h.2⟩
theorem c_sumOf51 {f : Nat → Int} {n : Nat} {s : Int} (hn : n ≤ 6) (hs0 : 0 ≤ s) (hs : s < kshl 1 (n : Int)) (hf : ∀ l, l < n → σ 51 l = f l) : pf_Court_sumOf_51 σ s = some (bsum f n s) := by
  unfold pf_Court_sumOf_51
  rw [kl_V (fun i => (kit (fun l v => w32 (v + (if kand (kshr s (l : Int)) 1 = 1 then σ 51 l else 0))) i 0, (i : Int))) 6 (bsum f n s) (by decide) (fun i hi => by
    show pf_Court_sumOf_51_l4 σ s (kit (fun l v => w32 (v + (if kand (kshr s (l : Int)) 1 = 1 then σ 51 l else 0))) i 0) (i : Int) = _
    unfold pf_Court_sumOf_51_l4 pf_Court_sumOf_51_l4_j27
    rw [if_neg (by omega), kchk_t (by omega), w32_s (v := (i : Int) + 1) (by omega) (by omega), Int.toNat_natCast]
    simp only [klet]
    show _ = some (Sum.inl (w32 (kit (fun l v => w32 (v + (if kand (kshr s (l : Int)) 1 = 1 then σ 51 l else 0))) i 0 + (if kand (kshr s (i : Int)) 1 = 1 then σ 51 i else 0)), ((i + 1 : Nat) : Int)))
    by_cases hb : kand (kshr s (i : Int)) 1 = 1
    · rw [if_pos hb, if_pos hb]
      rfl
    · rw [if_neg hb, if_neg hb]
      rfl) (by
    show pf_Court_sumOf_51_l4 σ s _ ((6 : Nat) : Int) = _
    unfold pf_Court_sumOf_51_l4
    rw [if_pos (by decide), bsum_c hn (by decide) hs0 hs hf]) (b0 := (0, 0)) rfl]
  rfl
theorem c_sumOf52 {f : Nat → Int} {n : Nat} {s : Int} (hn : n ≤ 6) (hs0 : 0 ≤ s) (hs : s < kshl 1 (n : Int)) (hf : ∀ l, l < n → σ 52 l = f l) : pf_Court_inchesOf_50 σ s = some (bsum f n s) := by
  unfold pf_Court_inchesOf_50 pf_Court_sumOf_52
  rw [kl_V (fun i => (kit (fun l v => w32 (v + (if kand (kshr s (l : Int)) 1 = 1 then σ 52 l else 0))) i 0, (i : Int))) 6 (bsum f n s) (by decide) (fun i hi => by
    show pf_Court_sumOf_52_l4 σ s (kit (fun l v => w32 (v + (if kand (kshr s (l : Int)) 1 = 1 then σ 52 l else 0))) i 0) (i : Int) = _
    unfold pf_Court_sumOf_52_l4 pf_Court_sumOf_52_l4_j27
    rw [if_neg (by omega), kchk_t (by omega), w32_s (v := (i : Int) + 1) (by omega) (by omega), Int.toNat_natCast]
    simp only [klet]
    show _ = some (Sum.inl (w32 (kit (fun l v => w32 (v + (if kand (kshr s (l : Int)) 1 = 1 then σ 52 l else 0))) i 0 + (if kand (kshr s (i : Int)) 1 = 1 then σ 52 i else 0)), ((i + 1 : Nat) : Int)))
    by_cases hb : kand (kshr s (i : Int)) 1 = 1
    · rw [if_pos hb, if_pos hb]
      rfl
    · rw [if_neg hb, if_neg hb]
      rfl) (by
    show pf_Court_sumOf_52_l4 σ s _ ((6 : Nat) : Int) = _
    unfold pf_Court_sumOf_52_l4
    rw [if_pos (by decide), bsum_c hn (by decide) hs0 hs hf]) (b0 := (0, 0)) rfl]
  rfl
theorem c_sumOf53 {f : Nat → Int} {n : Nat} {s : Int} (hn : n ≤ 8) (hs0 : 0 ≤ s) (hs : s < kshl 1 (n : Int)) (hf : ∀ l, l < n → σ 53 l = f l) : pf_Court_sumOf_53 σ s = some (bsum f n s) := by
  unfold pf_Court_sumOf_53
  rw [kl_V (fun i => (kit (fun l v => w32 (v + (if kand (kshr s (l : Int)) 1 = 1 then σ 53 l else 0))) i 0, (i : Int))) 8 (bsum f n s) (by decide) (fun i hi => by
    show pf_Court_sumOf_53_l4 σ s (kit (fun l v => w32 (v + (if kand (kshr s (l : Int)) 1 = 1 then σ 53 l else 0))) i 0) (i : Int) = _
    unfold pf_Court_sumOf_53_l4 pf_Court_sumOf_53_l4_j27
    rw [if_neg (by omega), kchk_t (by omega), w32_s (v := (i : Int) + 1) (by omega) (by omega), Int.toNat_natCast]
    simp only [klet]
    show _ = some (Sum.inl (w32 (kit (fun l v => w32 (v + (if kand (kshr s (l : Int)) 1 = 1 then σ 53 l else 0))) i 0 + (if kand (kshr s (i : Int)) 1 = 1 then σ 53 i else 0)), ((i + 1 : Nat) : Int)))
    by_cases hb : kand (kshr s (i : Int)) 1 = 1
    · rw [if_pos hb, if_pos hb]
      rfl
    · rw [if_neg hb, if_neg hb]
      rfl) (by
    show pf_Court_sumOf_53_l4 σ s _ ((8 : Nat) : Int) = _
    unfold pf_Court_sumOf_53_l4
    rw [if_pos (by decide), bsum_c hn (by decide) hs0 hs hf]) (b0 := (0, 0)) rfl]
  rfl
/-- fines and inches of lines, as the sonnet takes them -/
abbrev soFi (N : Int) (PH PF : List Int) (L : Nat → Int) (q : Nat → Int) (w : Int) : Nat → Int := fun l => nFine PH PF L q w (l : Int) N.toNat
abbrev soIn (N : Int) (PH : List Int) (q : Nat → Int) (w : Int) : Nat → Int := fun l => nInch PH q w (l : Int) N.toNat
abbrev soN (N : Int) (PH PF : List Int) (L : Nat → Int) (q : Nat → Int) (w : Int) : Int × Int := kit (soF (soFi N PH PF L q w) (soIn N PH q w) (L w.toNat).toNat (q (17 + w).toNat)) ((kshl 1 (L w.toNat)).toNat - 1) (0, 0)
theorem c_sonnet (h : CN N M tp L PH PF PB σ q) {w : Int} (hw : 0 ≤ w ∧ w < M) : ∃ σ', pf_Court_sonnetLines_50 σ w = some ((soN N PH PF L q w).1, σ') ∧ (∀ l : Nat, l < (L w.toNat).toNat → σ' 51 l = soFi N PH PF L q w l ∧ σ' 52 l = soIn N PH q w l) ∧ kpC σ σ' := by
  have hn1 := h.1.1
  have hn2 := h.1.2.1
  have hL := h.1.2.2.2.1 w hw.1 hw.2
  have hsh := ksh_rng (n := L w.toNat) (by omega) (by omega)
  unfold pf_Court_sonnetLines_50
  rw [kchk_t (by omega)]
  simp only [klet]
  rw [h.2.1.2.2.2.1 w hw.1 hw.2]
  obtain ⟨σ1, h1, h2, h3⟩ := kl_M (body := fun st => pf_Court_sonnetLines_50_l12 st.1 w (L w.toNat) st.2) (fun i σ1 => (∀ l : Nat, l < i → σ1 51 l = soFi N PH PF L q w l ∧ σ1 52 l = soIn N PH q w l) ∧ kpC σ σ1) (fun i => (i : Int)) (L w.toNat).toNat (by omega) (fun i σ1 hi hs => by
    have h3 : CN N M tp L PH PF PB σ1 q := h.kp hs.2
    obtain ⟨σ2, h4, h5⟩ := c_fineOf h3 hw.1 hw.2 (l := (i : Int)) (by omega) (by omega)
    have h6 : CN N M tp L PH PF PB (kst σ2 51 (kup (σ2 51) i (nFine PH PF L q w (i : Int) N.toNat))) q := (h3.scr h5).kp (kpC.put (by decide))
    obtain ⟨σ3, h7, h8⟩ := c_inchOf h6 hw.1 hw.2 (l := (i : Int)) (by omega) (by omega)
    refine ⟨kst σ3 52 (kup (σ3 52) i (nInch PH q w (i : Int) N.toNat)), ?_, ?_, ?_⟩
    · show pf_Court_sonnetLines_50_l12 σ1 w (L w.toNat) (i : Int) = _
      unfold pf_Court_sonnetLines_50_l12
      rw [if_neg (by omega), h4]
      simp only [Option.bind, klet]
      rw [kchk_t (by omega), Int.toNat_natCast, h7]
      simp only
      rw [kchk_t (by omega), w32_s (by omega) (by omega)]
      rfl
    · intro l hl
      have e51 : σ3 51 = kup (σ1 51) i (nFine PH PF L q w (i : Int) N.toNat) := by
        rw [h8 51 (by decide) (by decide), kst_eq, h5 51 (by decide) (by decide)]
      have e52 : σ3 52 = σ1 52 := by
        rw [h8 52 (by decide) (by decide), kst_ne (by decide), h5 52 (by decide) (by decide)]
      rw [kst_ne (by decide), kst_eq, e51, e52]
      by_cases e : l = i
      · subst e
        rw [kup_eq, kup_eq]
        exact ⟨rfl, rfl⟩
      · rw [kup_ne e, kup_ne e]
        exact hs.1 l (by omega)
    · exact ((hs.2.trans (kpC.scr h5)).trans (kpC.put (by decide))).trans ((kpC.scr h8).trans (kpC.put (by decide)))) (fun σ1 hs => by
    refine ⟨σ1, ?_, hs⟩
    show pf_Court_sonnetLines_50_l12 σ1 w (L w.toNat) (((L w.toNat).toNat : Nat) : Int) = _
    unfold pf_Court_sonnetLines_50_l12
    rw [if_pos (by omega)]) (σ := σ) ⟨fun l hl => absurd hl (by omega), kpC.rfl⟩ (b0 := 0) rfl
  rw [h1]
  simp only [Option.bind]
  have h4 := h.kp h3
  rw [w32_s (v := 49 + w) (by omega) (by omega), kchk_t (by omega), h4.2.2.1.pence hw.1 (by omega)]
  have eL : ((L w.toNat).toNat : Int) = L w.toNat := by omega
  rw [kl_V (body := fun st => pf_Court_sonnetLines_50_l69 σ1 (L w.toNat) (q (17 + w).toNat) st.1 st.2) (fun i => ((kit (soF (soFi N PH PF L q w) (soIn N PH q w) (L w.toNat).toNat (q (17 + w).toNat)) i (0, 0)).1, (i : Int) + 1)) ((kshl 1 (L w.toNat)).toNat - 1) (soN N PH PF L q w).1 (by omega) (fun i hi => by
    show pf_Court_sonnetLines_50_l69 σ1 (L w.toNat) (q (17 + w).toNat) (kit (soF (soFi N PH PF L q w) (soIn N PH q w) (L w.toNat).toNat (q (17 + w).toNat)) i (0, 0)).1 ((i : Int) + 1) = some (Sum.inl ((soF (soFi N PH PF L q w) (soIn N PH q w) (L w.toNat).toNat (q (17 + w).toNat) i (kit (soF (soFi N PH PF L q w) (soIn N PH q w) (L w.toNat).toNat (q (17 + w).toNat)) i (0, 0))).1, ((i + 1 : Nat) : Int) + 1))
    have hv := soF_inv (f := soFi N PH PF L q w) (g := soIn N PH q w) (n := (L w.toNat).toNat) (purse := q (17 + w).toNat) (by omega) i
    generalize kit (soF (soFi N PH PF L q w) (soIn N PH q w) (L w.toNat).toNat (q (17 + w).toNat)) i (0, 0) = s at hv
    unfold pf_Court_sonnetLines_50_l69 pf_Court_sonnetLines_50_l69_j109 soF
    rw [if_neg (by omega), c_sumOf51 (f := soFi N PH PF L q w) (n := (L w.toNat).toNat) (by omega) (by omega) (by rw [eL]; omega) (fun l hl => (h2 l hl).1), c_sumOf52 (f := soIn N PH q w) (n := (L w.toNat).toNat) (s := (i : Int) + 1) (by omega) (by omega) (by rw [eL]; omega) (fun l hl => (h2 l hl).2), c_sumOf52 (f := soIn N PH q w) (n := (L w.toNat).toNat) (s := s.1) (by omega) hv.1.1 (by rw [eL]; omega) (fun l hl => (h2 l hl).2), hv.2]
    simp only [Option.bind, klet]
    rw [w32_s (by omega) (by omega)]
    by_cases c1 : q (17 + w).toNat < bsum (soFi N PH PF L q w) (L w.toNat).toNat ((i : Int) + 1)
    · rw [if_pos c1, if_pos c1]
      rfl
    · rw [if_neg c1, if_neg c1]
      by_cases c2 : bsum (soIn N PH q w) (L w.toNat).toNat ((i : Int) + 1) ≤ s.2
      · rw [if_pos c2, if_neg (by omega)]
        rfl
      · rw [if_neg c2, if_pos (by omega)]
        rfl) (by
    show pf_Court_sonnetLines_50_l69 σ1 (L w.toNat) (q (17 + w).toNat) _ ((((kshl 1 (L w.toNat)).toNat - 1 : Nat) : Int) + 1) = _
    unfold pf_Court_sonnetLines_50_l69
    rw [if_pos (by omega)]) (b0 := (0, 1)) rfl]
  exact ⟨σ1, rfl, h2, h3⟩
theorem m_sonnetIn (h : MN N M tp L PH PF PB μ q) {w x2 x3 x4 s : Int} (hw : 0 ≤ w ∧ w < M) (hs0 : 0 ≤ s) (hs : s < 256) : ∃ μ', kloop (fun st => mm_sonnet_l57 st.1 w x2 x3 x4 s st.2.1 st.2.2.1 st.2.2.2) kFuel (μ, 0, 0, 0) = some (μ', bsum (soFi N PH PF L q w) (L w.toNat).toNat s, bsum (soIn N PH q w) (L w.toNat).toNat s) ∧ scrM μ μ' := by
  have hn1 := h.1.1
  have hn2 := h.1.2.1
  have hL := h.1.2.2.2.1 w hw.1 hw.2
  exact kl_S (body := fun st => mm_sonnet_l57 st.1 w x2 x3 x4 s st.2.1 st.2.2.1 st.2.2.2) (scrM μ) (fun i => (bsum (soFi N PH PF L q w) i s, bsum (soIn N PH q w) i s, (i : Int))) (L w.toNat).toNat (bsum (soFi N PH PF L q w) (L w.toNat).toNat s, bsum (soIn N PH q w) (L w.toNat).toNat s) (by omega) (fun i σ1 hi hs => by
    have h3 : MN N M tp L PH PF PB σ1 q := h.scr hs
    obtain ⟨σ2, h4, h5⟩ := m_fineOf h3 hw.1 hw.2 (l := (i : Int)) (by omega) (by omega)
    obtain ⟨σ3, h6, h7⟩ := m_inchOf (h3.scr h5) hw.1 hw.2 (l := (i : Int)) (by omega) (by omega)
    have e1 : mm_sonnet_l57 σ1 w x2 x3 x4 s (bsum (soFi N PH PF L q w) i s) (bsum (soIn N PH q w) i s) (i : Int) = if kand (kshr s (i : Int)) 1 = 0 then some (Sum.inl (σ1, bsum (soFi N PH PF L q w) i s, bsum (soIn N PH q w) i s, (i : Int) + 1)) else some (Sum.inl (σ3, w32 (bsum (soFi N PH PF L q w) i s + soFi N PH PF L q w i), w32 (bsum (soIn N PH q w) i s + soIn N PH q w i), (i : Int) + 1)) := by
      unfold mm_sonnet_l57 mm_sonnet_l57_j108
      rw [w32_s (v := 61 + w) (by omega) (by omega), kchk_t (by omega), h3.2.2.1.at (j := (61 + w).toNat) (i := 61 + w) (by omega) (by omega) (by decide) (by omega), h3.2.2.2.1.many hw.1 (by omega), if_neg (by omega), h4]
      simp only [Option.bind, klet]
      rw [h6]
      simp only
      rw [w32_s (v := (i : Int) + 1) (by omega) (by omega)]
    have e2 : ∀ f : Nat → Int, bsum f (i + 1) s = if kand (kshr s (i : Int)) 1 = 0 then bsum f i s else w32 (bsum f i s + f i) := fun f => rfl
    by_cases hb : kand (kshr s (i : Int)) 1 = 0
    · refine ⟨σ1, ?_, hs⟩
      show mm_sonnet_l57 σ1 w x2 x3 x4 s (bsum (soFi N PH PF L q w) i s) (bsum (soIn N PH q w) i s) (i : Int) = some (Sum.inl (σ1, bsum (soFi N PH PF L q w) (i + 1) s, bsum (soIn N PH q w) (i + 1) s, ((i + 1 : Nat) : Int)))
      rw [e1, e2, e2, if_pos hb, if_pos hb, if_pos hb]
      rfl
    · refine ⟨σ3, ?_, (scrM.trans hs h5).trans h7⟩
      show mm_sonnet_l57 σ1 w x2 x3 x4 s (bsum (soFi N PH PF L q w) i s) (bsum (soIn N PH q w) i s) (i : Int) = some (Sum.inl (σ3, bsum (soFi N PH PF L q w) (i + 1) s, bsum (soIn N PH q w) (i + 1) s, ((i + 1 : Nat) : Int)))
      rw [e1, e2, e2, if_neg hb, if_neg hb, if_neg hb]
      rfl) (fun σ1 hs => by
    have h3 : MN N M tp L PH PF PB σ1 q := h.scr hs
    refine ⟨σ1, ?_, hs⟩
    show mm_sonnet_l57 σ1 w x2 x3 x4 s _ _ (((L w.toNat).toNat : Nat) : Int) = _
    unfold mm_sonnet_l57
    rw [w32_s (v := 61 + w) (by omega) (by omega), kchk_t (by omega), h3.2.2.1.at (j := (61 + w).toNat) (i := 61 + w) (by omega) (by omega) (by decide) (by omega), h3.2.2.2.1.many hw.1 (by omega), if_pos (by omega)]) scrM.rfl (b0 := (0, 0, 0)) rfl
theorem m_sonnet (h : MN N M tp L PH PF PB μ q) {w x2 : Int} (hw : 0 ≤ w ∧ w < M) : ∃ μ', kloop (fun st => mm_sonnet_l32 st.1 w x2 st.2.1 st.2.2.1 st.2.2.2) kFuel (μ, 0, 0, 1) = some (μ', (soN N PH PF L q w).1, (soN N PH PF L q w).2) ∧ scrM μ μ' := by
  have hn1 := h.1.1
  have hn2 := h.1.2.1
  have hL := h.1.2.2.2.1 w hw.1 hw.2
  have hsh := ksh_rng (n := L w.toNat) (by omega) (by omega)
  exact kl_S (body := fun st => mm_sonnet_l32 st.1 w x2 st.2.1 st.2.2.1 st.2.2.2) (scrM μ) (fun i => ((kit (soF (soFi N PH PF L q w) (soIn N PH q w) (L w.toNat).toNat (q (17 + w).toNat)) i (0, 0)).1, (kit (soF (soFi N PH PF L q w) (soIn N PH q w) (L w.toNat).toNat (q (17 + w).toNat)) i (0, 0)).2, (i : Int) + 1)) ((kshl 1 (L w.toNat)).toNat - 1) ((soN N PH PF L q w).1, (soN N PH PF L q w).2) (by omega) (fun i σ1 hi hs => by
    have h3 : MN N M tp L PH PF PB σ1 q := h.scr hs
    show ∃ σ2, mm_sonnet_l32 σ1 w x2 (kit (soF (soFi N PH PF L q w) (soIn N PH q w) (L w.toNat).toNat (q (17 + w).toNat)) i (0, 0)).1 (kit (soF (soFi N PH PF L q w) (soIn N PH q w) (L w.toNat).toNat (q (17 + w).toNat)) i (0, 0)).2 ((i : Int) + 1) = some (Sum.inl (σ2, (soF (soFi N PH PF L q w) (soIn N PH q w) (L w.toNat).toNat (q (17 + w).toNat) i (kit (soF (soFi N PH PF L q w) (soIn N PH q w) (L w.toNat).toNat (q (17 + w).toNat)) i (0, 0))).1, (soF (soFi N PH PF L q w) (soIn N PH q w) (L w.toNat).toNat (q (17 + w).toNat) i (kit (soF (soFi N PH PF L q w) (soIn N PH q w) (L w.toNat).toNat (q (17 + w).toNat)) i (0, 0))).2, ((i + 1 : Nat) : Int) + 1)) ∧ scrM μ σ2
    generalize kit (soF (soFi N PH PF L q w) (soIn N PH q w) (L w.toNat).toNat (q (17 + w).toNat)) i (0, 0) = s
    obtain ⟨σ2, h4, h5⟩ := m_sonnetIn (x2 := x2) (x3 := s.1) (x4 := s.2) h3 hw (s := (i : Int) + 1) (by omega) (by omega)
    refine ⟨σ2, ?_, hs.trans h5⟩
    unfold mm_sonnet_l32 mm_sonnet_l32_j145 soF
    rw [w32_s (v := 61 + w) (by omega) (by omega), kchk_t (by omega), h3.2.2.1.at (j := (61 + w).toNat) (i := 61 + w) (by omega) (by omega) (by decide) (by omega), h3.2.2.2.1.many hw.1 (by omega), if_neg (by omega), h4]
    simp only [Option.bind, klet]
    rw [w32_s (v := 17 + w) (by omega) (by omega), kchk_t (by omega), (h3.scr h5).2.2.1.at (j := (17 + w).toNat) (i := 17 + w) (by omega) (by omega) (by decide) (by omega), w32_s (v := (i : Int) + 1 + 1) (by omega) (by omega)]
    by_cases c1 : q (17 + w).toNat < bsum (soFi N PH PF L q w) (L w.toNat).toNat ((i : Int) + 1)
    · rw [if_pos c1, if_pos c1]
      rfl
    · rw [if_neg c1, if_neg c1]
      by_cases c2 : s.2 < bsum (soIn N PH q w) (L w.toNat).toNat ((i : Int) + 1)
      · rw [if_pos c2, if_pos c2]
        rfl
      · rw [if_neg c2, if_neg c2]
        rfl) (fun σ1 hs => by
    have h3 : MN N M tp L PH PF PB σ1 q := h.scr hs
    refine ⟨σ1, ?_, hs⟩
    show mm_sonnet_l32 σ1 w x2 _ _ ((((kshl 1 (L w.toNat)).toNat - 1 : Nat) : Int) + 1) = _
    unfold mm_sonnet_l32
    rw [w32_s (v := 61 + w) (by omega) (by omega), kchk_t (by omega), h3.2.2.1.at (j := (61 + w).toNat) (i := 61 + w) (by omega) (by omega) (by decide) (by omega), h3.2.2.2.1.many hw.1 (by omega), if_pos (by omega)]) scrM.rfl (b0 := (0, 0, 1)) rfl
theorem op_sonnet (h : RE N M tp L PH PF PB σ μ) (w x : Int) : OC N M tp L PH PF PB thN (pf_P_sonnet_0 σ w x) (mm_sonnet μ w x) := by
  have hn1 := h.1.1
  have hn2 := h.1.2.1
  have hCN := h.cn
  have hMN := h.mn
  obtain ⟨hN, hE, hR, hI⟩ := h.cn
  obtain ⟨-, hEM, hRM, -, -⟩ := h.mn
  unfold pf_P_sonnet_0 mm_sonnet
  simp only [klet]
  by_cases hw : 0 ≤ w ∧ w < M
  · rw [c_poet1 (by rw [hE.2.2.1]; exact hw), m_isPoet1 mT0 (by rw [hEM.2.2.1]; exact hw)]
    simp only [Option.bind]
    rw [if_neg (show ¬ (1 : Int) = 0 by decide)]
    by_cases h3 : 0 ≤ x ∧ x ≤ 1
    · rw [c_what1 h3, m_isWhat1 mT0 h3]
      simp only
      rw [if_neg (show ¬ (1 : Int) = 0 by decide)]
      have hL := hN.2.2.2.1 w hw.1 hw.2
      have hsh := ksh_rng (n := L w.toNat) (by omega) (by omega)
      obtain ⟨σ1, a1, a2, a3⟩ := c_sonnet hCN hw
      obtain ⟨μ1, b1, b2⟩ := m_sonnet (x2 := x) hMN hw
      have hv := soF_inv (f := soFi N PH PF L (μ 8) w) (g := soIn N PH (μ 8) w) (n := (L w.toNat).toNat) (purse := μ 8 (17 + w).toNat) (by omega) ((kshl 1 (L w.toNat)).toNat - 1)
      rw [a1, b1]
      simp only
      rw [c_sumOf52 (f := soIn N PH (μ 8) w) (n := (L w.toNat).toNat) (by omega) hv.1.1 (by rw [show ((L w.toNat).toNat : Int) = L w.toNat by omega]; omega) (fun l hl => (a2 l hl).2), hv.2]
      by_cases hx : x = 0
      · rw [if_pos hx, if_pos hx]
        exact OC.ok h rfl rfl a3 (kpM.th.trans (kpM.scr b2)) (scr0 b2)
      · rw [if_neg hx, if_neg hx]
        exact OC.ok h rfl rfl a3 (kpM.th.trans (kpM.scr b2)) (scr0 b2)
    · rw [c_what0 h3, m_isWhat0 mT0 h3]
      exact OC.no h (b := 0) (μ' := mR (mT μ) 1) rfl rfl kpC.rfl (kpM.th.trans kpM.th) ⟨rfl, mR0⟩
  · rw [c_poet0 (by rw [hE.2.2.1]; exact hw), m_isPoet0 mT0 (by rw [hEM.2.2.1]; exact hw)]
    exact OC.no h (b := 0) (μ' := mR (mT μ) 1) rfl rfl kpC.rfl (kpM.th.trans kpM.th) ⟨rfl, mR0⟩
end OPS3

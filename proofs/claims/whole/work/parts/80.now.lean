/-! what is asked of now: inches, fines, their sums -/
theorem kl_S {β γ : Type} {body : kM × β → Option ((kM × β) ⊕ (kM × γ))} (S : kM → Prop) (B : Nat → β) (n : Nat) (g : γ) (hn : n < 100000000)
    (hs : ∀ (i : Nat) (σ1 : kM), i < n → S σ1 → ∃ σ2, body (σ1, B i) = some (.inl (σ2, B (i + 1))) ∧ S σ2) (he : ∀ σ1 : kM, S σ1 → ∃ σ2, body (σ1, B n) = some (.inr (σ2, g)) ∧ S σ2) {σ : kM} (h0 : S σ) {b0 : β} (hb : b0 = B 0) : ∃ σ', kloop body kFuel (σ, b0) = some (σ', g) ∧ S σ' := by
  subst hb
  obtain ⟨r, h1, h2, h3⟩ := kOk_for (body := body) (P := fun r => r.2 = g ∧ S r.1) n (fun i st => st.2 = B i ∧ S st.1) (fun i st hi hI => by
    obtain ⟨σ1, b⟩ := st
    obtain ⟨rfl, h2⟩ := hI
    obtain ⟨σ2, h3, h4⟩ := hs i σ1 hi h2
    exact ⟨_, h3, rfl, h4⟩) (fun st hI => by
    obtain ⟨σ1, b⟩ := st
    obtain ⟨rfl, h2⟩ := hI
    obtain ⟨σ2, h3, h4⟩ := he σ1 h2
    exact ⟨_, h3, rfl, h4⟩) (kFuel_lt hn) (σ, B 0) ⟨rfl, h0⟩
  obtain ⟨σ', g'⟩ := r
  have h2 : g' = g := h2
  subst h2
  exact ⟨σ', h1, h3⟩
theorem kl_V {β γ : Type} {body : β → Option (β ⊕ γ)} (B : Nat → β) (n : Nat) (g : γ) (hn : n < 100000000)
    (hs : ∀ (i : Nat), i < n → body (B i) = some (.inl (B (i + 1)))) (he : body (B n) = some (.inr g)) {b0 : β} (hb : b0 = B 0) : kloop body kFuel b0 = some g := by
  subst hb
  obtain ⟨r, h1, h2⟩ := kOk_for (body := body) (P := fun r => r = g) n (fun i st => st = B i) (fun i st hi hI => by
    subst hI
    exact ⟨_, hs i hi, rfl⟩) (fun st hI => by
    subst hI
    exact ⟨_, he, rfl⟩) (kFuel_lt hn) (B 0) rfl
  rw [h1, h2]
theorem kit_congr {α : Type} {f g : Nat → α → α} : ∀ (n : Nat) (a : α), (∀ i a, i < n → f i a = g i a) → kit f n a = kit g n a := by
  intro n
  induction n with
  | zero => intro a _; rfl
  | succ n ih =>
    intro a h
    show f n (kit f n a) = g n (kit g n a)
    rw [ih a (fun i a hi => h i a (Nat.lt_succ_of_lt hi)), h n _ (Nat.lt_succ_self n)]
def CN (N M tp : Int) (L : Nat → Int) (PH PF PB : List Int) (σ : kM) (q : Nat → Int) : Prop := EN N M tp L PH PF PB ∧ EC N M tp L PH PF PB σ ∧ RCr N M tp L σ 31 q ∧ IV M tp L q
def MN (N M tp : Int) (L : Nat → Int) (PH PF PB : List Int) (μ : kM) (q : Nat → Int) : Prop := EN N M tp L PH PF PB ∧ EM N M tp PH PF PB μ ∧ RMr μ 0 q ∧ IV M tp L q ∧ μ 0 48 = 0
def nIn (PH : List Int) (q : Nat → Int) (w p l : Int) : Int := sp_in PH q w p (q (65 + 6 * w + l).toNat) (q (89 + 6 * w + l).toNat)
def nFi (PH PF : List Int) (L : Nat → Int) (q : Nat → Int) (w p l : Int) : Int := if nIn PH q w p l ≤ 0 then 0 else sp_fi PF L q w p l (nIn PH q w p l)
def nHits (N : Int) (PH : List Int) (q : Nat → Int) (w l : Int) : Nat → Int := fun n => kit (fun i v => kor v (if nIn PH q w (i : Int) l ≤ 0 then 0 else kshl 1 (i : Int))) n 0
def nFine (PH PF : List Int) (L : Nat → Int) (q : Nat → Int) (w l : Int) : Nat → Int := fun n => kit (fun i v => w32 (v + nFi PH PF L q w (i : Int) l)) n 0
def nInch (PH : List Int) (q : Nat → Int) (w l : Int) : Nat → Int := fun n => kit (fun i v => w32 (v + nIn PH q w (i : Int) l)) n 0
def nDue (PH PF : List Int) (L : Nat → Int) (q : Nat → Int) (w p : Int) : Nat → Int := fun n => kit (fun i v => w32 (v + nFi PH PF L q w p (i : Int))) n 0
section NOW
variable {N M tp : Int} {L : Nat → Int} {PH PF PB : List Int} {σ σ' μ μ' : kM} {q : Nat → Int}
theorem CN.scr (h : CN N M tp L PH PF PB σ q) (hs : scr 49 σ σ') : CN N M tp L PH PF PB σ' q :=
  ⟨h.1, h.2.1.kept (hs _ (by decide) (by decide)) (hs _ (by decide) (by decide)) (hs _ (by decide) (by decide)) (hs _ (by decide) (by decide)) (hs _ (by decide) (by decide)), h.2.2.1.kept (hs _ (by decide) (by decide)) (hs _ (by decide) (by decide)) (hs _ (by decide) (by decide)) (hs _ (by decide) (by decide)), h.2.2.2⟩
theorem CN.kp (h : CN N M tp L PH PF PB σ q) (hs : kpC σ σ') : CN N M tp L PH PF PB σ' q :=
  ⟨h.1, h.2.1.kept (hs _ (by decide)) (hs _ (by decide)) (hs _ (by decide)) (hs _ (by decide)) (hs _ (by decide)), h.2.2.1.kept (hs _ (by decide)) (hs _ (by decide)) (hs _ (by decide)) (hs _ (by decide)), h.2.2.2⟩
theorem MN.scr (h : MN N M tp L PH PF PB μ q) (hs : scrM μ μ') : MN N M tp L PH PF PB μ' q :=
  ⟨h.1, h.2.1.kept (fun j _ _ => by rw [hs 0 (by decide) (by decide)]) (hs _ (by decide) (by decide)), h.2.2.1.kept (hs _ (by decide) (by decide)), h.2.2.2.1, by rw [hs 0 (by decide) (by decide)]; exact h.2.2.2.2⟩
theorem MN.kp (h : MN N M tp L PH PF PB μ q) (hs : kpM μ μ') : MN N M tp L PH PF PB μ' q :=
  ⟨h.1, h.2.1.kept (fun j _ _ => hs.2.1 j (by omega)) (hs.1 _ (by decide)), fun k hk => by
    have h1 := h.2.2.1 k hk
    rw [show (0 : Int).toNat + k = k by omega] at *
    rw [hs.2.2 k hk]
    exact h1, h.2.2.2.1, by rw [hs.2.1 48 (by decide)]; exact h.2.2.2.2⟩
theorem RE.cn (h : RE N M tp L PH PF PB σ μ) : CN N M tp L PH PF PB σ (μ 8) := ⟨h.1, h.2.1, h.rc, h.rv.1⟩
theorem RE.mn (h : RE N M tp L PH PF PB σ μ) : MN N M tp L PH PF PB (mT μ) (μ 8) := MN.kp ⟨h.1, h.2.2.1, h.rm, h.rv.1, h.2.2.2.1⟩ kpM.th
theorem c_inNow (h : CN N M tp L PH PF PB σ q) {w p l : Int} (hw0 : 0 ≤ w) (hw : w < M) (hp0 : 0 ≤ p) (hp : p < N) (hl0 : 0 ≤ l) (hl : l < L w.toNat) : ∃ σ', pf_Court_inchesNow_50 σ w p l = some (nIn PH q w p l, σ') ∧ scr 49 σ σ' := by
  obtain ⟨hN, hE, hR, hI⟩ := h
  have hM := hN.2.1
  have hL := hN.2.2.2.1 w hw0 hw
  have ht := hI.topic hw0 (by omega) hl0 (by omega)
  unfold pf_Court_inchesNow_50 pf_World_depthOf_30
  rw [cs_to43 hR hN hw0 hw hl0 hl, w32_s (v := w * 6) (by omega) (by omega), w32_s (v := 61 + w * 6) (by omega) (by omega), w32_s (v := 61 + w * 6 + l) (by omega) (by omega), kchk_t (by omega), hR.depth hw0 (by omega) hl0 (by omega)]
  simp only [Option.bind]
  obtain ⟨σ1, h1, h2⟩ := cs_in43 (d := q (89 + 6 * w + l).toNat) hE hN hR hw0 hw hp0 hp ht.1 ht.2
  rw [h1]
  exact ⟨σ1, rfl, h2⟩
theorem m_inNow (h : MN N M tp L PH PF PB μ q) {w p l : Int} (hw0 : 0 ≤ w) (hw : w < M) (hp0 : 0 ≤ p) (hp : p < N) (hl0 : 0 ≤ l) (hl : l < L w.toNat) : ∃ μ', mm_inchesOf μ 0 w p l = some (nIn PH q w p l, μ') ∧ scrM μ μ' := by
  obtain ⟨hN, hE, hR, hI, ha⟩ := h
  obtain ⟨μ1, h1, h2⟩ := ms_inOf hE hN hR hI (by decide) (by decide) hw0 hw hp0 hp hl0 hl
  rw [if_pos ha] at h1
  exact ⟨μ1, h1, h2⟩
theorem nIn_rng (hI : IV M tp L q) (htp : tp ≤ 4) {w p l : Int} (hw0 : 0 ≤ w) (hw : w < 4) (hp0 : 0 ≤ p) (hp : p < 8) (hl0 : 0 ≤ l) (hl : l < 6) : 0 ≤ nIn PH q w p l ∧ nIn PH q w p l ≤ 9 := by
  have ht := hI.topic hw0 hw hl0 hl
  exact sp_in_rng hI hp0 hp ht.1 (by omega) (hI.depth hw0 hw hl0 hl)
theorem nFi_rng (hI : IV M tp L q) (htp : tp ≤ 4) {w p l : Int} (hw0 : 0 ≤ w) (hw : w < 4) (hp0 : 0 ≤ p) (hp : p < 8) (hl0 : 0 ≤ l) (hl : l < 6) : 0 ≤ nFi PH PF L q w p l ∧ nFi PH PF L q w p l ≤ 20 := by
  have h := nIn_rng (PH := PH) hI htp hw0 hw hp0 hp hl0 hl
  unfold nFi
  split
  · omega
  · exact sp_fi_rng (by omega)
theorem c_fiNow (h : CN N M tp L PH PF PB σ q) {w p l : Int} (hw0 : 0 ≤ w) (hw : w < M) (hp0 : 0 ≤ p) (hp : p < N) (hl0 : 0 ≤ l) (hl : l < L w.toNat) : ∃ σ', pf_Court_fineNow_50 σ w p l = some (nFi PH PF L q w p l, σ') ∧ scr 49 σ σ' := by
  obtain ⟨σ1, h1, h2⟩ := c_inNow h hw0 hw hp0 hp hl0 hl
  unfold pf_Court_fineNow_50 nFi
  rw [h1]
  simp only [Option.bind]
  by_cases hz : nIn PH q w p l ≤ 0
  · rw [if_pos hz, if_pos hz]
    exact ⟨σ1, rfl, h2⟩
  · rw [if_neg hz, if_neg hz]
    obtain ⟨hN, hE, hR, hI⟩ := h.scr h2
    obtain ⟨σ2, h3, h4⟩ := cs_fi43 (i := nIn PH q w p l) hE hN hR hw0 hw hp0 hp hl0 hl
    rw [h3]
    exact ⟨σ2, rfl, h2.trans h4⟩
theorem m_fiNow (h : MN N M tp L PH PF PB μ q) {w p l : Int} (hw0 : 0 ≤ w) (hw : w < M) (hp0 : 0 ≤ p) (hp : p < N) (hl0 : 0 ≤ l) (hl : l < L w.toNat) : ∃ μ', mm_getsBy μ w p l = some (nFi PH PF L q w p l, μ') ∧ scrM μ μ' := by
  obtain ⟨μ1, h1, h2⟩ := m_inNow h hw0 hw hp0 hp hl0 hl
  have hn1 := h.1.1
  have hn2 := h.1.2.1
  have hL := h.1.2.2.2.1 w hw0 hw
  have hr := nIn_rng (PH := PH) h.2.2.2.1 h.1.2.2.1.2 hw0 (by omega) hp0 (by omega) hl0 (by omega)
  unfold mm_getsBy nFi
  rw [h1]
  simp only [Option.bind]
  by_cases hz : nIn PH q w p l ≤ 0
  · rw [if_pos (show nIn PH q w p l = 0 by omega), if_pos hz]
    exact ⟨μ1, rfl, h2⟩
  · rw [if_neg (show ¬ nIn PH q w p l = 0 by omega), if_neg hz]
    obtain ⟨hN, hE, hR, hI, ha⟩ := h.scr h2
    obtain ⟨μ2, h3, h4⟩ := ms_fi (i := nIn PH q w p l) hE hN hR hI (by decide) (by decide) hw0 hw hp0 hp hl0 hl
    rw [h3]
    exact ⟨μ2, rfl, h2.trans h4⟩
theorem c_nextHits (h : CN N M tp L PH PF PB σ q) {w : Int} (hw0 : 0 ≤ w) (hw : w < M) : ∃ σ', pf_Court_nextHits_50 σ w = some (nHits N PH q w (q (21 + w).toNat) N.toNat, σ') ∧ scr 49 σ σ' := by
  have hn1 := h.1.1
  have hM := h.1.2.1
  have hnx := h.2.2.2.next hw0 (by omega) hw
  unfold pf_Court_nextHits_50
  rw [w32_s (v := 53 + w) (by omega) (by omega), kchk_t (by omega), h.2.2.1.next hw0 (by omega)]
  simp only [klet]
  generalize q (21 + w).toNat = l at hnx
  obtain ⟨σ1, h1, h2⟩ := kl_S (body := fun st => pf_Court_nextHits_50_l21 st.1 w l st.2.1 st.2.2) (scr 49 σ) (fun i => (nHits N PH q w l i, (i : Int))) N.toNat (nHits N PH q w l N.toNat) (by omega) (fun i σ1 hi hs => by
    have h3 := h.scr hs
    obtain ⟨σ2, h4, h5⟩ := c_inNow h3 hw0 hw (p := (i : Int)) (by omega) (by omega) hnx.1 hnx.2
    refine ⟨σ2, ?_, hs.trans h5⟩
    show pf_Court_nextHits_50_l21 σ1 w l (nHits N PH q w l i) (i : Int) = _
    unfold pf_Court_nextHits_50_l21 pf_Court_nextHits_50_l21_j53
    rw [h3.2.1.2.1, if_neg (by omega), h4]
    simp only [Option.bind, klet]
    rw [w32_s (by omega) (by omega)]
    show (if _ then _ else _) = some (Sum.inl (σ2, kor (nHits N PH q w l i) (if nIn PH q w (i : Int) l ≤ 0 then 0 else kshl 1 (i : Int)), ((i + 1 : Nat) : Int)))
    by_cases hz : nIn PH q w (i : Int) l ≤ 0
    · rw [if_pos hz, if_pos hz]
      rfl
    · rw [if_neg hz, if_neg hz]
      rfl) (fun σ1 hs => by
    refine ⟨σ1, ?_, hs⟩
    show pf_Court_nextHits_50_l21 σ1 w l _ ((N.toNat : Nat) : Int) = _
    unfold pf_Court_nextHits_50_l21
    rw [(h.scr hs).2.1.2.1, if_pos (by omega)]) scr.rfl (b0 := (0, 0)) rfl
  rw [h1]
  exact ⟨σ1, rfl, h2⟩
theorem m_nextHits (h : MN N M tp L PH PF PB μ q) {w : Int} (hw0 : 0 ≤ w) (hw : w < M) : ∃ μ', mm_hitByNext μ w = some (nHits N PH q w (q (21 + w).toNat) N.toNat, μ') ∧ scrM μ μ' := by
  have hn1 := h.1.1
  have hM := h.1.2.1
  have hnx := h.2.2.2.1.next hw0 (by omega) hw
  unfold mm_hitByNext
  obtain ⟨μ1, h1, h2⟩ := kl_S (body := fun st => mm_hitByNext_l4 st.1 w st.2.1 st.2.2) (scrM μ) (fun i => (nHits N PH q w (q (21 + w).toNat) i, (i : Int))) N.toNat (nHits N PH q w (q (21 + w).toNat) N.toNat) (by omega) (fun i μ1 hi hs => by
    have h3 := h.scr hs
    obtain ⟨μ2, h4, h5⟩ := m_inNow h3 hw0 hw (p := (i : Int)) (by omega) (by omega) hnx.1 hnx.2
    refine ⟨μ2, ?_, hs.trans h5⟩
    show mm_hitByNext_l4 μ1 w (nHits N PH q w (q (21 + w).toNat) i) (i : Int) = _
    unfold mm_hitByNext_l4 mm_hitByNext_l4_j39
    rw [h3.2.1.2.1, if_neg (by omega), w32_s (v := 21 + w) (by omega) (by omega), kchk_t (by omega), h3.2.2.1.at (i := 21 + w) (by omega) (by omega) (by decide) (by omega), h4]
    simp only [Option.bind, klet]
    rw [w32_s (by omega) (by omega)]
    show (if _ then _ else _) = some (Sum.inl (μ2, kor (nHits N PH q w (q (21 + w).toNat) i) (if nIn PH q w (i : Int) (q (21 + w).toNat) ≤ 0 then 0 else kshl 1 (i : Int)), ((i + 1 : Nat) : Int)))
    by_cases hz : nIn PH q w (i : Int) (q (21 + w).toNat) ≤ 0
    · rw [if_pos hz, if_pos hz]
      rfl
    · rw [if_neg hz, if_neg hz]
      rfl) (fun μ1 hs => by
    refine ⟨μ1, ?_, hs⟩
    show mm_hitByNext_l4 μ1 w _ ((N.toNat : Nat) : Int) = _
    unfold mm_hitByNext_l4
    rw [(h.scr hs).2.1.2.1, if_pos (by omega)]) scrM.rfl (b0 := (0, 0)) rfl
  rw [h1]
  exact ⟨μ1, rfl, h2⟩
theorem c_fineOf (h : CN N M tp L PH PF PB σ q) {w l : Int} (hw0 : 0 ≤ w) (hw : w < M) (hl0 : 0 ≤ l) (hl : l < L w.toNat) : ∃ σ', pf_Court_fineOfLine_50 σ w l = some (nFine PH PF L q w l N.toNat, σ') ∧ scr 49 σ σ' := by
  have hn1 := h.1.1
  have hM := h.1.2.1
  have hL := h.1.2.2.2.1 w hw0 hw
  unfold pf_Court_fineOfLine_50
  obtain ⟨σ1, h1, h2⟩ := kl_S (body := fun st => pf_Court_fineOfLine_50_l5 st.1 w l st.2.1 st.2.2) (scr 49 σ) (fun i => (nFine PH PF L q w l i, (i : Int))) (N.toNat) (nFine PH PF L q w l (N.toNat)) (by omega) (fun i σ1 hi hs => by
    have h3 := h.scr hs
    obtain ⟨σ2, h4, h5⟩ := c_fiNow h3 hw0 hw (p := (i : Int)) (by omega) (by omega) hl0 hl
    refine ⟨σ2, ?_, hs.trans h5⟩
    show pf_Court_fineOfLine_50_l5 σ1 w l (nFine PH PF L q w l i) (i : Int) = _
    unfold pf_Court_fineOfLine_50_l5
    rw [h3.2.1.2.1, if_neg (by omega), h4]
    simp only [Option.bind, klet]
    rw [w32_s (v := (i : Int) + 1) (by omega) (by omega)]
    rfl) (fun σ1 hs => by
    have h3 := h.scr hs
    refine ⟨σ1, ?_, hs⟩
    show pf_Court_fineOfLine_50_l5 σ1 w l _ ((N.toNat : Nat) : Int) = _
    unfold pf_Court_fineOfLine_50_l5
    rw [h3.2.1.2.1, if_pos (by omega)]) scr.rfl (b0 := (0, 0)) rfl
  rw [h1]
  exact ⟨σ1, rfl, h2⟩
theorem c_inchOf (h : CN N M tp L PH PF PB σ q) {w l : Int} (hw0 : 0 ≤ w) (hw : w < M) (hl0 : 0 ≤ l) (hl : l < L w.toNat) : ∃ σ', pf_Court_inchesOfLine_50 σ w l = some (nInch PH q w l N.toNat, σ') ∧ scr 49 σ σ' := by
  have hn1 := h.1.1
  have hM := h.1.2.1
  have hL := h.1.2.2.2.1 w hw0 hw
  unfold pf_Court_inchesOfLine_50
  obtain ⟨σ1, h1, h2⟩ := kl_S (body := fun st => pf_Court_inchesOfLine_50_l5 st.1 w l st.2.1 st.2.2) (scr 49 σ) (fun i => (nInch PH q w l i, (i : Int))) (N.toNat) (nInch PH q w l (N.toNat)) (by omega) (fun i σ1 hi hs => by
    have h3 := h.scr hs
    obtain ⟨σ2, h4, h5⟩ := c_inNow h3 hw0 hw (p := (i : Int)) (by omega) (by omega) hl0 hl
    refine ⟨σ2, ?_, hs.trans h5⟩
    show pf_Court_inchesOfLine_50_l5 σ1 w l (nInch PH q w l i) (i : Int) = _
    unfold pf_Court_inchesOfLine_50_l5
    rw [h3.2.1.2.1, if_neg (by omega), h4]
    simp only [Option.bind, klet]
    rw [w32_s (v := (i : Int) + 1) (by omega) (by omega)]
    rfl) (fun σ1 hs => by
    have h3 := h.scr hs
    refine ⟨σ1, ?_, hs⟩
    show pf_Court_inchesOfLine_50_l5 σ1 w l _ ((N.toNat : Nat) : Int) = _
    unfold pf_Court_inchesOfLine_50_l5
    rw [h3.2.1.2.1, if_pos (by omega)]) scr.rfl (b0 := (0, 0)) rfl
  rw [h1]
  exact ⟨σ1, rfl, h2⟩
theorem m_fineOf (h : MN N M tp L PH PF PB σ q) {w l : Int} (hw0 : 0 ≤ w) (hw : w < M) (hl0 : 0 ≤ l) (hl : l < L w.toNat) : ∃ σ', mm_fineAll σ w l = some (nFine PH PF L q w l N.toNat, σ') ∧ scrM σ σ' := by
  have hn1 := h.1.1
  have hM := h.1.2.1
  have hL := h.1.2.2.2.1 w hw0 hw
  unfold mm_fineAll
  obtain ⟨σ1, h1, h2⟩ := kl_S (body := fun st => mm_fineAll_l5 st.1 w l st.2.1 st.2.2) (scrM σ) (fun i => (nFine PH PF L q w l i, (i : Int))) (N.toNat) (nFine PH PF L q w l (N.toNat)) (by omega) (fun i σ1 hi hs => by
    have h3 := h.scr hs
    obtain ⟨σ2, h4, h5⟩ := m_fiNow h3 hw0 hw (p := (i : Int)) (by omega) (by omega) hl0 hl
    refine ⟨σ2, ?_, hs.trans h5⟩
    show mm_fineAll_l5 σ1 w l (nFine PH PF L q w l i) (i : Int) = _
    unfold mm_fineAll_l5
    rw [h3.2.1.2.1, if_neg (by omega), h4]
    simp only [Option.bind, klet]
    rw [w32_s (v := (i : Int) + 1) (by omega) (by omega)]
    rfl) (fun σ1 hs => by
    have h3 := h.scr hs
    refine ⟨σ1, ?_, hs⟩
    show mm_fineAll_l5 σ1 w l _ ((N.toNat : Nat) : Int) = _
    unfold mm_fineAll_l5
    rw [h3.2.1.2.1, if_pos (by omega)]) scrM.rfl (b0 := (0, 0)) rfl
  rw [h1]
  exact ⟨σ1, rfl, h2⟩
theorem m_inchOf (h : MN N M tp L PH PF PB σ q) {w l : Int} (hw0 : 0 ≤ w) (hw : w < M) (hl0 : 0 ≤ l) (hl : l < L w.toNat) : ∃ σ', mm_intoAll σ w l = some (nInch PH q w l N.toNat, σ') ∧ scrM σ σ' := by
  have hn1 := h.1.1
  have hM := h.1.2.1
  have hL := h.1.2.2.2.1 w hw0 hw
  unfold mm_intoAll
  obtain ⟨σ1, h1, h2⟩ := kl_S (body := fun st => mm_intoAll_l5 st.1 w l st.2.1 st.2.2) (scrM σ) (fun i => (nInch PH q w l i, (i : Int))) (N.toNat) (nInch PH q w l (N.toNat)) (by omega) (fun i σ1 hi hs => by
    have h3 := h.scr hs
    obtain ⟨σ2, h4, h5⟩ := m_inNow h3 hw0 hw (p := (i : Int)) (by omega) (by omega) hl0 hl
    refine ⟨σ2, ?_, hs.trans h5⟩
    show mm_intoAll_l5 σ1 w l (nInch PH q w l i) (i : Int) = _
    unfold mm_intoAll_l5
    rw [h3.2.1.2.1, if_neg (by omega), h4]
    simp only [Option.bind, klet]
    rw [w32_s (v := (i : Int) + 1) (by omega) (by omega)]
    rfl) (fun σ1 hs => by
    have h3 := h.scr hs
    refine ⟨σ1, ?_, hs⟩
    show mm_intoAll_l5 σ1 w l _ ((N.toNat : Nat) : Int) = _
    unfold mm_intoAll_l5
    rw [h3.2.1.2.1, if_pos (by omega)]) scrM.rfl (b0 := (0, 0)) rfl
  rw [h1]
  exact ⟨σ1, rfl, h2⟩
theorem c_due (h : CN N M tp L PH PF PB σ q) {w p : Int} (hw0 : 0 ≤ w) (hw : w < M) (hp0 : 0 ≤ p) (hp : p < N) : ∃ σ', pf_Court_dueFrom_50 σ w p = some (nDue PH PF L q w p (L w.toNat).toNat, σ') ∧ scr 49 σ σ' := by
  have hn1 := h.1.1
  have hM := h.1.2.1
  have hL := h.1.2.2.2.1 w hw0 hw
  unfold pf_Court_dueFrom_50
  obtain ⟨σ1, h1, h2⟩ := kl_S (body := fun st => pf_Court_dueFrom_50_l5 st.1 w p st.2.1 st.2.2) (scr 49 σ) (fun i => (nDue PH PF L q w p i, (i : Int))) ((L w.toNat).toNat) (nDue PH PF L q w p ((L w.toNat).toNat)) (by omega) (fun i σ1 hi hs => by
    have h3 := h.scr hs
    obtain ⟨σ2, h4, h5⟩ := c_fiNow h3 hw0 hw hp0 hp (l := (i : Int)) (by omega) (by omega)
    refine ⟨σ2, ?_, hs.trans h5⟩
    show pf_Court_dueFrom_50_l5 σ1 w p (nDue PH PF L q w p i) (i : Int) = _
    unfold pf_Court_dueFrom_50_l5
    rw [kchk_t (by omega), h3.2.1.2.2.2.1 w hw0 hw, if_neg (by omega), h4]
    simp only [Option.bind, klet]
    rw [w32_s (v := (i : Int) + 1) (by omega) (by omega)]
    rfl) (fun σ1 hs => by
    have h3 := h.scr hs
    refine ⟨σ1, ?_, hs⟩
    show pf_Court_dueFrom_50_l5 σ1 w p _ (((L w.toNat).toNat : Nat) : Int) = _
    unfold pf_Court_dueFrom_50_l5
    rw [kchk_t (by omega), h3.2.1.2.2.2.1 w hw0 hw, if_pos (by omega)]) scr.rfl (b0 := (0, 0)) rfl
  rw [h1]
  exact ⟨σ1, rfl, h2⟩
theorem m_due (h : MN N M tp L PH PF PB σ q) {w p : Int} (hw0 : 0 ≤ w) (hw : w < M) (hp0 : 0 ≤ p) (hp : p < N) : ∃ σ', mm_getsAll σ w p = some (nDue PH PF L q w p (L w.toNat).toNat, σ') ∧ scrM σ σ' := by
  have hn1 := h.1.1
  have hM := h.1.2.1
  have hL := h.1.2.2.2.1 w hw0 hw
  unfold mm_getsAll
  obtain ⟨σ1, h1, h2⟩ := kl_S (body := fun st => mm_getsAll_l5 st.1 w p st.2.1 st.2.2) (scrM σ) (fun i => (nDue PH PF L q w p i, (i : Int))) ((L w.toNat).toNat) (nDue PH PF L q w p ((L w.toNat).toNat)) (by omega) (fun i σ1 hi hs => by
    have h3 := h.scr hs
    obtain ⟨σ2, h4, h5⟩ := m_fiNow h3 hw0 hw hp0 hp (l := (i : Int)) (by omega) (by omega)
    refine ⟨σ2, ?_, hs.trans h5⟩
    show mm_getsAll_l5 σ1 w p (nDue PH PF L q w p i) (i : Int) = _
    unfold mm_getsAll_l5
    rw [w32_s (v := 61 + w) (by omega) (by omega), kchk_t (by omega), h3.2.2.1.at (i := 61 + w) (by omega) (by omega) (by decide) (by omega), h3.2.2.2.1.many hw0 (by omega), if_neg (by omega), h4]
    simp only [Option.bind, klet]
    rw [w32_s (v := (i : Int) + 1) (by omega) (by omega)]
    rfl) (fun σ1 hs => by
    have h3 := h.scr hs
    refine ⟨σ1, ?_, hs⟩
    show mm_getsAll_l5 σ1 w p _ (((L w.toNat).toNat : Nat) : Int) = _
    unfold mm_getsAll_l5
    rw [w32_s (v := 61 + w) (by omega) (by omega), kchk_t (by omega), h3.2.2.1.at (i := 61 + w) (by omega) (by omega) (by decide) (by omega), h3.2.2.2.1.many hw0 (by omega), if_pos (by omega)]) scrM.rfl (b0 := (0, 0)) rfl
  rw [h1]
  exact ⟨σ1, rfl, h2⟩
end NOW

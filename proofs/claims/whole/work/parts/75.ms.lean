/-! THE REFERENCE'S YEARS -/
def RMr (μ : kM) (b : Int) (q : Nat → Int) : Prop := ∀ k : Nat, k < 145 → μ 8 (b.toNat + k) = q k
def RMt (μ : kM) (q : Nat → Int) : Prop :=
  (∀ k : Nat, k < 4 → μ 10 k = q (145 + k) ∧ μ 11 k = q (149 + k) ∧ μ 12 k = q (153 + k) ∧ μ 13 k = q (157 + k) ∧ μ 17 k = q (197 + k)) ∧ (∀ k : Nat, k < 32 → μ 14 k = q (161 + k)) ∧ μ 0 44 = q 193 ∧ μ 0 45 = q 194 ∧ μ 0 49 = q 195 ∧ μ 0 50 = q 196
def RM (μ : kM) (b : Int) (q : Nat → Int) : Prop := RMr μ b q ∧ RMt μ q
def scrM (μ μ' : kM) : Prop := ∀ c : Nat, c ≠ 15 → c ≠ 16 → μ' c = μ c
theorem scrM.rfl {μ : kM} : scrM μ μ := fun _ _ _ => Eq.refl _
theorem scrM.trans {μ μ' μ'' : kM} (h : scrM μ μ') (h' : scrM μ' μ'') : scrM μ μ'' := fun c h1 h2 => (h' c h1 h2).trans (h c h1 h2)
def frM (b : Int) (μ μ' : kM) : Prop := (∀ c : Nat, c ≠ 0 → c ≠ 8 → c < 10 ∨ 17 < c → μ' c = μ c) ∧ (∀ j : Nat, j ≠ 44 → j ≠ 45 → j ≠ 49 → j ≠ 50 → μ' 0 j = μ 0 j) ∧ (∀ k : Nat, k < b.toNat ∨ b.toNat + 145 ≤ k → μ' 8 k = μ 8 k)
theorem frM.rfl {b : Int} {μ : kM} : frM b μ μ := ⟨fun _ _ _ _ => Eq.refl _, fun _ _ _ _ _ => Eq.refl _, fun _ _ => Eq.refl _⟩
theorem frM.trans {b : Int} {μ μ' μ'' : kM} (h : frM b μ μ') (h' : frM b μ' μ'') : frM b μ μ'' :=
  ⟨fun c h1 h2 h3 => (h'.1 c h1 h2 h3).trans (h.1 c h1 h2 h3), fun j h1 h2 h3 h4 => (h'.2.1 j h1 h2 h3 h4).trans (h.2.1 j h1 h2 h3 h4), fun k h1 => (h'.2.2 k h1).trans (h.2.2 k h1)⟩
theorem scrM.fr {b : Int} {μ μ' : kM} (h : scrM μ μ') : frM b μ μ' := ⟨fun c _ _ h3 => h c (by omega) (by omega), fun j _ _ _ _ => by rw [h 0 (by decide) (by decide)], fun k _ => by rw [h 8 (by decide) (by decide)]⟩
theorem frM.put {b : Int} {μ μ' : kM} (h : frM b μ μ') {c : Nat} {f : Nat → Int} (hc : 10 ≤ c ∧ c ≤ 17) : frM b μ (kst μ' c f) :=
  ⟨fun k h1 h2 h3 => by rw [kst_ne (by omega)]; exact h.1 k h1 h2 h3, fun j h1 h2 h3 h4 => by rw [kst_ne (by omega)]; exact h.2.1 j h1 h2 h3 h4, fun k h1 => by rw [kst_ne (by omega)]; exact h.2.2 k h1⟩
theorem frM.put0 {b : Int} {μ μ' : kM} (h : frM b μ μ') {j : Nat} {v : Int} (hj : j = 44 ∨ j = 45 ∨ j = 49 ∨ j = 50) : frM b μ (kst μ' 0 (kup (μ' 0) j v)) :=
  ⟨fun k h1 h2 h3 => by rw [kst_ne h1]; exact h.1 k h1 h2 h3, fun i h1 h2 h3 h4 => by rw [kst_eq, kup_ne (by omega)]; exact h.2.1 i h1 h2 h3 h4, fun k h1 => by rw [kst_ne (by decide)]; exact h.2.2 k h1⟩
theorem frM.put8 {b : Int} {μ μ' : kM} (h : frM b μ μ') {j : Nat} {v : Int} (hj : b.toNat ≤ j ∧ j < b.toNat + 145) : frM b μ (kst μ' 8 (kup (μ' 8) j v)) :=
  ⟨fun k h1 h2 h3 => by rw [kst_ne h2]; exact h.1 k h1 h2 h3, fun i h1 h2 h3 h4 => by rw [kst_ne (by decide)]; exact h.2.1 i h1 h2 h3 h4, fun k h1 => by rw [kst_eq, kup_ne (by omega)]; exact h.2.2 k h1⟩
theorem EM.fr {N M tp : Int} {PH PF PB : List Int} {b : Int} {μ μ' : kM} (h : EM N M tp PH PF PB μ) (hf : frM b μ μ') : EM N M tp PH PF PB μ' :=
  h.kept (fun j h1 h2 => hf.2.1 j (by omega) (by omega) (by omega) (by omega)) (hf.1 1 (by decide) (by decide) (by decide))
section MS
variable {N M tp b : Int} {L : Nat → Int} {PH PF PB : List Int} {μ μ' : kM} {q : Nat → Int}
theorem RMr.kept (h : RMr μ b q) (h8 : μ' 8 = μ 8) : RMr μ' b q := by
  intro k hk
  rw [h8]
  exact h k hk
theorem RMr.at (h : RMr μ b q) {i : Int} {j : Nat} (h0 : 0 ≤ i) (h1 : i < 145) (hb : 0 ≤ b) (hj : j = (b + i).toNat) : μ 8 j = q i.toNat := by
  rw [← h i.toNat (by omega)]
  congr 1
  omega
theorem RMr.other (h : RMr μ b q) {j : Nat} {v : Int} (hj : 145 ≤ j) : RMr μ b (kup q j v) := by
  intro k hk
  rw [kup_ne (by omega)]
  exact h k hk
theorem RMr.set (h : RMr μ b q) {i : Int} {j : Nat} (v : Int) (h0 : 0 ≤ i) (h1 : i < 145) (hb : 0 ≤ b) (hj : j = (b + i).toNat) : RMr (kst μ 8 (kup (μ 8) j v)) b (kup q i.toNat v) := by
  intro k hk
  rw [kst_eq, kup_ap, kup_ap]
  by_cases e : k = i.toNat
  · rw [if_pos e, if_pos (by omega)]
  · rw [if_neg e, if_neg (by omega)]
    exact h k hk
theorem RMt.kept (h : RMt μ q) (h0 : ∀ j : Nat, 44 ≤ j → j ≤ 50 → μ' 0 j = μ 0 j) (h10 : μ' 10 = μ 10) (h11 : μ' 11 = μ 11) (h12 : μ' 12 = μ 12) (h13 : μ' 13 = μ 13) (h14 : μ' 14 = μ 14) (h17 : μ' 17 = μ 17) : RMt μ' q := by
  unfold RMt at *
  rw [h0 44 (by omega) (by omega), h0 45 (by omega) (by omega), h0 49 (by omega) (by omega), h0 50 (by omega) (by omega), h10, h11, h12, h13, h14, h17]
  exact h
theorem RMt.other (h : RMt μ q) {j : Nat} {v : Int} (hj : j < 145 ∨ 201 ≤ j) : RMt μ (kup q j v) := by
  obtain ⟨h1, h2, h3, h4, h5, h6⟩ := h
  refine ⟨fun k hk => ?_, fun k hk => ?_, ?_, ?_, ?_, ?_⟩
  · rw [kup_ne (by omega), kup_ne (by omega), kup_ne (by omega), kup_ne (by omega), kup_ne (by omega)]
    exact h1 k hk
  · rw [kup_ne (by omega)]
    exact h2 k hk
  all_goals rw [kup_ne (by omega)]; assumption
theorem RM.congr {q' : Nat → Int} (h : RM μ b q) (hq : ∀ k : Nat, k < 201 → q' k = q k) : RM μ b q' := by
  obtain ⟨h0, h1, h2, h3, h4, h5, h6⟩ := h
  refine ⟨fun k hk => ?_, fun k hk => ?_, fun k hk => ?_, ?_, ?_, ?_, ?_⟩
  · rw [hq _ (by omega)]
    exact h0 k hk
  · rw [hq _ (by omega), hq _ (by omega), hq _ (by omega), hq _ (by omega), hq _ (by omega)]
    exact h1 k hk
  · rw [hq _ (by omega)]
    exact h2 k hk
  all_goals rw [hq _ (by omega)]; assumption
theorem RM.scr (h : RM μ b q) (hs : scrM μ μ') : RM μ' b q :=
  ⟨h.1.kept (hs 8 (by decide) (by decide)), h.2.kept (fun j _ _ => by rw [hs 0 (by decide) (by decide)]) (hs _ (by decide) (by decide)) (hs _ (by decide) (by decide)) (hs _ (by decide) (by decide)) (hs _ (by decide) (by decide)) (hs _ (by decide) (by decide)) (hs _ (by decide) (by decide))⟩
theorem RM.put8 (h : RM μ b q) {i : Int} {j : Nat} (v : Int) (h0 : 0 ≤ i) (h1 : i < 145) (hb : 0 ≤ b) (hj : j = (b + i).toNat) : RM (kst μ 8 (kup (μ 8) j v)) b (kup q i.toNat v) :=
  ⟨h.1.set v h0 h1 hb hj, (h.2.kept (fun _ _ _ => by rw [kst_ne (by decide)]) (kst_ne (by decide)) (kst_ne (by decide)) (kst_ne (by decide)) (kst_ne (by decide)) (kst_ne (by decide)) (kst_ne (by decide))).other (by omega)⟩
theorem RM.put0 (h : RM μ b q) {i j : Nat} (hij : (i = 44 ∧ j = 193) ∨ (i = 45 ∧ j = 194) ∨ (i = 49 ∧ j = 195) ∨ (i = 50 ∧ j = 196)) (v : Int) : RM (kst μ 0 (kup (μ 0) i v)) b (kup q j v) := by
  obtain ⟨h0, h1, h2, h3, h4, h5, h6⟩ := h
  refine ⟨RMr.other (h0.kept (kst_ne (by decide))) (by omega), fun k hk => ?_, fun k hk => ?_, ?_, ?_, ?_, ?_⟩
  · rw [kup_ne (by omega), kup_ne (by omega), kup_ne (by omega), kup_ne (by omega), kup_ne (by omega)]
    simp (disch := decide) only [kst_ne]
    exact h1 k hk
  · rw [kup_ne (by omega), kst_ne (by decide)]
    exact h2 k hk
  all_goals rcases hij with ⟨rfl, rfl⟩ | ⟨rfl, rfl⟩ | ⟨rfl, rfl⟩ | ⟨rfl, rfl⟩ <;> simp (disch := decide) only [kst_eq, kup_eq, kup_ne] <;> assumption
theorem RM.putc (h : RM μ b q) {c j : Nat} (hcj : (c = 10 ∧ j = 145) ∨ (c = 11 ∧ j = 149) ∨ (c = 12 ∧ j = 153) ∨ (c = 13 ∧ j = 157) ∨ (c = 17 ∧ j = 197)) {w : Int} (h0 : 0 ≤ w) (h4 : w < 4) (v : Int) : RM (kst μ c (kup (μ c) w.toNat v)) b (kup q (j + w.toNat) v) := by
  obtain ⟨h0, h1, h2, h3, h4, h5, h6⟩ := h
  refine ⟨RMr.other (h0.kept (kst_ne (by omega))) (by omega), fun k hk => ?_, fun k hk => ?_, ?_, ?_, ?_, ?_⟩
  · have a := h1 k hk
    rcases hcj with ⟨rfl, rfl⟩ | ⟨rfl, rfl⟩ | ⟨rfl, rfl⟩ | ⟨rfl, rfl⟩ | ⟨rfl, rfl⟩ <;> simp (disch := omega) only [kst_eq, kst_ne, kup_ne] <;> simp only [kup_ap] <;> by_cases e : k = w.toNat <;> simp only [e, if_true, if_false, Nat.add_left_cancel_iff] <;> (try rw [e] at a) <;> simp [a]
  · rw [kup_ne (by omega), kst_ne (by omega)]
    exact h2 k hk
  all_goals rw [kup_ne (by omega), kst_ne (by omega)]; assumption
theorem RM.puti (h : RM μ b q) {w : Int} (h0 : 0 ≤ w) (h4 : w < 32) (v : Int) : RM (kst μ 14 (kup (μ 14) w.toNat v)) b (kup q (161 + w).toNat v) := by
  obtain ⟨h0, h1, h2, h3, h4, h5, h6⟩ := h
  refine ⟨RMr.other (h0.kept (kst_ne (by omega))) (by omega), fun k hk => ?_, fun k hk => ?_, ?_, ?_, ?_, ?_⟩
  · rw [kup_ne (by omega), kup_ne (by omega), kup_ne (by omega), kup_ne (by omega), kup_ne (by omega)]
    simp (disch := decide) only [kst_ne]
    exact h1 k hk
  · rw [kst_eq, kup_ap, kup_ap]
    by_cases e : k = w.toNat
    · rw [if_pos e, if_pos (by omega)]
    · rw [if_neg e, if_neg (by omega)]
      exact h2 k hk
  all_goals rw [kup_ne (by omega), kst_ne (by omega)]; assumption
theorem ms_tells (hR : RMr μ b q) (hb0 : 0 ≤ b) (hb : b ≤ 145) {w p v : Int} (hw0 : 0 ≤ w) (hw : w < 4) (hp0 : 0 ≤ p) (hp : p < 8) : mm_tells μ b w p v = some (kst μ 15 (kup (kup (kup (kup (μ 15) 2 (q (9 + p).toNat)) 3 v) 4 (q (29 + 8 * w + p).toNat)) 5 (q 0))) := by
  unfold mm_tells
  simp (disch := omega) only [w32_s, kchk_t, klet, kst_eq, kst_ne, kst_st, Int.reduceToNat]
  rw [hR.at (i := 9 + p) (by omega) (by omega) hb0 (by omega), hR.at (i := 29 + 8 * w + p) (by omega) (by omega) hb0 (by omega), hR.at (i := 0) (by omega) (by omega) hb0 (by omega)]
  rfl
theorem ms_in (hE : EM N M tp PH PF PB μ) (hN : EN N M tp L PH PF PB) (hR : RMr μ b q) (hb0 : 0 ≤ b) (hb : b ≤ 145) {w p t d : Int} (hw0 : 0 ≤ w) (hw : w < M) (hp0 : 0 ≤ p) (hp : p < N) (ht0 : 0 ≤ t) (ht : t < tp) : ∃ μ', mm_inches μ b w p t d = some (sp_in PH q w p t d, μ') ∧ scrM μ μ' := by
  obtain ⟨e1, e2, e3, e5, e6, e7⟩ := hE
  obtain ⟨n1, n2, n3, n4, n5, n6, n7⟩ := hN
  unfold mm_inches
  simp (disch := omega) only [w32_s, kchk_t, klet]
  rw [hR.at (j := (b + 113 + 4 * p + t).toNat) (i := 113 + 4 * p + t) (by omega) (by omega) hb0 (by omega)]
  unfold sp_in
  by_cases hP : PH = []
  · have h4 : μ 0 4 = -1 := by
      rcases e5 with h | h
      · exact h.2
      · exact absurd hP h.1
    refine ⟨μ, ?_, scrM.rfl⟩
    rw [if_pos h4, if_pos hP]
    unfold mm_lesser
    rw [Int.min_comm, Int.min_def]
    split <;> rfl
  · have h4 : ¬ μ 0 4 = -1 := by
      rcases e5 with h | h
      · exact absurd h.1 hP
      · obtain ⟨_, k, h, _⟩ := h
        omega
    rw [if_neg h4, if_neg hP, hR.at (j := (b + 17 + w).toNat) (i := 17 + w) (by omega) (by omega) hb0 (by omega), ms_tells hR hb0 hb hw0 (by omega) hp0 (by omega)]
    simp only [Option.bind, Int.reduceToNat, kst_eq, kst_st]
    rw [kst_ne (show (0 : Nat) ≠ 15 by decide)]
    obtain ⟨hok, hal⟩ := n5.resolve_left hP
    obtain ⟨g, hg⟩ := rv_M (σ := kst μ 15 (kup (kup (kup (kup (kup (kup (μ 15) 2 (q (9 + p).toNat)) 3 (q (17 + w).toNat)) 4 (q (29 + 8 * w + p).toNat)) 5 (q 0)) 0 d) 1 (q (113 + 4 * p + t).toNat))) (e := sp_tv q w p (q (17 + w).toNat) d (q (113 + 4 * p + t).toNat) 0 0) hP (e5.kept (kst_ne (by decide))) hok (fun c hc h1 h2 => by
      have h3 : -6 ≤ c := hal c hc h1 h2
      rw [kst_eq]
      have h4 : c = -1 ∨ c = -2 ∨ c = -3 ∨ c = -4 ∨ c = -5 ∨ c = -6 := by omega
      rcases h4 with rfl | rfl | rfl | rfl | rfl | rfl <;> rfl)
    rw [hg]
    refine ⟨kst (kst μ 15 (kup (kup (kup (kup (kup (kup (μ 15) 2 (q (9 + p).toNat)) 3 (q (17 + w).toNat)) 4 (q (29 + 8 * w + p).toNat)) 5 (q 0)) 0 d) 1 (q (113 + 4 * p + t).toNat))) 16 g, ?_, ?_⟩
    rotate_left
    · exact fun c h1 h2 => by
        rw [kst_ne h2, kst_ne h1]
    · show (mm_bounded _ _ 0 9).bind _ = _
      unfold mm_bounded rv_cl
      split
      · split <;> rfl
      · rfl
theorem sp_rh_01 {w l : Int} : sp_rh L q w l = 0 ∨ sp_rh L q w l = 1 := by
  unfold sp_rh
  generalize (65 + 6 * w + (if l = 0 then L w.toNat - 1 else l - 1)).toNat = j
  by_cases h : q (65 + 6 * w + l).toNat = q j
  · rw [if_pos h]
    exact Or.inr rfl
  · rw [if_neg h]
    exact Or.inl rfl
theorem ms_rh (hN : EN N M tp L PH PF PB) (hR : RMr μ b q) (hI : IV M tp L q) (hb0 : 0 ≤ b) (hb : b ≤ 145) {w l : Int} (hw0 : 0 ≤ w) (hw : w < M) (hl0 : 0 ≤ l) (hl : l < L w.toNat) : mm_rhymes μ b w l = some (sp_rh L q w l) := by
  have hn2 := hN.2.1
  have hL := hN.2.2.2.1 w hw0 hw
  unfold mm_rhymes mm_rhymes_j27 sp_rh
  rw [w32_s (v := b + 61) (by omega) (by omega), w32_s (v := b + 61 + w) (by omega) (by omega), kchk_t (by omega)]
  simp only [klet]
  rw [hR.at (j := (b + 61 + w).toNat) (i := 61 + w) (by omega) (by omega) hb0 (by omega), hI.many hw0 (by omega)]
  by_cases h : l = 0
  · rw [if_pos h, if_pos h]
    simp (disch := omega) only [w32_s, kchk_t]
    rw [hR.at (j := (b + 65 + 6 * w + l).toNat) (i := 65 + 6 * w + l) (by omega) (by omega) hb0 (by omega), hR.at (j := (b + 65 + 6 * w + (L w.toNat - 1)).toNat) (i := 65 + 6 * w + (L w.toNat - 1)) (by omega) (by omega) hb0 (by omega)]
    split <;> rfl
  · rw [if_neg h, if_neg h]
    simp (disch := omega) only [w32_s, kchk_t]
    rw [hR.at (j := (b + 65 + 6 * w + l).toNat) (i := 65 + 6 * w + l) (by omega) (by omega) hb0 (by omega), hR.at (j := (b + 65 + 6 * w + (l - 1)).toNat) (i := 65 + 6 * w + (l - 1)) (by omega) (by omega) hb0 (by omega)]
    split <;> rfl
theorem ms_fi (hE : EM N M tp PH PF PB μ) (hN : EN N M tp L PH PF PB) (hR : RMr μ b q) (hI : IV M tp L q) (hb0 : 0 ≤ b) (hb : b ≤ 145) {w p l i : Int} (hw0 : 0 ≤ w) (hw : w < M) (hp0 : 0 ≤ p) (hp : p < N) (hl0 : 0 ≤ l) (hl : l < L w.toNat) : ∃ μ', mm_fineOf μ b w p l i = some (sp_fi PF L q w p l i, μ') ∧ scrM μ μ' := by
  obtain ⟨e1, e2, e3, e5, e6, e7⟩ := hE
  have hrh := fun (f : Nat → Int) => ms_rh (μ := kst μ 15 f) hN (hR.kept (kst_ne (by decide))) hI hb0 hb hw0 hw hl0 hl
  obtain ⟨n1, n2, n3, n4, n5, n6, n7⟩ := hN
  unfold mm_fineOf
  simp (disch := omega) only [w32_s, kchk_t, klet]
  unfold sp_fi
  by_cases hP : PF = []
  · have h4 : μ 0 5 = -1 := by
      rcases e6 with h | h
      · exact h.2
      · exact absurd hP h.1
    refine ⟨μ, ?_, scrM.rfl⟩
    rw [if_pos h4, if_pos hP]
  · have h4 : ¬ μ 0 5 = -1 := by
      rcases e6 with h | h
      · exact absurd h.1 hP
      · obtain ⟨_, k, h, _⟩ := h
        omega
    rw [if_neg h4, if_neg hP, hR.at (j := (b + 17 + w).toNat) (i := 17 + w) (by omega) (by omega) hb0 (by omega), ms_tells hR hb0 hb hw0 (by omega) hp0 (by omega)]
    simp only [Option.bind, Int.reduceToNat, kst_eq, kst_st]
    rw [hrh]
    obtain ⟨hok, hal⟩ := n6.resolve_left hP
    have key : ∃ μ', mm_fineOf_j60 (kst μ 15 (kup (kup (kup (kup (kup (μ 15) 2 (q (9 + p).toNat)) 3 (q (17 + w).toNat)) 4 (q (29 + 8 * w + p).toNat)) 5 (q 0)) 6 i)) (sp_rh L q w l) 7 = some (rv_cl 20 (rv_ev PF (sp_tv q w p (q (17 + w).toNat) 0 0 i (sp_rh L q w l))), μ') ∧ scrM μ μ' := by
      unfold mm_fineOf_j60
      rw [kchk_t (by omega)]
      simp only [klet, Int.reduceToNat, kst_eq, kst_st]
      rw [kst_ne (show (0 : Nat) ≠ 15 by decide)]
      obtain ⟨g, hg⟩ := rv_M (σ := kst μ 15 (kup (kup (kup (kup (kup (kup (μ 15) 2 (q (9 + p).toNat)) 3 (q (17 + w).toNat)) 4 (q (29 + 8 * w + p).toNat)) 5 (q 0)) 6 i) 7 (sp_rh L q w l))) (e := sp_tv q w p (q (17 + w).toNat) 0 0 i (sp_rh L q w l)) hP (e6.kept (kst_ne (by decide))) hok (fun c hc h1 h2 => by
        have h3 : -4 ≤ c ∨ c ≤ -7 := hal c hc h1 h2
        rw [kst_eq]
        have h4 : c = -1 ∨ c = -2 ∨ c = -3 ∨ c = -4 ∨ c = -7 ∨ c = -8 := by omega
        rcases h4 with rfl | rfl | rfl | rfl | rfl | rfl <;> rfl)
      rw [hg]
      refine ⟨kst (kst μ 15 (kup (kup (kup (kup (kup (kup (μ 15) 2 (q (9 + p).toNat)) 3 (q (17 + w).toNat)) 4 (q (29 + 8 * w + p).toNat)) 5 (q 0)) 6 i) 7 (sp_rh L q w l))) 16 g, ?_, ?_⟩
      rotate_left
      · exact fun c h1 h2 => by
          rw [kst_ne h2, kst_ne h1]
      · show (mm_bounded _ _ 0 20).bind _ = _
        unfold mm_bounded rv_cl
        split
        · split <;> rfl
        · rfl
    simp only [Option.bind]
    by_cases hz : sp_rh L q w l = 0
    · rw [if_pos hz]
      rw [hz] at key ⊢
      exact key
    · have h1 : sp_rh L q w l = 1 := sp_rh_01.resolve_left hz
      rw [if_neg hz]
      rw [h1] at key ⊢
      exact key
theorem ms_inOf (hE : EM N M tp PH PF PB μ) (hN : EN N M tp L PH PF PB) (hR : RMr μ b q) (hI : IV M tp L q) (hb0 : 0 ≤ b) (hb : b ≤ 145) {w p l : Int} (hw0 : 0 ≤ w) (hw : w < M) (hp0 : 0 ≤ p) (hp : p < N) (hl0 : 0 ≤ l) (hl : l < L w.toNat) : ∃ μ', mm_inchesOf μ b w p l = some (sp_in PH q w p (q (65 + 6 * w + l).toNat) (if μ 0 48 = 0 then q (89 + 6 * w + l).toNat else 9), μ') ∧ scrM μ μ' := by
  have hn2 := hN.2.1
  have hL := hN.2.2.2.1 w hw0 hw
  have htp := hI.topic hw0 (by omega) hl0 (by omega)
  unfold mm_inchesOf mm_inchesOf_j41
  simp (disch := omega) only [w32_s, kchk_t]
  rw [hR.at (j := (b + 65 + 6 * w + l).toNat) (i := 65 + 6 * w + l) (by omega) (by omega) hb0 (by omega)]
  by_cases ha : μ 0 48 = 0
  · rw [if_pos ha, if_pos ha]
    unfold mm_depthOf
    simp (disch := omega) only [w32_s, kchk_t, Option.bind]
    rw [hR.at (j := (b + 89 + 6 * w + l).toNat) (i := 89 + 6 * w + l) (by omega) (by omega) hb0 (by omega)]
    obtain ⟨μ1, h1, h2⟩ := ms_in (d := q (89 + 6 * w + l).toNat) hE hN hR hb0 hb hw0 hw hp0 hp htp.1 htp.2
    rw [h1]
    exact ⟨μ1, rfl, h2⟩
  · rw [if_neg ha, if_neg ha]
    obtain ⟨μ1, h1, h2⟩ := ms_in (d := 9) hE hN hR hb0 hb hw0 hw hp0 hp htp.1 htp.2
    rw [h1]
    exact ⟨μ1, rfl, h2⟩
theorem ms_sell (hE : EM N M tp PH PF PB μ) (hN : EN N M tp L PH PF PB) (hR : RM μ b q) (hI : IV M tp L q) (hb0 : 0 ≤ b) (hb : b ≤ 145) {w p : Int} (hw0 : 0 ≤ w) (hw : w < M) (hp0 : 0 ≤ p) (hp : p < N) :
    kOk (mm_sells_l2 μ b w p) (fun o => ∃ μ', o = .inl (μ', p + 1) ∧ RM μ' b (sp_sell PB w p q) ∧ frM b μ μ') := by
  have hn1 := hN.1
  have hn2 := hN.2.1
  have hmo := hI.money hp0 (by omega)
  unfold mm_sells_l2
  rw [hE.2.1, if_neg (by omega), w32_s (v := b + 1) (by omega) (by omega), w32_s (v := b + 1 + p) (by omega) (by omega), kchk_t (by omega), hR.1.at (j := (b + 1 + p).toNat) (i := 1 + p) (by omega) (by omega) hb0 (by omega)]
  unfold sp_sell
  have hdone : ∀ μ2 : kM, ∀ q2 : Nat → Int, RM μ2 b q2 → frM b μ μ2 → kOk (mm_sells_l2_j124 μ2 b w p) (fun o => ∃ μ', o = .inl (μ', p + 1) ∧ RM μ' b q2 ∧ frM b μ μ') := by
    intro μ2 q2 h1 h2
    unfold mm_sells_l2_j124
    simp only [klet]
    rw [w32_s (by omega) (by omega)]
    exact ⟨_, rfl, μ2, rfl, h1, h2⟩
  by_cases h1 : q (1 + p).toNat ≤ 0
  · rw [if_pos (show q (1 + p).toNat = 0 by omega), if_pos h1]
    exact hdone μ q hR frM.rfl
  rw [if_neg (show ¬ q (1 + p).toNat = 0 by omega), if_neg h1, kchk_t (by omega), ms_tells hR.1 hb0 hb hw0 (by omega) hp0 (by omega)]
  simp only [Option.bind]
  rw [kst_ne (show (0 : Nat) ≠ 15 by decide)]
  have hsc : ∀ f : Nat → Int, scrM μ (kst μ 15 f) := fun f c h1 h2 => kst_ne h1
  have hbuy : ∀ μ2 : kM, scrM μ μ2 → kOk (mm_sells_l2_j65 μ2 b w p) (fun o => ∃ μ', o = .inl (μ', p + 1) ∧ RM μ' b (sp_s2 (kup q (1 + p).toNat (w32 (q (1 + p).toNat - 1))) w) ∧ frM b μ μ') := by
    intro μ2 hs
    have hR2 := hR.scr hs
    have hF2 : frM b μ μ2 := hs.fr
    unfold mm_sells_l2_j65
    simp only [klet]
    rw [w32_s (v := b + 1) (by omega) (by omega), w32_s (v := b + 1 + p) (by omega) (by omega), kchk_t (by omega), kchk_t (by omega), hR2.1.at (j := (b + 1 + p).toNat) (i := 1 + p) (by omega) (by omega) hb0 (by omega), w32_s (v := b + 17) (by omega) (by omega), w32_s (v := b + 17 + w) (by omega) (by omega), kchk_t (by omega)]
    have hR3 := hR2.put8 (i := 1 + p) (j := (b + 1 + p).toNat) (w32 (q (1 + p).toNat - 1)) (by omega) (by omega) hb0 (by omega)
    have hF3 : frM b μ (kst μ2 8 (kup (μ2 8) (b + 1 + p).toNat (w32 (q (1 + p).toNat - 1)))) := hF2.put8 (by omega)
    have hI3 : IV M tp L (kup q (1 + p).toNat (w32 (q (1 + p).toNat - 1))) := hI.up (fun _ => by
      rw [w32_s (by omega) (by omega)]
      unfold bd
      omega)
    generalize kst μ2 8 (kup (μ2 8) (b + 1 + p).toNat (w32 (q (1 + p).toNat - 1))) = μ3 at hR3 hF3
    generalize kup q (1 + p).toNat (w32 (q (1 + p).toNat - 1)) = q3 at hR3 hI3
    have hpe := hI3.pence hw0 (by omega)
    rw [hR3.1.at (j := (b + 17 + w).toNat) (i := 17 + w) (by omega) (by omega) hb0 (by omega)]
    unfold sp_s2
    by_cases h3 : 999 ≤ q3 (17 + w).toNat
    · rw [if_pos (show q3 (17 + w).toNat = 999 by omega), if_pos h3]
      exact hdone μ3 q3 hR3 hF3
    rw [if_neg (show ¬ q3 (17 + w).toNat = 999 by omega), if_neg h3, kchk_t (by omega), kchk_t (by omega), kchk_t (by omega), kchk_t (by omega), kst_ne (show (11 : Nat) ≠ 8 by decide)]
    have hR4 := hR3.put8 (i := 17 + w) (j := (b + 17 + w).toNat) (w32 (q3 (17 + w).toNat + 1)) (by omega) (by omega) hb0 (by omega)
    have hF4 : frM b μ (kst μ3 8 (kup (μ3 8) (b + 17 + w).toNat (w32 (q3 (17 + w).toNat + 1)))) := hF3.put8 (by omega)
    have g1 : μ3 11 w.toNat = q3 (149 + w).toNat := by
      rw [(hR3.2.1 w.toNat (by omega)).2.1]
      congr 1
      omega
    rw [g1]
    have hR5 := hR4.putc (c := 11) (j := 149) (by decide) hw0 (by omega) (w32 (q3 (149 + w).toNat + 1))
    rw [kst_ne (show (11 : Nat) ≠ 8 by decide), show 149 + w.toNat = (149 + w).toNat by omega] at hR5
    exact hdone _ _ hR5 (hF4.put (by decide))
  obtain ⟨e1, e2, e3, e5, e6, e7⟩ := hE
  by_cases hP : PB = []
  · have h4 : μ 0 6 = -1 := by
      rcases e7 with h | h
      · exact h.2
      · exact absurd hP h.1
    rw [if_pos h4]
    have hv : sp_bv PB q w p = 1 := by
      unfold sp_bv
      rw [if_pos hP]
    rw [hv, if_neg (by decide)]
    exact hbuy _ (hsc _)
  · have h4 : ¬ μ 0 6 = -1 := by
      rcases e7 with h | h
      · exact absurd h.1 hP
      · obtain ⟨_, k, h, _⟩ := h
        omega
    rw [if_neg h4]
    obtain ⟨hok, hal⟩ := hN.2.2.2.2.2.2.resolve_left hP
    obtain ⟨g, hg⟩ := rv_M (σ := kst μ 15 (kup (kup (kup (kup (μ 15) 2 (q (9 + p).toNat)) 3 (q (1 + p).toNat)) 4 (q (29 + 8 * w + p).toNat)) 5 (q 0))) (e := sp_tv q w p (q (1 + p).toNat) 0 0 0 0) hP (e7.kept (kst_ne (by decide))) hok (fun c hc h1 h2 => by
      have h3 : -4 ≤ c := hal c hc h1 h2
      rw [kst_eq]
      have h4 : c = -1 ∨ c = -2 ∨ c = -3 ∨ c = -4 := by omega
      rcases h4 with rfl | rfl | rfl | rfl <;> rfl)
    rw [hg]
    have hs : scrM μ (kst (kst μ 15 (kup (kup (kup (kup (μ 15) 2 (q (9 + p).toNat)) 3 (q (1 + p).toNat)) 4 (q (29 + 8 * w + p).toNat)) 5 (q 0))) 16 g) := fun c h1 h2 => by
      rw [kst_ne h2, kst_ne h1]
    have hv : sp_bv PB q w p = rv_ev PB (sp_tv q w p (q (1 + p).toNat) 0 0 0 0) := by
      unfold sp_bv
      rw [if_neg hP]
    rw [hv]
    show kOk (if 0 < rv_ev PB (sp_tv q w p (q (1 + p).toNat) 0 0 0 0) then _ else _) _
    by_cases h5 : rv_ev PB (sp_tv q w p (q (1 + p).toNat) 0 0 0 0) ≤ 0
    · rw [if_neg (show ¬ 0 < rv_ev PB (sp_tv q w p (q (1 + p).toNat) 0 0 0 0) by omega), if_pos h5]
      exact hdone _ q (hR.scr hs) hs.fr
    · rw [if_pos (show 0 < rv_ev PB (sp_tv q w p (q (1 + p).toNat) 0 0 0 0) by omega), if_neg h5]
      exact hbuy _ hs
theorem ms_sells (hE : EM N M tp PH PF PB μ) (hN : EN N M tp L PH PF PB) (hR : RM μ b q) (hI : IV M tp L q) (hb0 : 0 ≤ b) (hb : b ≤ 145) {w : Int} (hw0 : 0 ≤ w) (hw : w < M) :
    kOk (mm_sells μ b w) (fun μ' => RM μ' b (sp_sells N PB w q) ∧ frM b μ μ') := by
  have hn1 := hN.1
  have hn2 := hN.2.1
  unfold mm_sells
  refine kOk.then (kOk_for N.toNat (fun i st => st.2 = (i : Int) ∧ RM st.1 b (kit (fun i q => sp_sell PB w (i : Int) q) i q) ∧ IV M tp L (kit (fun i q => sp_sell PB w (i : Int) q) i q) ∧ frM b μ st.1) ?_ ?_ (kFuel_lt (by omega)) _ ⟨rfl, hR, hI, frM.rfl⟩) (fun a h => kOk_some.mpr h)
  · intro i st hi hI
    obtain ⟨μ1, x⟩ := st
    obtain ⟨rfl, h1, h3, h2⟩ := hI
    refine (ms_sell (hE.fr h2) hN h1 h3 hb0 hb hw0 hw (p := (i : Int)) (by omega) (by omega)).mono ?_
    rintro o ⟨μ2, rfl, h4, h5⟩
    exact ⟨by simp, h4, h3.sell hw0 (by omega) (by omega) (by omega), h2.trans h5⟩
  · intro st hI
    obtain ⟨μ1, x⟩ := st
    obtain ⟨rfl, h1, h3, h2⟩ := hI
    have h5 : EM N M tp PH PF PB μ1 := hE.fr h2
    refine ⟨.inr μ1, ?_, h1, h2⟩
    show mm_sells_l2 μ1 b w ((N.toNat : Nat) : Int) = _
    unfold mm_sells_l2
    rw [h5.2.1, if_pos (by omega)]
end MS

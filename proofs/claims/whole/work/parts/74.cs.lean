/-! THE CLASS'S STAGES -/
def scr (V : Nat) (σ σ' : kM) : Prop := ∀ c : Nat, c ≠ V → c ≠ 11 → σ' c = σ c
theorem scr.rfl {V : Nat} {σ : kM} : scr V σ σ := fun _ _ _ => Eq.refl _
theorem scr.trans {V : Nat} {σ σ' σ'' : kM} (h : scr V σ σ') (h' : scr V σ' σ'') : scr V σ σ'' := fun c h1 h2 => (h' c h1 h2).trans (h c h1 h2)
def frS (W T A B C D V : Nat) (σ σ' : kM) : Prop := ∀ c : Nat, c ≠ 11 → c ≠ W → c ≠ T → c ≠ A → c ≠ B → c ≠ C → c ≠ D → c ≠ V → σ' c = σ c
theorem frS.rfl {W T A B C D V : Nat} {σ : kM} : frS W T A B C D V σ σ := fun _ _ _ _ _ _ _ _ _ => Eq.refl _
theorem frS.trans {W T A B C D V : Nat} {σ σ' σ'' : kM} (h : frS W T A B C D V σ σ') (h' : frS W T A B C D V σ' σ'') : frS W T A B C D V σ σ'' := fun c h1 h2 h3 h4 h5 h6 h7 h8 => (h' c h1 h2 h3 h4 h5 h6 h7 h8).trans (h c h1 h2 h3 h4 h5 h6 h7 h8)
theorem scr.fr {W T A B C D V : Nat} {σ σ' : kM} (h : scr V σ σ') : frS W T A B C D V σ σ' := fun c h1 _ _ _ _ _ _ h8 => h c h8 h1
theorem frS.put {W T A B C D V c : Nat} {σ σ' : kM} {f : Nat → Int} (h : frS W T A B C D V σ σ') (hc : c = 11 ∨ c = W ∨ c = T ∨ c = A ∨ c = B ∨ c = C ∨ c = D ∨ c = V) : frS W T A B C D V σ (kst σ' c f) := fun k h1 h2 h3 h4 h5 h6 h7 h8 => by
  rw [kst_ne (by omega)]
  exact h k h1 h2 h3 h4 h5 h6 h7 h8
def RS (N M tp : Int) (L : Nat → Int) (σ : kM) (W T A B C D : Nat) (q : Nat → Int) : Prop := RCr N M tp L σ W q ∧ RT σ T A B C D q
theorem RT.kept {σ σ' : kM} {T A B C D : Nat} {q : Nat → Int} (h : RT σ T A B C D q) (hT : σ' T = σ T) (hA : σ' A = σ A) (hB : σ' B = σ B) (hC : σ' C = σ C) (hD : σ' D = σ D) : RT σ' T A B C D q := by
  unfold RT at *
  rw [hT, hA, hB, hC, hD]
  exact h
theorem RT.other {σ : kM} {T A B C D : Nat} {q : Nat → Int} (h : RT σ T A B C D q) {j : Nat} {v : Int} (hj : j < 145 ∨ (157 ≤ j ∧ j < 161) ∨ (196 ≤ j ∧ j < 201) ∨ 204 ≤ j) : RT σ T A B C D (kup q j v) := by
  obtain ⟨h1, h2, h3, h4, h5, h6, h7, h8⟩ := h
  refine ⟨fun k hk => ?_, fun k hk => ?_, ?_, ?_, ?_, ?_, ?_, ?_⟩
  · rw [kup_ne (by omega), kup_ne (by omega), kup_ne (by omega)]
    exact h1 k hk
  · rw [kup_ne (by omega)]
    exact h2 k hk
  all_goals rw [kup_ne (by omega)]; assumption
/-- what a reading leaves as it was -/
theorem sp_hq_ne {q : Nat → Int} {w p i y : Int} {k : Nat} (h1 : k ≠ (17 + w).toNat) (h2 : k ≠ (1 + p).toNat) (h3 : k ≠ (145 + w).toNat) (h4 : k ≠ (9 + p).toNat) (h5 : k ≠ (29 + 8 * w + p).toNat) (h6 : k ≠ (161 + 8 * w + p).toNat) (h7 : k ≠ (197 + w).toNat) (h8 : k < 193 ∨ 197 ≤ k) (h9 : k ≠ 203) : sp_hq q w p i y k = q k := by
  unfold sp_hq
  rw [kup_ne h7, kup_ne (by omega), kup_ne (by omega), kup_ne (by omega), kup_ne h9, kup_ne (by omega), kup_ne h6, kup_ne h5, kup_ne h4, kup_ne h3, kup_ne h2, kup_ne h1]
theorem sp_hits_ne {N : Int} {PH PF : List Int} {L : Nat → Int} {w l t d : Int} {q : Nat → Int} {k : Nat} (hk : (k = 0 ∧ 0 ≤ w ∧ w < 4 ∧ N ≤ 8) ∨ (21 ≤ k ∧ k < 29 ∧ 0 ≤ w ∧ w < 4 ∧ N ≤ 8) ∨ (61 ≤ k ∧ k < 145 ∧ 0 ≤ w ∧ w < 4 ∧ N ≤ 8) ∨ (149 ≤ k ∧ k < 161 ∧ 0 ≤ w ∧ w < 4 ∧ N ≤ 8)) : (sp_hits N PH PF L w l t d q).1 k = q k := by
  unfold sp_hits
  refine kit_ind (P := fun (s : (Nat → Int) × Int) => s.1 k = q k) _ rfl (fun i s hi hs => ?_)
  unfold sp_hit
  split
  · exact hs
  · rw [← hs]
    exact sp_hq_ne (by omega) (by omega) (by omega) (by omega) (by omega) (by omega) (by omega) (by omega) (by omega)
section CS43
variable {N M tp : Int} {L : Nat → Int} {PH PF PB : List Int} {σ : kM} {q : Nat → Int}
abbrev fr43 (σ σ' : kM) : Prop := frS 31 44 45 46 47 48 49 σ σ'
theorem RT43.a (h : RT σ 44 45 46 47 48 q) {w : Int} (h0 : 0 ≤ w) (h4 : w < 4) (v : Int) : RT (kst σ 45 (kup (σ 45) w.toNat v)) 44 45 46 47 48 (kup q (145 + w).toNat v) := by
  obtain ⟨h1, h2, h3, h4, h5, h6, h7, h8⟩ := h
  refine ⟨fun k hk => ?_, fun k hk => ?_, ?_, ?_, ?_, ?_, ?_, ?_⟩
  · have a := h1 k hk
    simp (disch := decide) only [kst_eq, kst_ne]
    rw [kup_ne (show 149 + k ≠ _ by omega), kup_ne (show 153 + k ≠ _ by omega), kup_ap, kup_ap]
    refine ⟨?_, a.2.1, a.2.2⟩
    by_cases e : k = w.toNat
    · rw [if_pos e, if_pos (by omega)]
    · rw [if_neg e, if_neg (by omega)]
      exact a.1
  · simp (disch := decide) only [kst_eq, kst_ne]
    rw [kup_ne (by omega)]
    exact h2 k hk
  all_goals simp (disch := decide) only [kst_eq, kst_ne]; rw [kup_ne (by omega)]; assumption
theorem RT43.b (h : RT σ 44 45 46 47 48 q) {w : Int} (h0 : 0 ≤ w) (h4 : w < 4) (v : Int) : RT (kst σ 46 (kup (σ 46) w.toNat v)) 44 45 46 47 48 (kup q (149 + w).toNat v) := by
  obtain ⟨h1, h2, h3, h4, h5, h6, h7, h8⟩ := h
  refine ⟨fun k hk => ?_, fun k hk => ?_, ?_, ?_, ?_, ?_, ?_, ?_⟩
  · have a := h1 k hk
    simp (disch := decide) only [kst_eq, kst_ne]
    rw [kup_ne (show 145 + k ≠ _ by omega), kup_ne (show 153 + k ≠ _ by omega), kup_ap, kup_ap]
    refine ⟨a.1, ?_, a.2.2⟩
    by_cases e : k = w.toNat
    · rw [if_pos e, if_pos (by omega)]
    · rw [if_neg e, if_neg (by omega)]
      exact a.2.1
  · simp (disch := decide) only [kst_eq, kst_ne]
    rw [kup_ne (by omega)]
    exact h2 k hk
  all_goals simp (disch := decide) only [kst_eq, kst_ne]; rw [kup_ne (by omega)]; assumption
theorem RT43.c (h : RT σ 44 45 46 47 48 q) {w : Int} (h0 : 0 ≤ w) (h4 : w < 4) (v : Int) : RT (kst σ 47 (kup (σ 47) w.toNat v)) 44 45 46 47 48 (kup q (153 + w).toNat v) := by
  obtain ⟨h1, h2, h3, h4, h5, h6, h7, h8⟩ := h
  refine ⟨fun k hk => ?_, fun k hk => ?_, ?_, ?_, ?_, ?_, ?_, ?_⟩
  · have a := h1 k hk
    simp (disch := decide) only [kst_eq, kst_ne]
    rw [kup_ne (show 145 + k ≠ _ by omega), kup_ne (show 149 + k ≠ _ by omega), kup_ap, kup_ap]
    refine ⟨a.1, a.2.1, ?_⟩
    by_cases e : k = w.toNat
    · rw [if_pos e, if_pos (by omega)]
    · rw [if_neg e, if_neg (by omega)]
      exact a.2.2
  · simp (disch := decide) only [kst_eq, kst_ne]
    rw [kup_ne (by omega)]
    exact h2 k hk
  all_goals simp (disch := decide) only [kst_eq, kst_ne]; rw [kup_ne (by omega)]; assumption
theorem RT43.d (h : RT σ 44 45 46 47 48 q) {w : Int} (h0 : 0 ≤ w) (h4 : w < 32) (v : Int) : RT (kst σ 48 (kup (σ 48) w.toNat v)) 44 45 46 47 48 (kup q (161 + w).toNat v) := by
  obtain ⟨h1, h2, h3, h4, h5, h6, h7, h8⟩ := h
  refine ⟨fun k hk => ?_, fun k hk => ?_, ?_, ?_, ?_, ?_, ?_, ?_⟩
  · simp (disch := decide) only [kst_eq, kst_ne]
    rw [kup_ne (show 145 + k ≠ _ by omega), kup_ne (show 149 + k ≠ _ by omega), kup_ne (show 153 + k ≠ _ by omega)]
    exact h1 k hk
  · simp (disch := decide) only [kst_eq, kst_ne]
    rw [kup_ap, kup_ap]
    by_cases e : k = w.toNat
    · rw [if_pos e, if_pos (by omega)]
    · rw [if_neg e, if_neg (by omega)]
      exact h2 k hk
  all_goals simp (disch := decide) only [kst_eq, kst_ne]; rw [kup_ne (by omega)]; assumption
theorem RT43.t (h : RT σ 44 45 46 47 48 q) {i j : Nat} (hij : (i = 4 ∧ j = 193) ∨ (i = 8 ∧ j = 194) ∨ (i = 6 ∧ j = 195) ∨ (i = 7 ∧ j = 201) ∨ (i = 9 ∧ j = 202) ∨ (i = 5 ∧ j = 203)) (v : Int) : RT (kst σ 44 (kup (σ 44) i v)) 44 45 46 47 48 (kup q j v) := by
  obtain ⟨h1, h2, h3, h4, h5, h6, h7, h8⟩ := h
  refine ⟨fun k hk => ?_, fun k hk => ?_, ?_, ?_, ?_, ?_, ?_, ?_⟩
  · simp (disch := decide) only [kst_eq, kst_ne]
    rw [kup_ne (show 145 + k ≠ _ by omega), kup_ne (show 149 + k ≠ _ by omega), kup_ne (show 153 + k ≠ _ by omega)]
    exact h1 k hk
  · simp (disch := decide) only [kst_eq, kst_ne]
    rw [kup_ne (by omega)]
    exact h2 k hk
  all_goals rcases hij with ⟨rfl, rfl⟩ | ⟨rfl, rfl⟩ | ⟨rfl, rfl⟩ | ⟨rfl, rfl⟩ | ⟨rfl, rfl⟩ | ⟨rfl, rfl⟩ <;> simp (disch := decide) only [kst_eq, kup_eq, kup_ne] <;> assumption
theorem RS43.put (h : RS N M tp L σ 31 44 45 46 47 48 q) {i j : Nat} (v : Int) (hij : (i < 17 ∧ j = i) ∨ (17 ≤ i ∧ i < 29 ∧ j = i + 32) ∨ (29 ≤ i ∧ i < 61 ∧ j = i - 12) ∨ (89 ≤ i ∧ i < 113 ∧ j = i - 28)) : RS N M tp L (kst σ 31 (kup (σ 31) j v)) 31 44 45 46 47 48 (kup q i v) :=
  ⟨h.1.set (by decide) v hij, (h.2.kept (kst_ne (by decide)) (kst_ne (by decide)) (kst_ne (by decide)) (kst_ne (by decide)) (kst_ne (by decide))).other (by omega)⟩
theorem RS43.scr {σ' : kM} (h : RS N M tp L σ 31 44 45 46 47 48 q) (hs : scr 49 σ σ') : RS N M tp L σ' 31 44 45 46 47 48 q :=
  ⟨h.1.kept (hs _ (by decide) (by decide)) (hs _ (by decide) (by decide)) (hs _ (by decide) (by decide)) (hs _ (by decide) (by decide)), h.2.kept (hs _ (by decide) (by decide)) (hs _ (by decide) (by decide)) (hs _ (by decide) (by decide)) (hs _ (by decide) (by decide)) (hs _ (by decide) (by decide))⟩
theorem EC43.fr {σ' : kM} (h : EC N M tp L PH PF PB σ) (hs : fr43 σ σ') : EC N M tp L PH PF PB σ' := by
  refine h.kept ?_ ?_ ?_ ?_ ?_ <;> exact hs _ (by decide) (by decide) (by decide) (by decide) (by decide) (by decide) (by decide) (by decide)
theorem cs_sv43 (hR : RCr N M tp L σ 31 q) {w p v : Int} (hw0 : 0 ≤ w) (hw : w < 4) (hp0 : 0 ≤ p) (hp : p < 8) : pf_Stage_setValues_43 σ w p v = some (kst σ 49 (kup (kup (kup (kup (σ 49) 0 (q (9 + p).toNat)) 1 v) 2 (q (29 + 8 * w + p).toNat)) 3 (q 0))) := by
  unfold pf_Stage_setValues_43 pf_World_hitsBy_30
  simp (disch := omega) only [w32_s, kchk_t, klet, Option.bind, kst_eq, kst_ne, kst_st, Int.reduceToNat]
  rw [hR.scars hp0 hp, hR.hits hw0 hw hp0 hp, hR.year]
theorem cs_tr43 (hR : RCr N M tp L σ 31 q) (hN : EN N M tp L PH PF PB) {p t : Int} (hp0 : 0 ≤ p) (hp : p < N) (ht0 : 0 ≤ t) (ht : t < tp) : pf_Law_truthOf_3 σ p t = some (q (113 + 4 * p + t).toNat) := by
  obtain ⟨n1, n2, n3, n4, n5, n6, n7⟩ := hN
  unfold pf_Law_truthOf_3
  simp (disch := omega) only [w32_s, kchk_t]
  rw [hR.truth hp0 hp n1.2 ht0 ht n3.2]
theorem cs_to43 (hR : RCr N M tp L σ 31 q) (hN : EN N M tp L PH PF PB) {w l : Int} (hw0 : 0 ≤ w) (hw : w < M) (hl0 : 0 ≤ l) (hl : l < L w.toNat) : pf_Law_topicOf_3 σ w l = some (q (65 + 6 * w + l).toNat) := by
  obtain ⟨n1, n2, n3, n4, n5, n6, n7⟩ := hN
  have hL := n4 w hw0 hw
  unfold pf_Law_topicOf_3
  simp (disch := omega) only [w32_s, kchk_t]
  rw [hR.topic hw0 hw n2.2 hl0 hl hL.2]
theorem cs_rh43 {w l : Int} (hR : RCr N M tp L σ 31 q) (hN : EN N M tp L PH PF PB) (h4 : σ 4 w.toNat = L w.toNat) (hw0 : 0 ≤ w) (hw : w < M) (hl0 : 0 ≤ l) (hl : l < L w.toNat) : pf_Law_rhymes_3 σ w l = some (sp_rh L q w l) := by
  have hL := hN.2.2.2.1 w hw0 hw
  have hM := hN.2.1
  unfold pf_Law_rhymes_3 pf_Law_rhymes_3_j22 sp_rh
  by_cases h : l = 0
  · subst h
    rw [if_pos (by omega), kchk_t (by omega), h4, w32_s (by omega) (by omega), Int.max_eq_left (by omega), cs_to43 hR hN hw0 hw (by omega) (by omega), if_pos rfl]
    simp only [Option.bind]
    rw [cs_to43 hR hN hw0 hw (l := L w.toNat - 1) (by omega) (by omega)]
    simp only [Option.bind]
    split <;> rfl
  · rw [if_neg (by omega), w32_s (by omega) (by omega), cs_to43 hR hN hw0 hw hl0 hl, if_neg h]
    simp only [Option.bind]
    rw [cs_to43 hR hN hw0 hw (l := l - 1) (by omega) (by omega)]
    simp only [Option.bind]
    split <;> rfl
theorem cs_in43 (hE : EC N M tp L PH PF PB σ) (hN : EN N M tp L PH PF PB) (hR : RCr N M tp L σ 31 q) {w p t d : Int} (hw0 : 0 ≤ w) (hw : w < M) (hp0 : 0 ≤ p) (hp : p < N) (ht0 : 0 ≤ t) (ht : t < tp) : ∃ σ', pf_Stage_inchesInto_43 σ w p t d = some (sp_in PH q w p t d, σ') ∧ scr 49 σ σ' := by
  obtain ⟨e1, e2, e3, e4, e5, e6, e7⟩ := hE
  have htr := cs_tr43 hR hN hp0 hp ht0 ht
  obtain ⟨n1, n2, n3, n4, n5, n6, n7⟩ := hN
  unfold pf_Stage_inchesInto_43
  rw [htr]
  simp only [Option.bind]
  rw [rv_has (r := 0) (by omega) e5]
  simp only [Option.bind]
  unfold sp_in
  by_cases hP : PH = []
  · refine ⟨σ, ?_, scr.rfl⟩
    rw [if_pos hP, if_pos hP, if_pos rfl]
  · rw [if_neg hP, if_neg (by decide), w32_s (by omega) (by omega), kchk_t (by omega), hR.pence hw0 (by omega), cs_sv43 hR hw0 (by omega) hp0 (by omega), if_neg hP]
    simp only [Option.bind, klet, Int.reduceToNat, kst_eq, kst_st]
    obtain ⟨hok, hal⟩ := n5.resolve_left hP
    obtain ⟨g, hg⟩ := rv_C49 (σ := kst σ 49 (kup (kup (kup (kup (kup (kup (σ 49) 0 (q (9 + p).toNat)) 1 (q (17 + w).toNat)) 2 (q (29 + 8 * w + p).toNat)) 3 (q 0)) 4 d) 5 (q (113 + 4 * p + t).toNat))) (r := 0) (e := sp_tv q w p (q (17 + w).toNat) d (q (113 + 4 * p + t).toNat) 0 0) (by omega) (e5.kept (kst_ne (by decide)) (kst_ne (by decide)) (kst_ne (by decide))) hok (fun c hc h1 h2 => by
      have h3 : -6 ≤ c := hal c hc h1 h2
      rw [kst_eq]
      have h4 : c = -1 ∨ c = -2 ∨ c = -3 ∨ c = -4 ∨ c = -5 ∨ c = -6 := by omega
      rcases h4 with rfl | rfl | rfl | rfl | rfl | rfl <;> rfl)
    rw [hg]
    refine ⟨kst (kst σ 49 (kup (kup (kup (kup (kup (kup (σ 49) 0 (q (9 + p).toNat)) 1 (q (17 + w).toNat)) 2 (q (29 + 8 * w + p).toNat)) 3 (q 0)) 4 d) 5 (q (113 + 4 * p + t).toNat))) 11 g, ?_, ?_⟩
    rotate_left
    · exact fun c h1 h2 => by
        rw [kst_ne h2, kst_ne h1]
    · show (pf_Stage_within _ _ 9).bind _ = _
      unfold pf_Stage_within rv_cl
      split
      · split <;> rfl
      · rfl
theorem cs_fi43 (hE : EC N M tp L PH PF PB σ) (hN : EN N M tp L PH PF PB) (hR : RCr N M tp L σ 31 q) {w p l i : Int} (hw0 : 0 ≤ w) (hw : w < M) (hp0 : 0 ≤ p) (hp : p < N) (hl0 : 0 ≤ l) (hl : l < L w.toNat) : ∃ σ', pf_Stage_fineFor_43 σ w p l i = some (sp_fi PF L q w p l i, σ') ∧ scr 49 σ σ' := by
  obtain ⟨e1, e2, e3, e4, e5, e6, e7⟩ := hE
  have hrh := fun (f : Nat → Int) => cs_rh43 (σ := kst σ 49 f) (q := q) (w := w) (l := l) (hR.kept (kst_ne (by decide)) (kst_ne (by decide)) (kst_ne (by decide)) (kst_ne (by decide))) hN (by rw [kst_ne (by decide)]; exact e4 w hw0 hw) hw0 hw hl0 hl
  obtain ⟨n1, n2, n3, n4, n5, n6, n7⟩ := hN
  unfold pf_Stage_fineFor_43
  rw [rv_has (r := 1) (by omega) e6]
  simp only [Option.bind]
  unfold sp_fi
  by_cases hP : PF = []
  · refine ⟨σ, ?_, scr.rfl⟩
    rw [if_pos hP, if_pos hP, if_pos rfl]
  · rw [if_neg hP, if_neg (by decide), w32_s (by omega) (by omega), kchk_t (by omega), hR.pence hw0 (by omega), cs_sv43 hR hw0 (by omega) hp0 (by omega), if_neg hP]
    simp only [Option.bind, klet, Int.reduceToNat, kst_eq, kst_st]
    rw [hrh]
    simp only [Option.bind, kst_eq, kst_st]
    obtain ⟨hok, hal⟩ := n6.resolve_left hP
    obtain ⟨g, hg⟩ := rv_C49 (σ := kst σ 49 (kup (kup (kup (kup (kup (kup (σ 49) 0 (q (9 + p).toNat)) 1 (q (17 + w).toNat)) 2 (q (29 + 8 * w + p).toNat)) 3 (q 0)) 6 i) 7 (sp_rh L q w l))) (r := 1) (e := sp_tv q w p (q (17 + w).toNat) 0 0 i (sp_rh L q w l)) (by omega) (e6.kept (kst_ne (by decide)) (kst_ne (by decide)) (kst_ne (by decide))) hok (fun c hc h1 h2 => by
      have h3 : -4 ≤ c ∨ c ≤ -7 := hal c hc h1 h2
      rw [kst_eq]
      have h4 : c = -1 ∨ c = -2 ∨ c = -3 ∨ c = -4 ∨ c = -7 ∨ c = -8 := by omega
      rcases h4 with rfl | rfl | rfl | rfl | rfl | rfl <;> rfl)
    rw [hg]
    refine ⟨kst (kst σ 49 (kup (kup (kup (kup (kup (kup (σ 49) 0 (q (9 + p).toNat)) 1 (q (17 + w).toNat)) 2 (q (29 + 8 * w + p).toNat)) 3 (q 0)) 6 i) 7 (sp_rh L q w l))) 11 g, ?_, ?_⟩
    rotate_left
    · exact fun c h1 h2 => by
        rw [kst_ne h2, kst_ne h1]
    · show (pf_Stage_within _ _ 20).bind _ = _
      unfold pf_Stage_within rv_cl
      split
      · split <;> rfl
      · rfl
theorem cs_bu43 (hE : EC N M tp L PH PF PB σ) (hN : EN N M tp L PH PF PB) (hR : RCr N M tp L σ 31 q) {w p : Int} (hw0 : 0 ≤ w) (hw : w < M) (hp0 : 0 ≤ p) (hp : p < N) : ∃ σ', pf_Stage_wouldBuy_43 σ w p = some (if sp_bv PB q w p ≤ 0 then 0 else 1, σ') ∧ scr 49 σ σ' := by
  obtain ⟨e1, e2, e3, e4, e5, e6, e7⟩ := hE
  obtain ⟨n1, n2, n3, n4, n5, n6, n7⟩ := hN
  unfold pf_Stage_wouldBuy_43
  rw [rv_has (r := 2) (by omega) e7]
  simp only [Option.bind]
  unfold sp_bv
  by_cases hP : PB = []
  · refine ⟨σ, ?_, scr.rfl⟩
    rw [if_pos hP, if_pos hP, if_pos rfl, if_neg (by decide)]
  · rw [if_neg hP, if_neg (by decide), w32_s (by omega) (by omega), kchk_t (by omega), hR.money hp0 (by omega), cs_sv43 hR hw0 (by omega) hp0 (by omega), if_neg hP]
    simp only [Option.bind]
    obtain ⟨hok, hal⟩ := n7.resolve_left hP
    obtain ⟨g, hg⟩ := rv_C49 (σ := kst σ 49 (kup (kup (kup (kup (σ 49) 0 (q (9 + p).toNat)) 1 (q (1 + p).toNat)) 2 (q (29 + 8 * w + p).toNat)) 3 (q 0))) (r := 2) (e := sp_tv q w p (q (1 + p).toNat) 0 0 0 0) (by omega) (e7.kept (kst_ne (by decide)) (kst_ne (by decide)) (kst_ne (by decide))) hok (fun c hc h1 h2 => by
      have h3 : -4 ≤ c := hal c hc h1 h2
      rw [kst_eq]
      have h4 : c = -1 ∨ c = -2 ∨ c = -3 ∨ c = -4 := by omega
      rcases h4 with rfl | rfl | rfl | rfl <;> rfl)
    rw [hg]
    refine ⟨kst (kst σ 49 (kup (kup (kup (kup (σ 49) 0 (q (9 + p).toNat)) 1 (q (1 + p).toNat)) 2 (q (29 + 8 * w + p).toNat)) 3 (q 0))) 11 g, ?_, ?_⟩
    rotate_left
    · exact fun c h1 h2 => by
        rw [kst_ne h2, kst_ne h1]
    · show (if _ ≤ (0 : Int) then some ((0 : Int), _) else some (1, _)) = _
      split <;> rfl
theorem cs_sell43 (hE : EC N M tp L PH PF PB σ) (hN : EN N M tp L PH PF PB) (hR : RS N M tp L σ 31 44 45 46 47 48 q) {w p : Int} (hw0 : 0 ≤ w) (hw : w < M) (hp0 : 0 ≤ p) (hp : p < N) :
    kOk (pf_Stage_sellVolumes_43_l10 σ w p) (fun o => ∃ σ', o = .inl (σ', p + 1) ∧ RS N M tp L σ' 31 44 45 46 47 48 (sp_sell PB w p q) ∧ fr43 σ σ') := by
  have hn1 := hN.1
  have hn2 := hN.2.1
  unfold pf_Stage_sellVolumes_43_l10
  rw [hE.2.1, if_neg (by omega), w32_s (v := 1 + p) (by omega) (by omega), kchk_t (by omega), hR.1.money hp0 (by omega)]
  unfold pf_Stage_sellVolumes_43_l10_j82 sp_sell
  by_cases h1 : q (1 + p).toNat ≤ 0
  · rw [if_pos h1, if_pos h1]
    exact ⟨_, rfl, σ, by rw [w32_s (by omega) (by omega)], hR, frS.rfl⟩
  rw [if_neg h1, if_neg h1]
  obtain ⟨σ1, hb, hs⟩ := cs_bu43 hE hN hR.1 hw0 hw hp0 hp
  rw [hb]
  have hR1 := RS43.scr hR hs
  have hF1 : fr43 σ σ1 := hs.fr
  simp only [Option.bind]
  by_cases h2 : sp_bv PB q w p ≤ 0
  · rw [if_pos h2, if_pos h2, if_pos rfl]
    exact ⟨_, rfl, σ1, by rw [w32_s (by omega) (by omega)], hR1, hF1⟩
  rw [if_neg h2, if_neg h2, if_neg (by decide)]
  simp only [klet]
  rw [kchk_t (by omega), kchk_t (by omega), hR1.1.money hp0 (by omega), w32_s (v := 49 + w) (by omega) (by omega), kchk_t (by omega)]
  have hR2 : RS N M tp L (kst σ1 31 (kup (σ1 31) (1 + p).toNat (w32 (q (1 + p).toNat - 1)))) 31 44 45 46 47 48 (kup q (1 + p).toNat (w32 (q (1 + p).toNat - 1))) :=
    ⟨hR1.1.set (by decide) _ (by omega), (hR1.2.kept (kst_ne (by decide)) (kst_ne (by decide)) (kst_ne (by decide)) (kst_ne (by decide)) (kst_ne (by decide))).other (by omega)⟩
  have hF2 : fr43 σ (kst σ1 31 (kup (σ1 31) (1 + p).toNat (w32 (q (1 + p).toNat - 1)))) := hF1.put (by decide)
  generalize kst σ1 31 (kup (σ1 31) (1 + p).toNat (w32 (q (1 + p).toNat - 1))) = σ2 at hR2 hF2
  generalize kup q (1 + p).toNat (w32 (q (1 + p).toNat - 1)) = q2 at hR2
  rw [hR2.1.pence hw0 (by omega)]
  unfold sp_s2
  by_cases h3 : 999 ≤ q2 (17 + w).toNat
  · rw [if_pos h3, if_pos h3]
    exact ⟨_, rfl, σ2, by rw [w32_s (by omega) (by omega)], hR2, hF2⟩
  rw [if_neg h3, if_neg h3, kchk_t (by omega), kchk_t (by omega), kchk_t (by omega), kchk_t (by omega), kst_ne (show (46 : Nat) ≠ 31 by decide)]
  have hb : σ2 46 w.toNat = q2 (149 + w).toNat := by
    have := (hR2.2.1 w.toNat (by omega)).2.1
    rw [this]
    congr 1
    omega
  rw [hb]
  refine ⟨_, rfl, _, by rw [w32_s (v := p + 1) (by omega) (by omega)], ⟨?_, ?_⟩, ?_⟩
  · exact ((hR2.1.set (by decide) _ (by omega)).kept (kst_ne (by decide)) (kst_ne (by decide)) (kst_ne (by decide)) (kst_ne (by decide))).other (by omega)
  · have h5 : RT (kst σ2 31 (kup (σ2 31) (49 + w).toNat (w32 (q2 (17 + w).toNat + 1)))) 44 45 46 47 48 (kup q2 (17 + w).toNat (w32 (q2 (17 + w).toNat + 1))) := (hR2.2.kept (kst_ne (by decide)) (kst_ne (by decide)) (kst_ne (by decide)) (kst_ne (by decide)) (kst_ne (by decide))).other (by omega)
    have h6 := RT43.b h5 hw0 (by omega) (w32 (q2 (149 + w).toNat + 1))
    rw [kst_ne (show (46 : Nat) ≠ 31 by decide)] at h6
    exact h6
  · exact (hF2.put (by decide)).put (by decide)
theorem cs_sells43 (hE : EC N M tp L PH PF PB σ) (hN : EN N M tp L PH PF PB) (hR : RS N M tp L σ 31 44 45 46 47 48 q) {w : Int} (hw0 : 0 ≤ w) (hw : w < M) :
    kOk (pf_Stage_sellVolumes_43 σ w) (fun σ' => RS N M tp L σ' 31 44 45 46 47 48 (sp_sells N PB w q) ∧ fr43 σ σ') := by
  have hn1 := hN.1
  unfold pf_Stage_sellVolumes_43
  refine kOk.then (kOk_for N.toNat (fun i st => st.2 = (i : Int) ∧ RS N M tp L st.1 31 44 45 46 47 48 (kit (fun i q => sp_sell PB w (i : Int) q) i q) ∧ fr43 σ st.1) ?_ ?_ (kFuel_lt (by omega)) _ ⟨rfl, hR, frS.rfl⟩) (fun a h => kOk_some.mpr h)
  · intro i st hi hI
    obtain ⟨σ1, x⟩ := st
    obtain ⟨rfl, h1, h2⟩ := hI
    refine (cs_sell43 (EC43.fr hE h2) hN h1 hw0 hw (p := (i : Int)) (by omega) (by omega)).mono ?_
    rintro o ⟨σ2, rfl, h3, h4⟩
    exact ⟨by simp, h3, h2.trans h4⟩
  · intro st hI
    obtain ⟨σ1, x⟩ := st
    obtain ⟨rfl, h1, h2⟩ := hI
    have h3 : EC N M tp L PH PF PB σ1 := EC43.fr hE h2
    refine ⟨.inr σ1, ?_, h1, h2⟩
    show pf_Stage_sellVolumes_43_l10 σ1 w ((N.toNat : Nat) : Int) = _
    unfold pf_Stage_sellVolumes_43_l10
    rw [h3.2.1, if_pos (by omega)]
theorem cs_hit43 (hE : EC N M tp L PH PF PB σ) (hN : EN N M tp L PH PF PB) (hR : RS N M tp L σ 31 44 45 46 47 48 q) {w p l t d lk : Int} (hw0 : 0 ≤ w) (hw : w < M) (hp0 : 0 ≤ p) (hp : p < N) (hl0 : 0 ≤ l) (hl : l < L w.toNat) (ht0 : 0 ≤ t) (ht : t < tp) :
    kOk (pf_Stage_readNext_43_l50 σ w l t d lk p) (fun o => ∃ σ', o = .inl (σ', (sp_hit PH PF L w l t d p (q, lk)).2, p + 1) ∧ RS N M tp L σ' 31 44 45 46 47 48 (sp_hit PH PF L w l t d p (q, lk)).1 ∧ fr43 σ σ') := by
  have hn1 := hN.1
  have hn2 := hN.2.1
  unfold pf_Stage_readNext_43_l50
  rw [hE.2.1, if_neg (by omega)]
  obtain ⟨σ1, hb, hs⟩ := cs_in43 (d := d) hE hN hR.1 hw0 hw hp0 hp ht0 ht
  rw [hb]
  have hR1 := RS43.scr hR hs
  have hF1 : fr43 σ σ1 := hs.fr
  simp only [Option.bind]
  unfold pf_Stage_readNext_43_l50_j120 sp_hit
  by_cases h1 : sp_in PH q w p t d ≤ 0
  · rw [if_pos h1, if_pos h1]
    exact ⟨_, rfl, σ1, by rw [w32_s (by omega) (by omega)], hR1, hF1⟩
  rw [if_neg h1, if_neg h1]
  generalize hii : sp_in PH q w p t d = ii at h1
  obtain ⟨σ2, hb2, hs2⟩ := cs_fi43 (i := ii) (EC43.fr hE hF1) hN hR1.1 hw0 hw hp0 hp hl0 hl
  rw [hb2]
  have hR2 := RS43.scr hR1 hs2
  have hF2 : fr43 σ σ2 := hF1.trans hs2.fr
  simp only [Option.bind]
  generalize hff : sp_fi PF L q w p l ii = ff
  unfold pf_Stage_payFine_43
  simp only [klet]
  rw [w32_s (v := 49 + w) (by omega) (by omega), kchk_t (by omega), kchk_t (by omega), kchk_t (by omega), w32_s (v := 1 + p) (by omega) (by omega), kchk_t (by omega), kchk_t (by omega), kchk_t (by omega), kchk_t (by omega), hR2.1.pence hw0 (by omega)]
  generalize hyy : min ff (q (17 + w).toNat) = yy
  have a1 : RS N M tp L (kst σ2 31 (kup (σ2 31) (49 + w).toNat (w32 (q (17 + w).toNat - yy)))) 31 44 45 46 47 48 (kup q (17 + w).toNat (w32 (q (17 + w).toNat - yy))) :=
    ⟨hR2.1.set (by decide) _ (by omega), (hR2.2.kept (kst_ne (by decide)) (kst_ne (by decide)) (kst_ne (by decide)) (kst_ne (by decide)) (kst_ne (by decide))).other (by omega)⟩
  have f1 : fr43 σ (kst σ2 31 (kup (σ2 31) (49 + w).toNat (w32 (q (17 + w).toNat - yy)))) := hF2.put (by decide)
  generalize kst σ2 31 (kup (σ2 31) (49 + w).toNat (w32 (q (17 + w).toNat - yy))) = σ3 at a1 f1
  rw [a1.1.money hp0 (by omega), kup_ne (show (1 + p).toNat ≠ (17 + w).toNat by omega)]
  have a2 : RS N M tp L (kst σ3 31 (kup (σ3 31) (1 + p).toNat (min (w32 (q (1 + p).toNat + yy)) 999))) 31 44 45 46 47 48 _ :=
    ⟨a1.1.set (by decide) (i := (1 + p).toNat) _ (by omega), (a1.2.kept (kst_ne (by decide)) (kst_ne (by decide)) (kst_ne (by decide)) (kst_ne (by decide)) (kst_ne (by decide))).other (by omega)⟩
  have f2 : fr43 σ (kst σ3 31 (kup (σ3 31) (1 + p).toNat (min (w32 (q (1 + p).toNat + yy)) 999))) := f1.put (by decide)
  generalize kst σ3 31 (kup (σ3 31) (1 + p).toNat (min (w32 (q (1 + p).toNat + yy)) 999)) = σ4 at a2 f2
  have g1 : σ4 45 w.toNat = q (145 + w).toNat := by
    have := (a2.2.1 w.toNat (by omega)).1
    rw [this, kup_ne (by omega), kup_ne (by omega)]
    congr 1
    omega
  rw [g1]
  have a3 : RS N M tp L (kst σ4 45 (kup (σ4 45) w.toNat (w32 (q (145 + w).toNat + yy)))) 31 44 45 46 47 48 _ :=
    ⟨(a2.1.kept (kst_ne (by decide)) (kst_ne (by decide)) (kst_ne (by decide)) (kst_ne (by decide))).other (j := (145 + w).toNat) (by omega), RT43.a a2.2 hw0 (by omega) _⟩
  have f3 : fr43 σ (kst σ4 45 (kup (σ4 45) w.toNat (w32 (q (145 + w).toNat + yy)))) := f2.put (by decide)
  generalize kst σ4 45 (kup (σ4 45) w.toNat (w32 (q (145 + w).toNat + yy))) = σ5 at a3 f3
  unfold pf_Stage_leaveScars_43 pf_Tally_addHit_44
  simp only [klet]
  rw [w32_s (v := 9 + p) (by omega) (by omega), kchk_t (by omega), kchk_t (by omega), w32_s (v := w * 8) (by omega) (by omega), w32_s (v := 17 + w * 8) (by omega) (by omega), w32_s (v := 17 + w * 8 + p) (by omega) (by omega), kchk_t (by omega), kchk_t (by omega), w32_s (v := w * 8 + p) (by omega) (by omega), kchk_t (by omega), kchk_t (by omega)]
  rw [a3.1.scars hp0 (by omega), kup_ne (show (9 + p).toNat ≠ (145 + w).toNat by omega), kup_ne (show (9 + p).toNat ≠ (1 + p).toNat by omega), kup_ne (show (9 + p).toNat ≠ (17 + w).toNat by omega)]
  have a4 : RS N M tp L (kst σ5 31 (kup (σ5 31) (9 + p).toNat (min (w32 (q (9 + p).toNat + ii)) 99))) 31 44 45 46 47 48 _ :=
    ⟨a3.1.set (by decide) (i := (9 + p).toNat) _ (by omega), (a3.2.kept (kst_ne (by decide)) (kst_ne (by decide)) (kst_ne (by decide)) (kst_ne (by decide)) (kst_ne (by decide))).other (by omega)⟩
  have f4 : fr43 σ (kst σ5 31 (kup (σ5 31) (9 + p).toNat (min (w32 (q (9 + p).toNat + ii)) 99))) := f3.put (by decide)
  generalize kst σ5 31 (kup (σ5 31) (9 + p).toNat (min (w32 (q (9 + p).toNat + ii)) 99)) = σ6 at a4 f4
  rw [a4.1.hits hw0 (by omega) hp0 (by omega), kup_ne (show (29 + 8 * w + p).toNat ≠ (9 + p).toNat by omega), kup_ne (show (29 + 8 * w + p).toNat ≠ (145 + w).toNat by omega), kup_ne (show (29 + 8 * w + p).toNat ≠ (1 + p).toNat by omega), kup_ne (show (29 + 8 * w + p).toNat ≠ (17 + w).toNat by omega)]
  have a5 : RS N M tp L (kst σ6 31 (kup (σ6 31) (17 + w * 8 + p).toNat (w32 (q (29 + 8 * w + p).toNat + 1)))) 31 44 45 46 47 48 _ :=
    ⟨a4.1.set (by decide) (i := (29 + 8 * w + p).toNat) _ (by omega), (a4.2.kept (kst_ne (by decide)) (kst_ne (by decide)) (kst_ne (by decide)) (kst_ne (by decide)) (kst_ne (by decide))).other (by omega)⟩
  have f5 : fr43 σ (kst σ6 31 (kup (σ6 31) (17 + w * 8 + p).toNat (w32 (q (29 + 8 * w + p).toNat + 1)))) := f4.put (by decide)
  generalize kst σ6 31 (kup (σ6 31) (17 + w * 8 + p).toNat (w32 (q (29 + 8 * w + p).toNat + 1))) = σ7 at a5 f5
  have g2 : σ7 48 (w * 8 + p).toNat = q (161 + 8 * w + p).toNat := by
    have := a5.2.2.1 (w * 8 + p).toNat (by omega)
    rw [this]
    simp (disch := omega) only [kup_ne]
    congr 1
    omega
  rw [g2]
  have a6 : RS N M tp L (kst σ7 48 (kup (σ7 48) (w * 8 + p).toNat (w32 (q (161 + 8 * w + p).toNat + ii)))) 31 44 45 46 47 48 _ :=
    ⟨(a5.1.kept (kst_ne (by decide)) (kst_ne (by decide)) (kst_ne (by decide)) (kst_ne (by decide))).other (j := (161 + (w * 8 + p)).toNat) (by omega), RT43.d a5.2 (by omega) (by omega) _⟩
  have f6 : fr43 σ (kst σ7 48 (kup (σ7 48) (w * 8 + p).toNat (w32 (q (161 + 8 * w + p).toNat + ii)))) := f5.put (by decide)
  generalize kst σ7 48 (kup (σ7 48) (w * 8 + p).toNat (w32 (q (161 + 8 * w + p).toNat + ii))) = σ8 at a6 f6
  rw [show (161 + (w * 8 + p)).toNat = (161 + 8 * w + p).toNat by omega] at a6
  have g3 : σ8 44 4 = q 193 := by
    rw [a6.2.2.2.1]
    simp (disch := omega) only [kup_ne]
  rw [g3]
  have a7 : RS N M tp L (kst σ8 44 (kup (σ8 44) 4 (w32 (q 193 + ii)))) 31 44 45 46 47 48 _ :=
    ⟨(a6.1.kept (kst_ne (by decide)) (kst_ne (by decide)) (kst_ne (by decide)) (kst_ne (by decide))).other (j := 193) (by omega), RT43.t a6.2 (by decide) _⟩
  have f7 : fr43 σ (kst σ8 44 (kup (σ8 44) 4 (w32 (q 193 + ii)))) := f6.put (by decide)
  generalize kst σ8 44 (kup (σ8 44) 4 (w32 (q 193 + ii))) = σ9 at a7 f7
  have g4 : σ9 44 5 = q 203 := by
    rw [a7.2.2.2.2.2.2.2.2]
    simp (disch := omega) only [kup_ne]
  rw [g4]
  have a8 : RS N M tp L (kst σ9 44 (kup (σ9 44) 5 (w32 (q 203 + 1)))) 31 44 45 46 47 48 _ :=
    ⟨(a7.1.kept (kst_ne (by decide)) (kst_ne (by decide)) (kst_ne (by decide)) (kst_ne (by decide))).other (j := 203) (by omega), RT43.t a7.2 (by decide) _⟩
  have f8 : fr43 σ (kst σ9 44 (kup (σ9 44) 5 (w32 (q 203 + 1)))) := f7.put (by decide)
  generalize kst σ9 44 (kup (σ9 44) 5 (w32 (q 203 + 1))) = σ10 at a8 f8
  have g5 : σ10 44 6 = q 195 := by
    rw [a8.2.2.2.2.2.1]
    simp (disch := omega) only [kup_ne]
  rw [g5]
  have a9 : RS N M tp L (kst σ10 44 (kup (σ10 44) 6 (kor (q 195) (kshl 1 p)))) 31 44 45 46 47 48 _ :=
    ⟨(a8.1.kept (kst_ne (by decide)) (kst_ne (by decide)) (kst_ne (by decide)) (kst_ne (by decide))).other (j := 195) (by omega), RT43.t a8.2 (by decide) _⟩
  have f9 : fr43 σ (kst σ10 44 (kup (σ10 44) 6 (kor (q 195) (kshl 1 p)))) := f8.put (by decide)
  generalize kst σ10 44 (kup (σ10 44) 6 (kor (q 195) (kshl 1 p))) = σ11 at a9 f9
  have g6 : σ11 44 8 = q 194 := by
    rw [a9.2.2.2.2.1]
    simp (disch := omega) only [kup_ne]
  rw [g6]
  have a10 : RS N M tp L (kst σ11 44 (kup (σ11 44) 8 (max (q 194) ii))) 31 44 45 46 47 48 _ :=
    ⟨(a9.1.kept (kst_ne (by decide)) (kst_ne (by decide)) (kst_ne (by decide)) (kst_ne (by decide))).other (j := 194) (by omega), RT43.t a9.2 (by decide) _⟩
  have f10 : fr43 σ (kst σ11 44 (kup (σ11 44) 8 (max (q 194) ii))) := f9.put (by decide)
  refine ⟨_, rfl, _, by rw [w32_s (v := p + 1) (by omega) (by omega)], ?_, f10⟩
  exact ⟨(a10.1.other (by omega)).other (by omega), (a10.2.other (by omega)).other (by omega)⟩
theorem cs_tp43 (hE : EC N M tp L PH PF PB σ) (hN : EN N M tp L PH PF PB) (hR : RS N M tp L σ 31 44 45 46 47 48 q) {w : Int} (hw0 : 0 ≤ w) (hw : w < M) : pf_Stage_turnPage_43 σ w = some (kst σ 31 (kup (σ 31) (53 + w).toNat (if L w.toNat ≤ w32 (q (21 + w).toNat + 1) then 0 else w32 (q (21 + w).toNat + 1)))) := by
  have hn2 := hN.2.1
  unfold pf_Stage_turnPage_43 pf_Law_behind_3
  rw [w32_s (v := 53 + w) (by omega) (by omega), kchk_t (by omega), kchk_t (by omega), hR.1.next hw0 (by omega), hE.2.2.2.1 w hw0 hw]
  simp only [klet]
  split
  · simp only [Option.bind]
    rw [kchk_t (by omega)]
  · simp only [Option.bind]
    rw [kchk_t (by omega)]
theorem cs_read43 (hE : EC N M tp L PH PF PB σ) (hN : EN N M tp L PH PF PB) (hR : RS N M tp L σ 31 44 45 46 47 48 q) (hI : IV M tp L q) {w acc : Int} (hw0 : 0 ≤ w) (hw : w < M) :
    kOk (pf_Stage_readNext_43 σ w acc) (fun σ' => RS N M tp L σ' 31 44 45 46 47 48 (sp_read N PH PF L acc w q) ∧ fr43 σ σ') := by
  have hn1 := hN.1
  have hn2 := hN.2.1
  have hL := hN.2.2.2.1 w hw0 hw
  have hnx := hI.next hw0 (by omega) hw
  have htp := hI.topic hw0 (by omega) hnx.1 (by omega)
  unfold pf_Stage_readNext_43 sp_read
  rw [w32_s (v := 53 + w) (by omega) (by omega), kchk_t (by omega), hR.1.next hw0 (by omega)]
  simp only [klet]
  generalize hl : q (21 + w).toNat = l at *
  rw [cs_to43 hR.1 hN hw0 hw hnx.1 hnx.2]
  simp only [Option.bind]
  generalize ht : q (65 + 6 * w + l).toNat = t at *
  have key : ∀ d : Int, kOk (pf_Stage_readNext_43_j42 σ w l t d) (fun σ' => RS N M tp L σ' 31 44 45 46 47 48 (sp_rd2 L w l (sp_hits N PH PF L w l t d q)) ∧ fr43 σ σ') := by
    intro d
    unfold pf_Stage_readNext_43_j42
    refine kOk.then (kOk_for (P := fun b => RS N M tp L b.1 31 44 45 46 47 48 (sp_hits N PH PF L w l t d q).1 ∧ b.2 = (sp_hits N PH PF L w l t d q).2 ∧ fr43 σ b.1) N.toNat (fun i st => st.2.2 = (i : Int) ∧ RS N M tp L st.1 31 44 45 46 47 48 (kit (fun i s => sp_hit PH PF L w l t d (i : Int) s) i (q, 0)).1 ∧ st.2.1 = (kit (fun i s => sp_hit PH PF L w l t d (i : Int) s) i (q, 0)).2 ∧ fr43 σ st.1) ?_ ?_ (kFuel_lt (by omega)) _ ⟨rfl, hR, rfl, frS.rfl⟩) ?_
    · intro i st hi hI
      obtain ⟨σ1, lk, x⟩ := st
      obtain ⟨rfl, h1, h3, h2⟩ := hI
      have h3 : lk = _ := h3
      subst h3
      refine (cs_hit43 (d := d) (EC43.fr hE h2) hN h1 hw0 hw (p := (i : Int)) (by omega) (by omega) hnx.1 hnx.2 htp.1 htp.2).mono ?_
      rintro o ⟨σ2, rfl, h3, h4⟩
      exact ⟨by simp, h3, rfl, h2.trans h4⟩
    · intro st hI
      obtain ⟨σ1, lk, x⟩ := st
      obtain ⟨rfl, h1, h3, h2⟩ := hI
      have h5 : EC N M tp L PH PF PB σ1 := EC43.fr hE h2
      refine ⟨.inr (σ1, lk), ?_, h1, h3, h2⟩
      show pf_Stage_readNext_43_l50 σ1 w l t d lk ((N.toNat : Nat) : Int) = _
      unfold pf_Stage_readNext_43_l50
      rw [h5.2.1, if_pos (by omega)]
    · rintro ⟨σ1, lk⟩ ⟨b1, b2, b3⟩
      have h2 : lk = (sp_hits N PH PF L w l t d q).2 := b2
      have h1 : RS N M tp L σ1 31 44 45 46 47 48 (sp_hits N PH PF L w l t d q).1 := b1
      have h3 : fr43 σ σ1 := b3
      clear b1 b2 b3
      show kOk (kchk _ _) _
      have hnx1 : (sp_hits N PH PF L w l t d q).1 (21 + w).toNat = l := by
        rw [← hl]
        exact sp_hits_ne (Or.inr (Or.inl (by omega)))
      generalize sp_hits N PH PF L w l t d q = s at h1 h2 hnx1
      subst h2
      rw [w32_s (v := 57 + w) (by omega) (by omega), kchk_t (by omega)]
      simp only [klet]
      rw [kchk_t (by omega), kchk_t (by omega)]
      have a1 := RS43.put h1 (i := (25 + w).toNat) (j := (57 + w).toNat) (min s.2 9) (by omega)
      have f1 : fr43 σ (kst σ1 31 (kup (σ1 31) (57 + w).toNat (min s.2 9))) := h3.put (by decide)
      generalize kst σ1 31 (kup (σ1 31) (57 + w).toNat (min s.2 9)) = σ2 at a1 f1
      have g1 : σ2 47 w.toNat = s.1 (153 + w).toNat := by
        have := (a1.2.1 w.toNat (by omega)).2.2
        rw [this, kup_ne (by omega), show 153 + w.toNat = (153 + w).toNat by omega]
      rw [g1]
      have a2 : RS N M tp L (kst σ2 47 (kup (σ2 47) w.toNat (w32 (s.1 (153 + w).toNat + 1)))) 31 44 45 46 47 48 _ :=
        ⟨(a1.1.kept (kst_ne (by decide)) (kst_ne (by decide)) (kst_ne (by decide)) (kst_ne (by decide))).other (j := (153 + w).toNat) (by omega), RT43.c a1.2 hw0 (by omega) _⟩
      have f2 : fr43 σ (kst σ2 47 (kup (σ2 47) w.toNat (w32 (s.1 (153 + w).toNat + 1)))) := f1.put (by decide)
      generalize kst σ2 47 (kup (σ2 47) w.toNat (w32 (s.1 (153 + w).toNat + 1))) = σ3 at a2 f2
      rw [cs_tp43 (EC43.fr hE f2) hN a2 hw0 hw]
      refine ⟨_, rfl, ⟨?_, ?_⟩, f2.put (by decide)⟩
      · unfold sp_rd2
        have := a2.1.set (by decide) (i := (21 + w).toNat) (j := (53 + w).toNat) (if L w.toNat ≤ w32 (l + 1) then 0 else w32 (l + 1)) (by omega)
        rw [kup_ne (show (21 + w).toNat ≠ (153 + w).toNat by omega), kup_ne (show (21 + w).toNat ≠ (25 + w).toNat by omega), hnx1]
        exact this
      · unfold sp_rd2
        rw [kup_ne (show (21 + w).toNat ≠ (153 + w).toNat by omega), kup_ne (show (21 + w).toNat ≠ (25 + w).toNat by omega), hnx1]
        exact (a2.2.kept (kst_ne (by decide)) (kst_ne (by decide)) (kst_ne (by decide)) (kst_ne (by decide)) (kst_ne (by decide))).other (by omega)
  by_cases ha : acc = 0
  · rw [if_pos ha, if_pos ha]
    unfold pf_World_depthOf_30
    rw [w32_s (v := w * 6) (by omega) (by omega), w32_s (v := 61 + w * 6) (by omega) (by omega), w32_s (v := 61 + w * 6 + l) (by omega) (by omega), kchk_t (by omega), hR.1.depth hw0 (by omega) hnx.1 (by omega)]
    exact key _
  · rw [if_neg ha, if_neg ha]
    exact key _
theorem cs_poet43 (hE : EC N M tp L PH PF PB σ) (hN : EN N M tp L PH PF PB) (hR : RS N M tp L σ 31 44 45 46 47 48 q) (hI : IV M tp L q) {w acc : Int} (hw0 : 0 ≤ w) (hw : w < M) :
    kOk (pf_Stage_passYear_43_l10 σ acc w) (fun o => ∃ σ', o = .inl (σ', w + 1) ∧ RS N M tp L σ' 31 44 45 46 47 48 (sp_poet N PH PF PB L acc w q) ∧ fr43 σ σ') := by
  have hn1 := hN.1
  have hn2 := hN.2.1
  unfold pf_Stage_passYear_43_l10 sp_poet
  rw [hE.2.2.1, if_neg (by omega), w32_s (v := 57 + w) (by omega) (by omega), kchk_t (by omega), hR.1.sits hw0 (by omega)]
  have hR0 : RS N M tp L σ 31 44 45 46 47 48 (kup q (197 + w).toNat 0) := ⟨hR.1.other (by omega), hR.2.other (by omega)⟩
  have hI0 : IV M tp L (kup q (197 + w).toNat 0) := hI.hi (by omega)
  by_cases h1 : q (25 + w).toNat ≤ 0
  · rw [if_pos h1, if_pos h1]
    generalize kup q (197 + w).toNat 0 = q0 at hR0 hI0
    refine (cs_sells43 hE hN hR0 hw0 hw).then ?_
    rintro σ1 ⟨h2, h3⟩
    refine (cs_read43 (acc := acc) (EC43.fr hE h3) hN h2 (IV.sells hI0 hw0 (by omega) hn1.2) hw0 hw).then ?_
    rintro σ2 ⟨h4, h5⟩
    unfold pf_Stage_passYear_43_l10_j66
    exact ⟨_, rfl, σ2, by rw [w32_s (by omega) (by omega)], h4, h3.trans h5⟩
  · rw [if_neg h1, if_neg h1]
    simp only [klet]
    rw [kchk_t (by omega), kchk_t (by omega)]
    unfold pf_Stage_passYear_43_l10_j66
    simp only [klet]
    rw [w32_s (v := w + 1) (by omega) (by omega)]
    refine ⟨_, rfl, kst σ 31 (kup (σ 31) (57 + w).toNat (w32 (σ 31 (57 + w).toNat - 1))), rfl, ?_, frS.rfl.put (by decide)⟩
    unfold sp_sit
    rw [hR.1.sits hw0 (by omega), kup_ne (show (25 + w).toNat ≠ (197 + w).toNat by omega)]
    exact ⟨(hR0.1.set (by decide) _ (by omega)).other (by omega), ((hR0.2.kept (kst_ne (by decide)) (kst_ne (by decide)) (kst_ne (by decide)) (kst_ne (by decide)) (kst_ne (by decide))).other (by omega)).other (by omega)⟩
theorem cs_year43 (hE : EC N M tp L PH PF PB σ) (hN : EN N M tp L PH PF PB) (hR : RS N M tp L σ 31 44 45 46 47 48 q) (hI : IV M tp L q) (acc : Int) :
    kOk (pf_Stage_passYear_43 σ acc) (fun σ' => RS N M tp L σ' 31 44 45 46 47 48 (sp_year N M PH PF PB L acc q) ∧ fr43 σ σ') := by
  have hn1 := hN.1
  have hn2 := hN.2.1
  unfold pf_Stage_passYear_43 sp_year
  simp only [klet]
  have a1 : RS N M tp L (kst σ 44 (kup (σ 44) 6 0)) 31 44 45 46 47 48 (kup (kup q 195 0) 196 0) :=
    ⟨((hR.1.kept (kst_ne (by decide)) (kst_ne (by decide)) (kst_ne (by decide)) (kst_ne (by decide))).other (by omega)).other (by omega), (RT43.t hR.2 (by decide) _).other (by omega)⟩
  have f1 : fr43 σ (kst σ 44 (kup (σ 44) 6 0)) := frS.rfl.put (by decide)
  have i1 : IV M tp L (kup (kup q 195 0) 196 0) := IV.hi (IV.hi hI (by omega)) (by omega)
  generalize kst σ 44 (kup (σ 44) 6 0) = σ1 at a1 f1
  generalize kup (kup q 195 0) 196 0 = q1 at a1 i1
  refine kOk.then (kOk_for (P := fun b => RS N M tp L b 31 44 45 46 47 48 (kit (fun i q => sp_poet N PH PF PB L acc (i : Int) q) M.toNat q1) ∧ fr43 σ b) M.toNat (fun i st => st.2 = (i : Int) ∧ RS N M tp L st.1 31 44 45 46 47 48 (kit (fun i q => sp_poet N PH PF PB L acc (i : Int) q) i q1) ∧ IV M tp L (kit (fun i q => sp_poet N PH PF PB L acc (i : Int) q) i q1) ∧ fr43 σ st.1) ?_ ?_ (kFuel_lt (by omega)) _ ⟨rfl, a1, i1, f1⟩) ?_
  · intro i st hi hI
    obtain ⟨σ2, x⟩ := st
    obtain ⟨rfl, h1, h3, h2⟩ := hI
    refine (cs_poet43 (acc := acc) (EC43.fr hE h2) hN h1 h3 (w := (i : Int)) (by omega) (by omega)).mono ?_
    rintro o ⟨σ3, rfl, h4, h5⟩
    exact ⟨by simp, h4, IV.poet h3 (by omega) (by omega) hn2.2 hn1.2 hN.2.2.1.2 (hN.2.2.2.1 _ (by omega) (by omega)), h2.trans h5⟩
  · intro st hI
    obtain ⟨σ2, x⟩ := st
    obtain ⟨rfl, h1, h3, h2⟩ := hI
    have h5 : EC N M tp L PH PF PB σ2 := EC43.fr hE h2
    refine ⟨.inr σ2, ?_, h1, h2⟩
    show pf_Stage_passYear_43_l10 σ2 acc ((M.toNat : Nat) : Int) = _
    unfold pf_Stage_passYear_43_l10
    rw [h5.2.2.1, if_pos (by omega)]
  · rintro σ2 ⟨h1, h2⟩
    generalize kit (fun i q => sp_poet N PH PF PB L acc (i : Int) q) M.toNat q1 = q2 at h1
    simp only [Int.reduceToNat]
    rw [h1.1.year]
    have a2 : RS N M tp L (kst σ2 31 (kup (σ2 31) 0 (w32 (q2 0 + 1)))) 31 44 45 46 47 48 (kup q2 0 (w32 (q2 0 + 1))) :=
      ⟨h1.1.set (by decide) _ (by decide), (h1.2.kept (kst_ne (by decide)) (kst_ne (by decide)) (kst_ne (by decide)) (kst_ne (by decide)) (kst_ne (by decide))).other (by omega)⟩
    have f2 : fr43 σ (kst σ2 31 (kup (σ2 31) 0 (w32 (q2 0 + 1)))) := h2.put (by decide)
    generalize kst σ2 31 (kup (σ2 31) 0 (w32 (q2 0 + 1))) = σ3 at a2 f2
    unfold pf_Tally_closeYear_44 pf_Tally_closeYear_44_j30 sp_end
    simp only [klet]
    have g1 : σ3 44 7 = q2 201 := by
      rw [a2.2.2.2.2.2.2.1, kup_ne (by omega)]
    have g2 : σ3 44 6 = q2 195 := by
      rw [a2.2.2.2.2.2.1, kup_ne (by omega)]
    have g3 : σ3 44 9 = q2 202 := by
      rw [a2.2.2.2.2.2.2.2.1, kup_ne (by omega)]
    simp (disch := decide) only [kst_eq, kup_ne]
    rw [g1, g2, g3]
    have a3 : RS N M tp L (kst σ3 44 (kup (σ3 44) 7 (kor (q2 201) (q2 195)))) 31 44 45 46 47 48 (kup (kup q2 0 (w32 (q2 0 + 1))) 201 (kor (q2 201) (q2 195))) :=
      ⟨(a2.1.kept (kst_ne (by decide)) (kst_ne (by decide)) (kst_ne (by decide)) (kst_ne (by decide))).other (by omega), RT43.t a2.2 (by decide) _⟩
    have f3 : fr43 σ (kst σ3 44 (kup (σ3 44) 7 (kor (q2 201) (q2 195)))) := f2.put (by decide)
    by_cases hz : q2 195 = 0
    · rw [if_pos hz, if_pos hz]
      have a4 : RS N M tp L _ 31 44 45 46 47 48 _ := ⟨(a3.1.kept (σ' := kst (kst σ3 44 (kup (σ3 44) 7 (kor (q2 201) (q2 195)))) 44 (kup (kst σ3 44 (kup (σ3 44) 7 (kor (q2 201) (q2 195))) 44) 9 (w32 (q2 202 + 1)))) (kst_ne (by decide)) (kst_ne (by decide)) (kst_ne (by decide)) (kst_ne (by decide))).other (by omega), RT43.t a3.2 (i := 9) (j := 202) (by decide) _⟩
      rw [kst_eq] at a4
      exact ⟨_, rfl, a4, f3.put (by decide)⟩
    · rw [if_neg hz, if_neg hz]
      have a4 : RS N M tp L _ 31 44 45 46 47 48 _ := ⟨(a3.1.kept (σ' := kst (kst σ3 44 (kup (σ3 44) 7 (kor (q2 201) (q2 195)))) 44 (kup (kst σ3 44 (kup (σ3 44) 7 (kor (q2 201) (q2 195))) 44) 9 (w32 (q2 202 + 0)))) (kst_ne (by decide)) (kst_ne (by decide)) (kst_ne (by decide)) (kst_ne (by decide))).other (by omega), RT43.t a3.2 (i := 9) (j := 202) (by decide) _⟩
      rw [kst_eq] at a4
      exact ⟨_, rfl, a4, f3.put (by decide)⟩
end CS43
section CS64
variable {N M tp : Int} {L : Nat → Int} {PH PF PB : List Int} {σ : kM} {q : Nat → Int}
abbrev fr64 (σ σ' : kM) : Prop := frS 59 65 66 67 68 69 70 σ σ'
theorem RT64.a (h : RT σ 65 66 67 68 69 q) {w : Int} (h0 : 0 ≤ w) (h4 : w < 4) (v : Int) : RT (kst σ 66 (kup (σ 66) w.toNat v)) 65 66 67 68 69 (kup q (145 + w).toNat v) := by
  obtain ⟨h1, h2, h3, h4, h5, h6, h7, h8⟩ := h
  refine ⟨fun k hk => ?_, fun k hk => ?_, ?_, ?_, ?_, ?_, ?_, ?_⟩
  · have a := h1 k hk
    simp (disch := decide) only [kst_eq, kst_ne]
    rw [kup_ne (show 149 + k ≠ _ by omega), kup_ne (show 153 + k ≠ _ by omega), kup_ap, kup_ap]
    refine ⟨?_, a.2.1, a.2.2⟩
    by_cases e : k = w.toNat
    · rw [if_pos e, if_pos (by omega)]
    · rw [if_neg e, if_neg (by omega)]
      exact a.1
  · simp (disch := decide) only [kst_eq, kst_ne]
    rw [kup_ne (by omega)]
    exact h2 k hk
  all_goals simp (disch := decide) only [kst_eq, kst_ne]; rw [kup_ne (by omega)]; assumption
theorem RT64.b (h : RT σ 65 66 67 68 69 q) {w : Int} (h0 : 0 ≤ w) (h4 : w < 4) (v : Int) : RT (kst σ 67 (kup (σ 67) w.toNat v)) 65 66 67 68 69 (kup q (149 + w).toNat v) := by
  obtain ⟨h1, h2, h3, h4, h5, h6, h7, h8⟩ := h
  refine ⟨fun k hk => ?_, fun k hk => ?_, ?_, ?_, ?_, ?_, ?_, ?_⟩
  · have a := h1 k hk
    simp (disch := decide) only [kst_eq, kst_ne]
    rw [kup_ne (show 145 + k ≠ _ by omega), kup_ne (show 153 + k ≠ _ by omega), kup_ap, kup_ap]
    refine ⟨a.1, ?_, a.2.2⟩
    by_cases e : k = w.toNat
    · rw [if_pos e, if_pos (by omega)]
    · rw [if_neg e, if_neg (by omega)]
      exact a.2.1
  · simp (disch := decide) only [kst_eq, kst_ne]
    rw [kup_ne (by omega)]
    exact h2 k hk
  all_goals simp (disch := decide) only [kst_eq, kst_ne]; rw [kup_ne (by omega)]; assumption
theorem RT64.c (h : RT σ 65 66 67 68 69 q) {w : Int} (h0 : 0 ≤ w) (h4 : w < 4) (v : Int) : RT (kst σ 68 (kup (σ 68) w.toNat v)) 65 66 67 68 69 (kup q (153 + w).toNat v) := by
  obtain ⟨h1, h2, h3, h4, h5, h6, h7, h8⟩ := h
  refine ⟨fun k hk => ?_, fun k hk => ?_, ?_, ?_, ?_, ?_, ?_, ?_⟩
  · have a := h1 k hk
    simp (disch := decide) only [kst_eq, kst_ne]
    rw [kup_ne (show 145 + k ≠ _ by omega), kup_ne (show 149 + k ≠ _ by omega), kup_ap, kup_ap]
    refine ⟨a.1, a.2.1, ?_⟩
    by_cases e : k = w.toNat
    · rw [if_pos e, if_pos (by omega)]
    · rw [if_neg e, if_neg (by omega)]
      exact a.2.2
  · simp (disch := decide) only [kst_eq, kst_ne]
    rw [kup_ne (by omega)]
    exact h2 k hk
  all_goals simp (disch := decide) only [kst_eq, kst_ne]; rw [kup_ne (by omega)]; assumption
theorem RT64.d (h : RT σ 65 66 67 68 69 q) {w : Int} (h0 : 0 ≤ w) (h4 : w < 32) (v : Int) : RT (kst σ 69 (kup (σ 69) w.toNat v)) 65 66 67 68 69 (kup q (161 + w).toNat v) := by
  obtain ⟨h1, h2, h3, h4, h5, h6, h7, h8⟩ := h
  refine ⟨fun k hk => ?_, fun k hk => ?_, ?_, ?_, ?_, ?_, ?_, ?_⟩
  · simp (disch := decide) only [kst_eq, kst_ne]
    rw [kup_ne (show 145 + k ≠ _ by omega), kup_ne (show 149 + k ≠ _ by omega), kup_ne (show 153 + k ≠ _ by omega)]
    exact h1 k hk
  · simp (disch := decide) only [kst_eq, kst_ne]
    rw [kup_ap, kup_ap]
    by_cases e : k = w.toNat
    · rw [if_pos e, if_pos (by omega)]
    · rw [if_neg e, if_neg (by omega)]
      exact h2 k hk
  all_goals simp (disch := decide) only [kst_eq, kst_ne]; rw [kup_ne (by omega)]; assumption
theorem RT64.t (h : RT σ 65 66 67 68 69 q) {i j : Nat} (hij : (i = 4 ∧ j = 193) ∨ (i = 8 ∧ j = 194) ∨ (i = 6 ∧ j = 195) ∨ (i = 7 ∧ j = 201) ∨ (i = 9 ∧ j = 202) ∨ (i = 5 ∧ j = 203)) (v : Int) : RT (kst σ 65 (kup (σ 65) i v)) 65 66 67 68 69 (kup q j v) := by
  obtain ⟨h1, h2, h3, h4, h5, h6, h7, h8⟩ := h
  refine ⟨fun k hk => ?_, fun k hk => ?_, ?_, ?_, ?_, ?_, ?_, ?_⟩
  · simp (disch := decide) only [kst_eq, kst_ne]
    rw [kup_ne (show 145 + k ≠ _ by omega), kup_ne (show 149 + k ≠ _ by omega), kup_ne (show 153 + k ≠ _ by omega)]
    exact h1 k hk
  · simp (disch := decide) only [kst_eq, kst_ne]
    rw [kup_ne (by omega)]
    exact h2 k hk
  all_goals rcases hij with ⟨rfl, rfl⟩ | ⟨rfl, rfl⟩ | ⟨rfl, rfl⟩ | ⟨rfl, rfl⟩ | ⟨rfl, rfl⟩ | ⟨rfl, rfl⟩ <;> simp (disch := decide) only [kst_eq, kup_eq, kup_ne] <;> assumption
theorem RS64.put (h : RS N M tp L σ 59 65 66 67 68 69 q) {i j : Nat} (v : Int) (hij : (i < 17 ∧ j = i) ∨ (17 ≤ i ∧ i < 29 ∧ j = i + 32) ∨ (29 ≤ i ∧ i < 61 ∧ j = i - 12) ∨ (89 ≤ i ∧ i < 113 ∧ j = i - 28)) : RS N M tp L (kst σ 59 (kup (σ 59) j v)) 59 65 66 67 68 69 (kup q i v) :=
  ⟨h.1.set (by decide) v hij, (h.2.kept (kst_ne (by decide)) (kst_ne (by decide)) (kst_ne (by decide)) (kst_ne (by decide)) (kst_ne (by decide))).other (by omega)⟩
theorem RS64.scr {σ' : kM} (h : RS N M tp L σ 59 65 66 67 68 69 q) (hs : scr 70 σ σ') : RS N M tp L σ' 59 65 66 67 68 69 q :=
  ⟨h.1.kept (hs _ (by decide) (by decide)) (hs _ (by decide) (by decide)) (hs _ (by decide) (by decide)) (hs _ (by decide) (by decide)), h.2.kept (hs _ (by decide) (by decide)) (hs _ (by decide) (by decide)) (hs _ (by decide) (by decide)) (hs _ (by decide) (by decide)) (hs _ (by decide) (by decide))⟩
theorem EC64.fr {σ' : kM} (h : EC N M tp L PH PF PB σ) (hs : fr64 σ σ') : EC N M tp L PH PF PB σ' := by
  refine h.kept ?_ ?_ ?_ ?_ ?_ <;> exact hs _ (by decide) (by decide) (by decide) (by decide) (by decide) (by decide) (by decide) (by decide)
theorem cs_sv64 (hR : RCr N M tp L σ 59 q) {w p v : Int} (hw0 : 0 ≤ w) (hw : w < 4) (hp0 : 0 ≤ p) (hp : p < 8) : pf_Stage_setValues_64 σ w p v = some (kst σ 70 (kup (kup (kup (kup (σ 70) 0 (q (9 + p).toNat)) 1 v) 2 (q (29 + 8 * w + p).toNat)) 3 (q 0))) := by
  unfold pf_Stage_setValues_64 pf_World_hitsBy_58
  simp (disch := omega) only [w32_s, kchk_t, klet, Option.bind, kst_eq, kst_ne, kst_st, Int.reduceToNat]
  rw [hR.scars hp0 hp, hR.hits hw0 hw hp0 hp, hR.year]
theorem cs_tr64 (hR : RCr N M tp L σ 59 q) (hN : EN N M tp L PH PF PB) {p t : Int} (hp0 : 0 ≤ p) (hp : p < N) (ht0 : 0 ≤ t) (ht : t < tp) : pf_Law_truthOf_3 σ p t = some (q (113 + 4 * p + t).toNat) := by
  obtain ⟨n1, n2, n3, n4, n5, n6, n7⟩ := hN
  unfold pf_Law_truthOf_3
  simp (disch := omega) only [w32_s, kchk_t]
  rw [hR.truth hp0 hp n1.2 ht0 ht n3.2]
theorem cs_to64 (hR : RCr N M tp L σ 59 q) (hN : EN N M tp L PH PF PB) {w l : Int} (hw0 : 0 ≤ w) (hw : w < M) (hl0 : 0 ≤ l) (hl : l < L w.toNat) : pf_Law_topicOf_3 σ w l = some (q (65 + 6 * w + l).toNat) := by
  obtain ⟨n1, n2, n3, n4, n5, n6, n7⟩ := hN
  have hL := n4 w hw0 hw
  unfold pf_Law_topicOf_3
  simp (disch := omega) only [w32_s, kchk_t]
  rw [hR.topic hw0 hw n2.2 hl0 hl hL.2]
theorem cs_rh64 {w l : Int} (hR : RCr N M tp L σ 59 q) (hN : EN N M tp L PH PF PB) (h4 : σ 4 w.toNat = L w.toNat) (hw0 : 0 ≤ w) (hw : w < M) (hl0 : 0 ≤ l) (hl : l < L w.toNat) : pf_Law_rhymes_3 σ w l = some (sp_rh L q w l) := by
  have hL := hN.2.2.2.1 w hw0 hw
  have hM := hN.2.1
  unfold pf_Law_rhymes_3 pf_Law_rhymes_3_j22 sp_rh
  by_cases h : l = 0
  · subst h
    rw [if_pos (by omega), kchk_t (by omega), h4, w32_s (by omega) (by omega), Int.max_eq_left (by omega), cs_to64 hR hN hw0 hw (by omega) (by omega), if_pos rfl]
    simp only [Option.bind]
    rw [cs_to64 hR hN hw0 hw (l := L w.toNat - 1) (by omega) (by omega)]
    simp only [Option.bind]
    split <;> rfl
  · rw [if_neg (by omega), w32_s (by omega) (by omega), cs_to64 hR hN hw0 hw hl0 hl, if_neg h]
    simp only [Option.bind]
    rw [cs_to64 hR hN hw0 hw (l := l - 1) (by omega) (by omega)]
    simp only [Option.bind]
    split <;> rfl
theorem cs_in64 (hE : EC N M tp L PH PF PB σ) (hN : EN N M tp L PH PF PB) (hR : RCr N M tp L σ 59 q) {w p t d : Int} (hw0 : 0 ≤ w) (hw : w < M) (hp0 : 0 ≤ p) (hp : p < N) (ht0 : 0 ≤ t) (ht : t < tp) : ∃ σ', pf_Stage_inchesInto_64 σ w p t d = some (sp_in PH q w p t d, σ') ∧ scr 70 σ σ' := by
  obtain ⟨e1, e2, e3, e4, e5, e6, e7⟩ := hE
  have htr := cs_tr64 hR hN hp0 hp ht0 ht
  obtain ⟨n1, n2, n3, n4, n5, n6, n7⟩ := hN
  unfold pf_Stage_inchesInto_64
  rw [htr]
  simp only [Option.bind]
  rw [rv_has (r := 0) (by omega) e5]
  simp only [Option.bind]
  unfold sp_in
  by_cases hP : PH = []
  · refine ⟨σ, ?_, scr.rfl⟩
    rw [if_pos hP, if_pos hP, if_pos rfl]
  · rw [if_neg hP, if_neg (by decide), w32_s (by omega) (by omega), kchk_t (by omega), hR.pence hw0 (by omega), cs_sv64 hR hw0 (by omega) hp0 (by omega), if_neg hP]
    simp only [Option.bind, klet, Int.reduceToNat, kst_eq, kst_st]
    obtain ⟨hok, hal⟩ := n5.resolve_left hP
    obtain ⟨g, hg⟩ := rv_C70 (σ := kst σ 70 (kup (kup (kup (kup (kup (kup (σ 70) 0 (q (9 + p).toNat)) 1 (q (17 + w).toNat)) 2 (q (29 + 8 * w + p).toNat)) 3 (q 0)) 4 d) 5 (q (113 + 4 * p + t).toNat))) (r := 0) (e := sp_tv q w p (q (17 + w).toNat) d (q (113 + 4 * p + t).toNat) 0 0) (by omega) (e5.kept (kst_ne (by decide)) (kst_ne (by decide)) (kst_ne (by decide))) hok (fun c hc h1 h2 => by
      have h3 : -6 ≤ c := hal c hc h1 h2
      rw [kst_eq]
      have h4 : c = -1 ∨ c = -2 ∨ c = -3 ∨ c = -4 ∨ c = -5 ∨ c = -6 := by omega
      rcases h4 with rfl | rfl | rfl | rfl | rfl | rfl <;> rfl)
    rw [hg]
    refine ⟨kst (kst σ 70 (kup (kup (kup (kup (kup (kup (σ 70) 0 (q (9 + p).toNat)) 1 (q (17 + w).toNat)) 2 (q (29 + 8 * w + p).toNat)) 3 (q 0)) 4 d) 5 (q (113 + 4 * p + t).toNat))) 11 g, ?_, ?_⟩
    rotate_left
    · exact fun c h1 h2 => by
        rw [kst_ne h2, kst_ne h1]
    · show (pf_Stage_within _ _ 9).bind _ = _
      unfold pf_Stage_within rv_cl
      split
      · split <;> rfl
      · rfl
theorem cs_fi64 (hE : EC N M tp L PH PF PB σ) (hN : EN N M tp L PH PF PB) (hR : RCr N M tp L σ 59 q) {w p l i : Int} (hw0 : 0 ≤ w) (hw : w < M) (hp0 : 0 ≤ p) (hp : p < N) (hl0 : 0 ≤ l) (hl : l < L w.toNat) : ∃ σ', pf_Stage_fineFor_64 σ w p l i = some (sp_fi PF L q w p l i, σ') ∧ scr 70 σ σ' := by
  obtain ⟨e1, e2, e3, e4, e5, e6, e7⟩ := hE
  have hrh := fun (f : Nat → Int) => cs_rh64 (σ := kst σ 70 f) (q := q) (w := w) (l := l) (hR.kept (kst_ne (by decide)) (kst_ne (by decide)) (kst_ne (by decide)) (kst_ne (by decide))) hN (by rw [kst_ne (by decide)]; exact e4 w hw0 hw) hw0 hw hl0 hl
  obtain ⟨n1, n2, n3, n4, n5, n6, n7⟩ := hN
  unfold pf_Stage_fineFor_64
  rw [rv_has (r := 1) (by omega) e6]
  simp only [Option.bind]
  unfold sp_fi
  by_cases hP : PF = []
  · refine ⟨σ, ?_, scr.rfl⟩
    rw [if_pos hP, if_pos hP, if_pos rfl]
  · rw [if_neg hP, if_neg (by decide), w32_s (by omega) (by omega), kchk_t (by omega), hR.pence hw0 (by omega), cs_sv64 hR hw0 (by omega) hp0 (by omega), if_neg hP]
    simp only [Option.bind, klet, Int.reduceToNat, kst_eq, kst_st]
    rw [hrh]
    simp only [Option.bind, kst_eq, kst_st]
    obtain ⟨hok, hal⟩ := n6.resolve_left hP
    obtain ⟨g, hg⟩ := rv_C70 (σ := kst σ 70 (kup (kup (kup (kup (kup (kup (σ 70) 0 (q (9 + p).toNat)) 1 (q (17 + w).toNat)) 2 (q (29 + 8 * w + p).toNat)) 3 (q 0)) 6 i) 7 (sp_rh L q w l))) (r := 1) (e := sp_tv q w p (q (17 + w).toNat) 0 0 i (sp_rh L q w l)) (by omega) (e6.kept (kst_ne (by decide)) (kst_ne (by decide)) (kst_ne (by decide))) hok (fun c hc h1 h2 => by
      have h3 : -4 ≤ c ∨ c ≤ -7 := hal c hc h1 h2
      rw [kst_eq]
      have h4 : c = -1 ∨ c = -2 ∨ c = -3 ∨ c = -4 ∨ c = -7 ∨ c = -8 := by omega
      rcases h4 with rfl | rfl | rfl | rfl | rfl | rfl <;> rfl)
    rw [hg]
    refine ⟨kst (kst σ 70 (kup (kup (kup (kup (kup (kup (σ 70) 0 (q (9 + p).toNat)) 1 (q (17 + w).toNat)) 2 (q (29 + 8 * w + p).toNat)) 3 (q 0)) 6 i) 7 (sp_rh L q w l))) 11 g, ?_, ?_⟩
    rotate_left
    · exact fun c h1 h2 => by
        rw [kst_ne h2, kst_ne h1]
    · show (pf_Stage_within _ _ 20).bind _ = _
      unfold pf_Stage_within rv_cl
      split
      · split <;> rfl
      · rfl
theorem cs_bu64 (hE : EC N M tp L PH PF PB σ) (hN : EN N M tp L PH PF PB) (hR : RCr N M tp L σ 59 q) {w p : Int} (hw0 : 0 ≤ w) (hw : w < M) (hp0 : 0 ≤ p) (hp : p < N) : ∃ σ', pf_Stage_wouldBuy_64 σ w p = some (if sp_bv PB q w p ≤ 0 then 0 else 1, σ') ∧ scr 70 σ σ' := by
  obtain ⟨e1, e2, e3, e4, e5, e6, e7⟩ := hE
  obtain ⟨n1, n2, n3, n4, n5, n6, n7⟩ := hN
  unfold pf_Stage_wouldBuy_64
  rw [rv_has (r := 2) (by omega) e7]
  simp only [Option.bind]
  unfold sp_bv
  by_cases hP : PB = []
  · refine ⟨σ, ?_, scr.rfl⟩
    rw [if_pos hP, if_pos hP, if_pos rfl, if_neg (by decide)]
  · rw [if_neg hP, if_neg (by decide), w32_s (by omega) (by omega), kchk_t (by omega), hR.money hp0 (by omega), cs_sv64 hR hw0 (by omega) hp0 (by omega), if_neg hP]
    simp only [Option.bind]
    obtain ⟨hok, hal⟩ := n7.resolve_left hP
    obtain ⟨g, hg⟩ := rv_C70 (σ := kst σ 70 (kup (kup (kup (kup (σ 70) 0 (q (9 + p).toNat)) 1 (q (1 + p).toNat)) 2 (q (29 + 8 * w + p).toNat)) 3 (q 0))) (r := 2) (e := sp_tv q w p (q (1 + p).toNat) 0 0 0 0) (by omega) (e7.kept (kst_ne (by decide)) (kst_ne (by decide)) (kst_ne (by decide))) hok (fun c hc h1 h2 => by
      have h3 : -4 ≤ c := hal c hc h1 h2
      rw [kst_eq]
      have h4 : c = -1 ∨ c = -2 ∨ c = -3 ∨ c = -4 := by omega
      rcases h4 with rfl | rfl | rfl | rfl <;> rfl)
    rw [hg]
    refine ⟨kst (kst σ 70 (kup (kup (kup (kup (σ 70) 0 (q (9 + p).toNat)) 1 (q (1 + p).toNat)) 2 (q (29 + 8 * w + p).toNat)) 3 (q 0))) 11 g, ?_, ?_⟩
    rotate_left
    · exact fun c h1 h2 => by
        rw [kst_ne h2, kst_ne h1]
    · show (if _ ≤ (0 : Int) then some ((0 : Int), _) else some (1, _)) = _
      split <;> rfl
theorem cs_sell64 (hE : EC N M tp L PH PF PB σ) (hN : EN N M tp L PH PF PB) (hR : RS N M tp L σ 59 65 66 67 68 69 q) {w p : Int} (hw0 : 0 ≤ w) (hw : w < M) (hp0 : 0 ≤ p) (hp : p < N) :
    kOk (pf_Stage_sellVolumes_64_l10 σ w p) (fun o => ∃ σ', o = .inl (σ', p + 1) ∧ RS N M tp L σ' 59 65 66 67 68 69 (sp_sell PB w p q) ∧ fr64 σ σ') := by
  have hn1 := hN.1
  have hn2 := hN.2.1
  unfold pf_Stage_sellVolumes_64_l10
  rw [hE.2.1, if_neg (by omega), w32_s (v := 1 + p) (by omega) (by omega), kchk_t (by omega), hR.1.money hp0 (by omega)]
  unfold pf_Stage_sellVolumes_64_l10_j82 sp_sell
  by_cases h1 : q (1 + p).toNat ≤ 0
  · rw [if_pos h1, if_pos h1]
    exact ⟨_, rfl, σ, by rw [w32_s (by omega) (by omega)], hR, frS.rfl⟩
  rw [if_neg h1, if_neg h1]
  obtain ⟨σ1, hb, hs⟩ := cs_bu64 hE hN hR.1 hw0 hw hp0 hp
  rw [hb]
  have hR1 := RS64.scr hR hs
  have hF1 : fr64 σ σ1 := hs.fr
  simp only [Option.bind]
  by_cases h2 : sp_bv PB q w p ≤ 0
  · rw [if_pos h2, if_pos h2, if_pos rfl]
    exact ⟨_, rfl, σ1, by rw [w32_s (by omega) (by omega)], hR1, hF1⟩
  rw [if_neg h2, if_neg h2, if_neg (by decide)]
  simp only [klet]
  rw [kchk_t (by omega), kchk_t (by omega), hR1.1.money hp0 (by omega), w32_s (v := 49 + w) (by omega) (by omega), kchk_t (by omega)]
  have hR2 : RS N M tp L (kst σ1 59 (kup (σ1 59) (1 + p).toNat (w32 (q (1 + p).toNat - 1)))) 59 65 66 67 68 69 (kup q (1 + p).toNat (w32 (q (1 + p).toNat - 1))) :=
    ⟨hR1.1.set (by decide) _ (by omega), (hR1.2.kept (kst_ne (by decide)) (kst_ne (by decide)) (kst_ne (by decide)) (kst_ne (by decide)) (kst_ne (by decide))).other (by omega)⟩
  have hF2 : fr64 σ (kst σ1 59 (kup (σ1 59) (1 + p).toNat (w32 (q (1 + p).toNat - 1)))) := hF1.put (by decide)
  generalize kst σ1 59 (kup (σ1 59) (1 + p).toNat (w32 (q (1 + p).toNat - 1))) = σ2 at hR2 hF2
  generalize kup q (1 + p).toNat (w32 (q (1 + p).toNat - 1)) = q2 at hR2
  rw [hR2.1.pence hw0 (by omega)]
  unfold sp_s2
  by_cases h3 : 999 ≤ q2 (17 + w).toNat
  · rw [if_pos h3, if_pos h3]
    exact ⟨_, rfl, σ2, by rw [w32_s (by omega) (by omega)], hR2, hF2⟩
  rw [if_neg h3, if_neg h3, kchk_t (by omega), kchk_t (by omega), kchk_t (by omega), kchk_t (by omega), kst_ne (show (67 : Nat) ≠ 59 by decide)]
  have hb : σ2 67 w.toNat = q2 (149 + w).toNat := by
    have := (hR2.2.1 w.toNat (by omega)).2.1
    rw [this]
    congr 1
    omega
  rw [hb]
  refine ⟨_, rfl, _, by rw [w32_s (v := p + 1) (by omega) (by omega)], ⟨?_, ?_⟩, ?_⟩
  · exact ((hR2.1.set (by decide) _ (by omega)).kept (kst_ne (by decide)) (kst_ne (by decide)) (kst_ne (by decide)) (kst_ne (by decide))).other (by omega)
  · have h5 : RT (kst σ2 59 (kup (σ2 59) (49 + w).toNat (w32 (q2 (17 + w).toNat + 1)))) 65 66 67 68 69 (kup q2 (17 + w).toNat (w32 (q2 (17 + w).toNat + 1))) := (hR2.2.kept (kst_ne (by decide)) (kst_ne (by decide)) (kst_ne (by decide)) (kst_ne (by decide)) (kst_ne (by decide))).other (by omega)
    have h6 := RT64.b h5 hw0 (by omega) (w32 (q2 (149 + w).toNat + 1))
    rw [kst_ne (show (67 : Nat) ≠ 59 by decide)] at h6
    exact h6
  · exact (hF2.put (by decide)).put (by decide)
theorem cs_sells64 (hE : EC N M tp L PH PF PB σ) (hN : EN N M tp L PH PF PB) (hR : RS N M tp L σ 59 65 66 67 68 69 q) {w : Int} (hw0 : 0 ≤ w) (hw : w < M) :
    kOk (pf_Stage_sellVolumes_64 σ w) (fun σ' => RS N M tp L σ' 59 65 66 67 68 69 (sp_sells N PB w q) ∧ fr64 σ σ') := by
  have hn1 := hN.1
  unfold pf_Stage_sellVolumes_64
  refine kOk.then (kOk_for N.toNat (fun i st => st.2 = (i : Int) ∧ RS N M tp L st.1 59 65 66 67 68 69 (kit (fun i q => sp_sell PB w (i : Int) q) i q) ∧ fr64 σ st.1) ?_ ?_ (kFuel_lt (by omega)) _ ⟨rfl, hR, frS.rfl⟩) (fun a h => kOk_some.mpr h)
  · intro i st hi hI
    obtain ⟨σ1, x⟩ := st
    obtain ⟨rfl, h1, h2⟩ := hI
    refine (cs_sell64 (EC64.fr hE h2) hN h1 hw0 hw (p := (i : Int)) (by omega) (by omega)).mono ?_
    rintro o ⟨σ2, rfl, h3, h4⟩
    exact ⟨by simp, h3, h2.trans h4⟩
  · intro st hI
    obtain ⟨σ1, x⟩ := st
    obtain ⟨rfl, h1, h2⟩ := hI
    have h3 : EC N M tp L PH PF PB σ1 := EC64.fr hE h2
    refine ⟨.inr σ1, ?_, h1, h2⟩
    show pf_Stage_sellVolumes_64_l10 σ1 w ((N.toNat : Nat) : Int) = _
    unfold pf_Stage_sellVolumes_64_l10
    rw [h3.2.1, if_pos (by omega)]
theorem cs_hit64 (hE : EC N M tp L PH PF PB σ) (hN : EN N M tp L PH PF PB) (hR : RS N M tp L σ 59 65 66 67 68 69 q) {w p l t d lk : Int} (hw0 : 0 ≤ w) (hw : w < M) (hp0 : 0 ≤ p) (hp : p < N) (hl0 : 0 ≤ l) (hl : l < L w.toNat) (ht0 : 0 ≤ t) (ht : t < tp) :
    kOk (pf_Stage_readNext_64_l50 σ w l t d lk p) (fun o => ∃ σ', o = .inl (σ', (sp_hit PH PF L w l t d p (q, lk)).2, p + 1) ∧ RS N M tp L σ' 59 65 66 67 68 69 (sp_hit PH PF L w l t d p (q, lk)).1 ∧ fr64 σ σ') := by
  have hn1 := hN.1
  have hn2 := hN.2.1
  unfold pf_Stage_readNext_64_l50
  rw [hE.2.1, if_neg (by omega)]
  obtain ⟨σ1, hb, hs⟩ := cs_in64 (d := d) hE hN hR.1 hw0 hw hp0 hp ht0 ht
  rw [hb]
  have hR1 := RS64.scr hR hs
  have hF1 : fr64 σ σ1 := hs.fr
  simp only [Option.bind]
  unfold pf_Stage_readNext_64_l50_j120 sp_hit
  by_cases h1 : sp_in PH q w p t d ≤ 0
  · rw [if_pos h1, if_pos h1]
    exact ⟨_, rfl, σ1, by rw [w32_s (by omega) (by omega)], hR1, hF1⟩
  rw [if_neg h1, if_neg h1]
  generalize hii : sp_in PH q w p t d = ii at h1
  obtain ⟨σ2, hb2, hs2⟩ := cs_fi64 (i := ii) (EC64.fr hE hF1) hN hR1.1 hw0 hw hp0 hp hl0 hl
  rw [hb2]
  have hR2 := RS64.scr hR1 hs2
  have hF2 : fr64 σ σ2 := hF1.trans hs2.fr
  simp only [Option.bind]
  generalize hff : sp_fi PF L q w p l ii = ff
  unfold pf_Stage_payFine_64
  simp only [klet]
  rw [w32_s (v := 49 + w) (by omega) (by omega), kchk_t (by omega), kchk_t (by omega), kchk_t (by omega), w32_s (v := 1 + p) (by omega) (by omega), kchk_t (by omega), kchk_t (by omega), kchk_t (by omega), kchk_t (by omega), hR2.1.pence hw0 (by omega)]
  generalize hyy : min ff (q (17 + w).toNat) = yy
  have a1 : RS N M tp L (kst σ2 59 (kup (σ2 59) (49 + w).toNat (w32 (q (17 + w).toNat - yy)))) 59 65 66 67 68 69 (kup q (17 + w).toNat (w32 (q (17 + w).toNat - yy))) :=
    ⟨hR2.1.set (by decide) _ (by omega), (hR2.2.kept (kst_ne (by decide)) (kst_ne (by decide)) (kst_ne (by decide)) (kst_ne (by decide)) (kst_ne (by decide))).other (by omega)⟩
  have f1 : fr64 σ (kst σ2 59 (kup (σ2 59) (49 + w).toNat (w32 (q (17 + w).toNat - yy)))) := hF2.put (by decide)
  generalize kst σ2 59 (kup (σ2 59) (49 + w).toNat (w32 (q (17 + w).toNat - yy))) = σ3 at a1 f1
  rw [a1.1.money hp0 (by omega), kup_ne (show (1 + p).toNat ≠ (17 + w).toNat by omega)]
  have a2 : RS N M tp L (kst σ3 59 (kup (σ3 59) (1 + p).toNat (min (w32 (q (1 + p).toNat + yy)) 999))) 59 65 66 67 68 69 _ :=
    ⟨a1.1.set (by decide) (i := (1 + p).toNat) _ (by omega), (a1.2.kept (kst_ne (by decide)) (kst_ne (by decide)) (kst_ne (by decide)) (kst_ne (by decide)) (kst_ne (by decide))).other (by omega)⟩
  have f2 : fr64 σ (kst σ3 59 (kup (σ3 59) (1 + p).toNat (min (w32 (q (1 + p).toNat + yy)) 999))) := f1.put (by decide)
  generalize kst σ3 59 (kup (σ3 59) (1 + p).toNat (min (w32 (q (1 + p).toNat + yy)) 999)) = σ4 at a2 f2
  have g1 : σ4 66 w.toNat = q (145 + w).toNat := by
    have := (a2.2.1 w.toNat (by omega)).1
    rw [this, kup_ne (by omega), kup_ne (by omega)]
    congr 1
    omega
  rw [g1]
  have a3 : RS N M tp L (kst σ4 66 (kup (σ4 66) w.toNat (w32 (q (145 + w).toNat + yy)))) 59 65 66 67 68 69 _ :=
    ⟨(a2.1.kept (kst_ne (by decide)) (kst_ne (by decide)) (kst_ne (by decide)) (kst_ne (by decide))).other (j := (145 + w).toNat) (by omega), RT64.a a2.2 hw0 (by omega) _⟩
  have f3 : fr64 σ (kst σ4 66 (kup (σ4 66) w.toNat (w32 (q (145 + w).toNat + yy)))) := f2.put (by decide)
  generalize kst σ4 66 (kup (σ4 66) w.toNat (w32 (q (145 + w).toNat + yy))) = σ5 at a3 f3
  unfold pf_Stage_leaveScars_64 pf_Tally_addHit_65
  simp only [klet]
  rw [w32_s (v := 9 + p) (by omega) (by omega), kchk_t (by omega), kchk_t (by omega), w32_s (v := w * 8) (by omega) (by omega), w32_s (v := 17 + w * 8) (by omega) (by omega), w32_s (v := 17 + w * 8 + p) (by omega) (by omega), kchk_t (by omega), kchk_t (by omega), w32_s (v := w * 8 + p) (by omega) (by omega), kchk_t (by omega), kchk_t (by omega)]
  rw [a3.1.scars hp0 (by omega), kup_ne (show (9 + p).toNat ≠ (145 + w).toNat by omega), kup_ne (show (9 + p).toNat ≠ (1 + p).toNat by omega), kup_ne (show (9 + p).toNat ≠ (17 + w).toNat by omega)]
  have a4 : RS N M tp L (kst σ5 59 (kup (σ5 59) (9 + p).toNat (min (w32 (q (9 + p).toNat + ii)) 99))) 59 65 66 67 68 69 _ :=
    ⟨a3.1.set (by decide) (i := (9 + p).toNat) _ (by omega), (a3.2.kept (kst_ne (by decide)) (kst_ne (by decide)) (kst_ne (by decide)) (kst_ne (by decide)) (kst_ne (by decide))).other (by omega)⟩
  have f4 : fr64 σ (kst σ5 59 (kup (σ5 59) (9 + p).toNat (min (w32 (q (9 + p).toNat + ii)) 99))) := f3.put (by decide)
  generalize kst σ5 59 (kup (σ5 59) (9 + p).toNat (min (w32 (q (9 + p).toNat + ii)) 99)) = σ6 at a4 f4
  rw [a4.1.hits hw0 (by omega) hp0 (by omega), kup_ne (show (29 + 8 * w + p).toNat ≠ (9 + p).toNat by omega), kup_ne (show (29 + 8 * w + p).toNat ≠ (145 + w).toNat by omega), kup_ne (show (29 + 8 * w + p).toNat ≠ (1 + p).toNat by omega), kup_ne (show (29 + 8 * w + p).toNat ≠ (17 + w).toNat by omega)]
  have a5 : RS N M tp L (kst σ6 59 (kup (σ6 59) (17 + w * 8 + p).toNat (w32 (q (29 + 8 * w + p).toNat + 1)))) 59 65 66 67 68 69 _ :=
    ⟨a4.1.set (by decide) (i := (29 + 8 * w + p).toNat) _ (by omega), (a4.2.kept (kst_ne (by decide)) (kst_ne (by decide)) (kst_ne (by decide)) (kst_ne (by decide)) (kst_ne (by decide))).other (by omega)⟩
  have f5 : fr64 σ (kst σ6 59 (kup (σ6 59) (17 + w * 8 + p).toNat (w32 (q (29 + 8 * w + p).toNat + 1)))) := f4.put (by decide)
  generalize kst σ6 59 (kup (σ6 59) (17 + w * 8 + p).toNat (w32 (q (29 + 8 * w + p).toNat + 1))) = σ7 at a5 f5
  have g2 : σ7 69 (w * 8 + p).toNat = q (161 + 8 * w + p).toNat := by
    have := a5.2.2.1 (w * 8 + p).toNat (by omega)
    rw [this]
    simp (disch := omega) only [kup_ne]
    congr 1
    omega
  rw [g2]
  have a6 : RS N M tp L (kst σ7 69 (kup (σ7 69) (w * 8 + p).toNat (w32 (q (161 + 8 * w + p).toNat + ii)))) 59 65 66 67 68 69 _ :=
    ⟨(a5.1.kept (kst_ne (by decide)) (kst_ne (by decide)) (kst_ne (by decide)) (kst_ne (by decide))).other (j := (161 + (w * 8 + p)).toNat) (by omega), RT64.d a5.2 (by omega) (by omega) _⟩
  have f6 : fr64 σ (kst σ7 69 (kup (σ7 69) (w * 8 + p).toNat (w32 (q (161 + 8 * w + p).toNat + ii)))) := f5.put (by decide)
  generalize kst σ7 69 (kup (σ7 69) (w * 8 + p).toNat (w32 (q (161 + 8 * w + p).toNat + ii))) = σ8 at a6 f6
  rw [show (161 + (w * 8 + p)).toNat = (161 + 8 * w + p).toNat by omega] at a6
  have g3 : σ8 65 4 = q 193 := by
    rw [a6.2.2.2.1]
    simp (disch := omega) only [kup_ne]
  rw [g3]
  have a7 : RS N M tp L (kst σ8 65 (kup (σ8 65) 4 (w32 (q 193 + ii)))) 59 65 66 67 68 69 _ :=
    ⟨(a6.1.kept (kst_ne (by decide)) (kst_ne (by decide)) (kst_ne (by decide)) (kst_ne (by decide))).other (j := 193) (by omega), RT64.t a6.2 (by decide) _⟩
  have f7 : fr64 σ (kst σ8 65 (kup (σ8 65) 4 (w32 (q 193 + ii)))) := f6.put (by decide)
  generalize kst σ8 65 (kup (σ8 65) 4 (w32 (q 193 + ii))) = σ9 at a7 f7
  have g4 : σ9 65 5 = q 203 := by
    rw [a7.2.2.2.2.2.2.2.2]
    simp (disch := omega) only [kup_ne]
  rw [g4]
  have a8 : RS N M tp L (kst σ9 65 (kup (σ9 65) 5 (w32 (q 203 + 1)))) 59 65 66 67 68 69 _ :=
    ⟨(a7.1.kept (kst_ne (by decide)) (kst_ne (by decide)) (kst_ne (by decide)) (kst_ne (by decide))).other (j := 203) (by omega), RT64.t a7.2 (by decide) _⟩
  have f8 : fr64 σ (kst σ9 65 (kup (σ9 65) 5 (w32 (q 203 + 1)))) := f7.put (by decide)
  generalize kst σ9 65 (kup (σ9 65) 5 (w32 (q 203 + 1))) = σ10 at a8 f8
  have g5 : σ10 65 6 = q 195 := by
    rw [a8.2.2.2.2.2.1]
    simp (disch := omega) only [kup_ne]
  rw [g5]
  have a9 : RS N M tp L (kst σ10 65 (kup (σ10 65) 6 (kor (q 195) (kshl 1 p)))) 59 65 66 67 68 69 _ :=
    ⟨(a8.1.kept (kst_ne (by decide)) (kst_ne (by decide)) (kst_ne (by decide)) (kst_ne (by decide))).other (j := 195) (by omega), RT64.t a8.2 (by decide) _⟩
  have f9 : fr64 σ (kst σ10 65 (kup (σ10 65) 6 (kor (q 195) (kshl 1 p)))) := f8.put (by decide)
  generalize kst σ10 65 (kup (σ10 65) 6 (kor (q 195) (kshl 1 p))) = σ11 at a9 f9
  have g6 : σ11 65 8 = q 194 := by
    rw [a9.2.2.2.2.1]
    simp (disch := omega) only [kup_ne]
  rw [g6]
  have a10 : RS N M tp L (kst σ11 65 (kup (σ11 65) 8 (max (q 194) ii))) 59 65 66 67 68 69 _ :=
    ⟨(a9.1.kept (kst_ne (by decide)) (kst_ne (by decide)) (kst_ne (by decide)) (kst_ne (by decide))).other (j := 194) (by omega), RT64.t a9.2 (by decide) _⟩
  have f10 : fr64 σ (kst σ11 65 (kup (σ11 65) 8 (max (q 194) ii))) := f9.put (by decide)
  refine ⟨_, rfl, _, by rw [w32_s (v := p + 1) (by omega) (by omega)], ?_, f10⟩
  exact ⟨(a10.1.other (by omega)).other (by omega), (a10.2.other (by omega)).other (by omega)⟩
theorem cs_tp64 (hE : EC N M tp L PH PF PB σ) (hN : EN N M tp L PH PF PB) (hR : RS N M tp L σ 59 65 66 67 68 69 q) {w : Int} (hw0 : 0 ≤ w) (hw : w < M) : pf_Stage_turnPage_64 σ w = some (kst σ 59 (kup (σ 59) (53 + w).toNat (if L w.toNat ≤ w32 (q (21 + w).toNat + 1) then 0 else w32 (q (21 + w).toNat + 1)))) := by
  have hn2 := hN.2.1
  unfold pf_Stage_turnPage_64 pf_Law_behind_3
  rw [w32_s (v := 53 + w) (by omega) (by omega), kchk_t (by omega), kchk_t (by omega), hR.1.next hw0 (by omega), hE.2.2.2.1 w hw0 hw]
  simp only [klet]
  split
  · simp only [Option.bind]
    rw [kchk_t (by omega)]
  · simp only [Option.bind]
    rw [kchk_t (by omega)]
theorem cs_read64 (hE : EC N M tp L PH PF PB σ) (hN : EN N M tp L PH PF PB) (hR : RS N M tp L σ 59 65 66 67 68 69 q) (hI : IV M tp L q) {w acc : Int} (hw0 : 0 ≤ w) (hw : w < M) :
    kOk (pf_Stage_readNext_64 σ w acc) (fun σ' => RS N M tp L σ' 59 65 66 67 68 69 (sp_read N PH PF L acc w q) ∧ fr64 σ σ') := by
  have hn1 := hN.1
  have hn2 := hN.2.1
  have hL := hN.2.2.2.1 w hw0 hw
  have hnx := hI.next hw0 (by omega) hw
  have htp := hI.topic hw0 (by omega) hnx.1 (by omega)
  unfold pf_Stage_readNext_64 sp_read
  rw [w32_s (v := 53 + w) (by omega) (by omega), kchk_t (by omega), hR.1.next hw0 (by omega)]
  simp only [klet]
  generalize hl : q (21 + w).toNat = l at *
  rw [cs_to64 hR.1 hN hw0 hw hnx.1 hnx.2]
  simp only [Option.bind]
  generalize ht : q (65 + 6 * w + l).toNat = t at *
  have key : ∀ d : Int, kOk (pf_Stage_readNext_64_j42 σ w l t d) (fun σ' => RS N M tp L σ' 59 65 66 67 68 69 (sp_rd2 L w l (sp_hits N PH PF L w l t d q)) ∧ fr64 σ σ') := by
    intro d
    unfold pf_Stage_readNext_64_j42
    refine kOk.then (kOk_for (P := fun b => RS N M tp L b.1 59 65 66 67 68 69 (sp_hits N PH PF L w l t d q).1 ∧ b.2 = (sp_hits N PH PF L w l t d q).2 ∧ fr64 σ b.1) N.toNat (fun i st => st.2.2 = (i : Int) ∧ RS N M tp L st.1 59 65 66 67 68 69 (kit (fun i s => sp_hit PH PF L w l t d (i : Int) s) i (q, 0)).1 ∧ st.2.1 = (kit (fun i s => sp_hit PH PF L w l t d (i : Int) s) i (q, 0)).2 ∧ fr64 σ st.1) ?_ ?_ (kFuel_lt (by omega)) _ ⟨rfl, hR, rfl, frS.rfl⟩) ?_
    · intro i st hi hI
      obtain ⟨σ1, lk, x⟩ := st
      obtain ⟨rfl, h1, h3, h2⟩ := hI
      have h3 : lk = _ := h3
      subst h3
      refine (cs_hit64 (d := d) (EC64.fr hE h2) hN h1 hw0 hw (p := (i : Int)) (by omega) (by omega) hnx.1 hnx.2 htp.1 htp.2).mono ?_
      rintro o ⟨σ2, rfl, h3, h4⟩
      exact ⟨by simp, h3, rfl, h2.trans h4⟩
    · intro st hI
      obtain ⟨σ1, lk, x⟩ := st
      obtain ⟨rfl, h1, h3, h2⟩ := hI
      have h5 : EC N M tp L PH PF PB σ1 := EC64.fr hE h2
      refine ⟨.inr (σ1, lk), ?_, h1, h3, h2⟩
      show pf_Stage_readNext_64_l50 σ1 w l t d lk ((N.toNat : Nat) : Int) = _
      unfold pf_Stage_readNext_64_l50
      rw [h5.2.1, if_pos (by omega)]
    · rintro ⟨σ1, lk⟩ ⟨b1, b2, b3⟩
      have h2 : lk = (sp_hits N PH PF L w l t d q).2 := b2
      have h1 : RS N M tp L σ1 59 65 66 67 68 69 (sp_hits N PH PF L w l t d q).1 := b1
      have h3 : fr64 σ σ1 := b3
      clear b1 b2 b3
      show kOk (kchk _ _) _
      have hnx1 : (sp_hits N PH PF L w l t d q).1 (21 + w).toNat = l := by
        rw [← hl]
        exact sp_hits_ne (Or.inr (Or.inl (by omega)))
      generalize sp_hits N PH PF L w l t d q = s at h1 h2 hnx1
      subst h2
      rw [w32_s (v := 57 + w) (by omega) (by omega), kchk_t (by omega)]
      simp only [klet]
      rw [kchk_t (by omega), kchk_t (by omega)]
      have a1 := RS64.put h1 (i := (25 + w).toNat) (j := (57 + w).toNat) (min s.2 9) (by omega)
      have f1 : fr64 σ (kst σ1 59 (kup (σ1 59) (57 + w).toNat (min s.2 9))) := h3.put (by decide)
      generalize kst σ1 59 (kup (σ1 59) (57 + w).toNat (min s.2 9)) = σ2 at a1 f1
      have g1 : σ2 68 w.toNat = s.1 (153 + w).toNat := by
        have := (a1.2.1 w.toNat (by omega)).2.2
        rw [this, kup_ne (by omega), show 153 + w.toNat = (153 + w).toNat by omega]
      rw [g1]
      have a2 : RS N M tp L (kst σ2 68 (kup (σ2 68) w.toNat (w32 (s.1 (153 + w).toNat + 1)))) 59 65 66 67 68 69 _ :=
        ⟨(a1.1.kept (kst_ne (by decide)) (kst_ne (by decide)) (kst_ne (by decide)) (kst_ne (by decide))).other (j := (153 + w).toNat) (by omega), RT64.c a1.2 hw0 (by omega) _⟩
      have f2 : fr64 σ (kst σ2 68 (kup (σ2 68) w.toNat (w32 (s.1 (153 + w).toNat + 1)))) := f1.put (by decide)
      generalize kst σ2 68 (kup (σ2 68) w.toNat (w32 (s.1 (153 + w).toNat + 1))) = σ3 at a2 f2
      rw [cs_tp64 (EC64.fr hE f2) hN a2 hw0 hw]
      refine ⟨_, rfl, ⟨?_, ?_⟩, f2.put (by decide)⟩
      · unfold sp_rd2
        have := a2.1.set (by decide) (i := (21 + w).toNat) (j := (53 + w).toNat) (if L w.toNat ≤ w32 (l + 1) then 0 else w32 (l + 1)) (by omega)
        rw [kup_ne (show (21 + w).toNat ≠ (153 + w).toNat by omega), kup_ne (show (21 + w).toNat ≠ (25 + w).toNat by omega), hnx1]
        exact this
      · unfold sp_rd2
        rw [kup_ne (show (21 + w).toNat ≠ (153 + w).toNat by omega), kup_ne (show (21 + w).toNat ≠ (25 + w).toNat by omega), hnx1]
        exact (a2.2.kept (kst_ne (by decide)) (kst_ne (by decide)) (kst_ne (by decide)) (kst_ne (by decide)) (kst_ne (by decide))).other (by omega)
  by_cases ha : acc = 0
  · rw [if_pos ha, if_pos ha]
    unfold pf_World_depthOf_58
    rw [w32_s (v := w * 6) (by omega) (by omega), w32_s (v := 61 + w * 6) (by omega) (by omega), w32_s (v := 61 + w * 6 + l) (by omega) (by omega), kchk_t (by omega), hR.1.depth hw0 (by omega) hnx.1 (by omega)]
    exact key _
  · rw [if_neg ha, if_neg ha]
    exact key _
theorem cs_poet64 (hE : EC N M tp L PH PF PB σ) (hN : EN N M tp L PH PF PB) (hR : RS N M tp L σ 59 65 66 67 68 69 q) (hI : IV M tp L q) {w acc : Int} (hw0 : 0 ≤ w) (hw : w < M) :
    kOk (pf_Stage_passYear_64_l10 σ acc w) (fun o => ∃ σ', o = .inl (σ', w + 1) ∧ RS N M tp L σ' 59 65 66 67 68 69 (sp_poet N PH PF PB L acc w q) ∧ fr64 σ σ') := by
  have hn1 := hN.1
  have hn2 := hN.2.1
  unfold pf_Stage_passYear_64_l10 sp_poet
  rw [hE.2.2.1, if_neg (by omega), w32_s (v := 57 + w) (by omega) (by omega), kchk_t (by omega), hR.1.sits hw0 (by omega)]
  have hR0 : RS N M tp L σ 59 65 66 67 68 69 (kup q (197 + w).toNat 0) := ⟨hR.1.other (by omega), hR.2.other (by omega)⟩
  have hI0 : IV M tp L (kup q (197 + w).toNat 0) := hI.hi (by omega)
  by_cases h1 : q (25 + w).toNat ≤ 0
  · rw [if_pos h1, if_pos h1]
    generalize kup q (197 + w).toNat 0 = q0 at hR0 hI0
    refine (cs_sells64 hE hN hR0 hw0 hw).then ?_
    rintro σ1 ⟨h2, h3⟩
    refine (cs_read64 (acc := acc) (EC64.fr hE h3) hN h2 (IV.sells hI0 hw0 (by omega) hn1.2) hw0 hw).then ?_
    rintro σ2 ⟨h4, h5⟩
    unfold pf_Stage_passYear_64_l10_j66
    exact ⟨_, rfl, σ2, by rw [w32_s (by omega) (by omega)], h4, h3.trans h5⟩
  · rw [if_neg h1, if_neg h1]
    simp only [klet]
    rw [kchk_t (by omega), kchk_t (by omega)]
    unfold pf_Stage_passYear_64_l10_j66
    simp only [klet]
    rw [w32_s (v := w + 1) (by omega) (by omega)]
    refine ⟨_, rfl, kst σ 59 (kup (σ 59) (57 + w).toNat (w32 (σ 59 (57 + w).toNat - 1))), rfl, ?_, frS.rfl.put (by decide)⟩
    unfold sp_sit
    rw [hR.1.sits hw0 (by omega), kup_ne (show (25 + w).toNat ≠ (197 + w).toNat by omega)]
    exact ⟨(hR0.1.set (by decide) _ (by omega)).other (by omega), ((hR0.2.kept (kst_ne (by decide)) (kst_ne (by decide)) (kst_ne (by decide)) (kst_ne (by decide)) (kst_ne (by decide))).other (by omega)).other (by omega)⟩
theorem cs_year64 (hE : EC N M tp L PH PF PB σ) (hN : EN N M tp L PH PF PB) (hR : RS N M tp L σ 59 65 66 67 68 69 q) (hI : IV M tp L q) (acc : Int) :
    kOk (pf_Stage_passYear_64 σ acc) (fun σ' => RS N M tp L σ' 59 65 66 67 68 69 (sp_year N M PH PF PB L acc q) ∧ fr64 σ σ') := by
  have hn1 := hN.1
  have hn2 := hN.2.1
  unfold pf_Stage_passYear_64 sp_year
  simp only [klet]
  have a1 : RS N M tp L (kst σ 65 (kup (σ 65) 6 0)) 59 65 66 67 68 69 (kup (kup q 195 0) 196 0) :=
    ⟨((hR.1.kept (kst_ne (by decide)) (kst_ne (by decide)) (kst_ne (by decide)) (kst_ne (by decide))).other (by omega)).other (by omega), (RT64.t hR.2 (by decide) _).other (by omega)⟩
  have f1 : fr64 σ (kst σ 65 (kup (σ 65) 6 0)) := frS.rfl.put (by decide)
  have i1 : IV M tp L (kup (kup q 195 0) 196 0) := IV.hi (IV.hi hI (by omega)) (by omega)
  generalize kst σ 65 (kup (σ 65) 6 0) = σ1 at a1 f1
  generalize kup (kup q 195 0) 196 0 = q1 at a1 i1
  refine kOk.then (kOk_for (P := fun b => RS N M tp L b 59 65 66 67 68 69 (kit (fun i q => sp_poet N PH PF PB L acc (i : Int) q) M.toNat q1) ∧ fr64 σ b) M.toNat (fun i st => st.2 = (i : Int) ∧ RS N M tp L st.1 59 65 66 67 68 69 (kit (fun i q => sp_poet N PH PF PB L acc (i : Int) q) i q1) ∧ IV M tp L (kit (fun i q => sp_poet N PH PF PB L acc (i : Int) q) i q1) ∧ fr64 σ st.1) ?_ ?_ (kFuel_lt (by omega)) _ ⟨rfl, a1, i1, f1⟩) ?_
  · intro i st hi hI
    obtain ⟨σ2, x⟩ := st
    obtain ⟨rfl, h1, h3, h2⟩ := hI
    refine (cs_poet64 (acc := acc) (EC64.fr hE h2) hN h1 h3 (w := (i : Int)) (by omega) (by omega)).mono ?_
    rintro o ⟨σ3, rfl, h4, h5⟩
    exact ⟨by simp, h4, IV.poet h3 (by omega) (by omega) hn2.2 hn1.2 hN.2.2.1.2 (hN.2.2.2.1 _ (by omega) (by omega)), h2.trans h5⟩
  · intro st hI
    obtain ⟨σ2, x⟩ := st
    obtain ⟨rfl, h1, h3, h2⟩ := hI
    have h5 : EC N M tp L PH PF PB σ2 := EC64.fr hE h2
    refine ⟨.inr σ2, ?_, h1, h2⟩
    show pf_Stage_passYear_64_l10 σ2 acc ((M.toNat : Nat) : Int) = _
    unfold pf_Stage_passYear_64_l10
    rw [h5.2.2.1, if_pos (by omega)]
  · rintro σ2 ⟨h1, h2⟩
    generalize kit (fun i q => sp_poet N PH PF PB L acc (i : Int) q) M.toNat q1 = q2 at h1
    simp only [Int.reduceToNat]
    rw [h1.1.year]
    have a2 : RS N M tp L (kst σ2 59 (kup (σ2 59) 0 (w32 (q2 0 + 1)))) 59 65 66 67 68 69 (kup q2 0 (w32 (q2 0 + 1))) :=
      ⟨h1.1.set (by decide) _ (by decide), (h1.2.kept (kst_ne (by decide)) (kst_ne (by decide)) (kst_ne (by decide)) (kst_ne (by decide)) (kst_ne (by decide))).other (by omega)⟩
    have f2 : fr64 σ (kst σ2 59 (kup (σ2 59) 0 (w32 (q2 0 + 1)))) := h2.put (by decide)
    generalize kst σ2 59 (kup (σ2 59) 0 (w32 (q2 0 + 1))) = σ3 at a2 f2
    unfold pf_Tally_closeYear_65 pf_Tally_closeYear_65_j30 sp_end
    simp only [klet]
    have g1 : σ3 65 7 = q2 201 := by
      rw [a2.2.2.2.2.2.2.1, kup_ne (by omega)]
    have g2 : σ3 65 6 = q2 195 := by
      rw [a2.2.2.2.2.2.1, kup_ne (by omega)]
    have g3 : σ3 65 9 = q2 202 := by
      rw [a2.2.2.2.2.2.2.2.1, kup_ne (by omega)]
    simp (disch := decide) only [kst_eq, kup_ne]
    rw [g1, g2, g3]
    have a3 : RS N M tp L (kst σ3 65 (kup (σ3 65) 7 (kor (q2 201) (q2 195)))) 59 65 66 67 68 69 (kup (kup q2 0 (w32 (q2 0 + 1))) 201 (kor (q2 201) (q2 195))) :=
      ⟨(a2.1.kept (kst_ne (by decide)) (kst_ne (by decide)) (kst_ne (by decide)) (kst_ne (by decide))).other (by omega), RT64.t a2.2 (by decide) _⟩
    have f3 : fr64 σ (kst σ3 65 (kup (σ3 65) 7 (kor (q2 201) (q2 195)))) := f2.put (by decide)
    by_cases hz : q2 195 = 0
    · rw [if_pos hz, if_pos hz]
      have a4 : RS N M tp L _ 59 65 66 67 68 69 _ := ⟨(a3.1.kept (σ' := kst (kst σ3 65 (kup (σ3 65) 7 (kor (q2 201) (q2 195)))) 65 (kup (kst σ3 65 (kup (σ3 65) 7 (kor (q2 201) (q2 195))) 65) 9 (w32 (q2 202 + 1)))) (kst_ne (by decide)) (kst_ne (by decide)) (kst_ne (by decide)) (kst_ne (by decide))).other (by omega), RT64.t a3.2 (i := 9) (j := 202) (by decide) _⟩
      rw [kst_eq] at a4
      exact ⟨_, rfl, a4, f3.put (by decide)⟩
    · rw [if_neg hz, if_neg hz]
      have a4 : RS N M tp L _ 59 65 66 67 68 69 _ := ⟨(a3.1.kept (σ' := kst (kst σ3 65 (kup (σ3 65) 7 (kor (q2 201) (q2 195)))) 65 (kup (kst σ3 65 (kup (σ3 65) 7 (kor (q2 201) (q2 195))) 65) 9 (w32 (q2 202 + 0)))) (kst_ne (by decide)) (kst_ne (by decide)) (kst_ne (by decide)) (kst_ne (by decide))).other (by omega), RT64.t a3.2 (i := 9) (j := 202) (by decide) _⟩
      rw [kst_eq] at a4
      exact ⟨_, rfl, a4, f3.put (by decide)⟩
end CS64

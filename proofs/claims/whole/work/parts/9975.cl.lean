/-! state: a clause, all clauses -/
theorem wR_cl : ∀ w : Fin 18, (wR w.val = 9 ↔ w.val = 1) ∧ (wR w.val = 10 ↔ w.val = 2) ∧ (wR w.val = 11 ↔ w.val = 3) ∧ (wR w.val = 12 ↔ w.val = 4) ∧ (wR w.val = 13 ↔ w.val = 5) ∧ (wR w.val = 8 ↔ w.val = 0) := by decide +kernel
section CLS
variable {T : Nat → Int} {n m : Nat} {KD ST LN VL : Nat → Int} {σ0 μ0 σ μ : kM} {i : Nat}
/-- the word that begins a clause -/
def cW (KD VL : Nat → Int) (i : Nat) : Int := if KD i = 2 then VL i else 17
theorem cW_spec (hK : TKf T n m KD ST LN VL) (hi : i ≤ m) : (0 ≤ cW KD VL i ∧ cW KD VL i < 18) ∧ (kW KD VL i = 9 ↔ cW KD VL i = 1) ∧ (kW KD VL i = 10 ↔ cW KD VL i = 2) ∧ (kW KD VL i = 11 ↔ cW KD VL i = 3) ∧ (kW KD VL i = 12 ↔ cW KD VL i = 4) ∧ (kW KD VL i = 13 ↔ cW KD VL i = 5) := by
  unfold cW kW
  by_cases c : KD i = 2
  · obtain ⟨a, b⟩ := hK.wd hi c
    obtain ⟨h1, h2, h3, h4, h5, -⟩ := wR_cl ⟨(VL i).toNat, by omega⟩
    rw [if_pos c, if_pos c]
    refine ⟨⟨a, b⟩, h1.trans ?_, h2.trans ?_, h3.trans ?_, h4.trans ?_, h5.trans ?_⟩
    all_goals
      show (VL i).toNat = _ ↔ _
      omega
  · rw [if_neg c, if_neg c]
    decide
/-- all is well, so far -/
def OKs (T : Nat → Int) (n m : Nat) (KD ST LN VL : Nat → Int) (σ0 μ0 : kM) (i : Nat) (σ μ : kM) : Prop := ∃ (N M tp : Nat) (C R PH PF PB : List Int), i ≤ m ∧ KCg m KD ST LN VL σ0 i σ ∧ KMg T n μ0 i μ ∧ DR i C R PH PF PB σ μ ∧ DW N M tp σ μ
theorem rule_new {C R E : List Int} {ok ok' : Int → Prop} {f t a : Int} (h1 : E ≠ [] ∧ rv_ok E 0 ∧ ∀ c ∈ E, -9 < c → c < 0 → ok c) (ho : ∀ c, ok c → ok' c) (hf : f = (C.length : Int)) (ht : t = ((C.length + E.length : Nat) : Int)) (ha : a = (R.length : Int)) (hb : R.length + 2 * E.length + 1 ≤ 1400) : RUl (C ++ E) (R ++ (en E ++ [0])) f t a E ok' :=
  ⟨Or.inr ⟨h1.2.1, fun c hc x y => ho c (h1.2.2 c hc x y)⟩, Or.inr ⟨h1.1, ⟨C, [], by rw [List.append_nil], hf, ht⟩, R, [], by rw [List.append_nil], ha, hb⟩⟩
theorem s_clause (hK : TKf T n m KD ST LN VL) (hi : i < m) (h : OKs T n m KD ST LN VL σ0 μ0 i σ μ) {k : Nat} (hk : k < 700) : ∃ σ' μ', pf_Parser_parse_12_l73 σ (k : Int) = some (.inl (σ', ((k + 1 : Nat) : Int))) ∧ mm_clause μ = some μ' ∧ ((∃ i', i < i' ∧ OKs T n m KD ST LN VL σ0 μ0 i' σ' μ') ∨ ∃ f p : Int, cxS m KD ST LN VL σ0 f p σ' ∧ mxS μ0 f p μ') := by
  obtain ⟨N, M, tp, C, R, PH, PF, PB, hi', hC, hM, hR, hW⟩ := h
  have hts := hM.1.ts hK hi'
  have hkd := c_kind hC.1 hK.m7 hi'
  have hk0 : ¬ KD i = 0 := by
    rcases hK.kd hi' with ⟨-, x⟩ | ⟨-, x | x | x | x⟩
    · omega
    all_goals (rw [x]; decide)
  have hk7 : ¬ 700 ≤ (k : Int) := by omega
  have ew := kw_inc (i := k) (by omega)
  obtain ⟨wr, w1, w2, w3, w4, w5⟩ := cW_spec hK hi'
  have hcw : pf_Tokens_word_24 σ = some (cW KD VL i) := c_word hK hC.1 hK.m7 hi'
  have hbody : ∀ σ' : kM, (if cW KD VL i = 1 then pf_Parser_takePerson_12 σ else if cW KD VL i = 2 then pf_Parser_takePoet_12 σ else if cW KD VL i = 3 then pf_Parser_takeRule_12 σ 0 else if cW KD VL i = 4 then pf_Parser_takeRule_12 σ 1 else if cW KD VL i = 5 then pf_Parser_takeRule_12 σ 2 else pf_Parser_refuse_12 σ 1) = some σ' → pf_Parser_parse_12_l73 σ (k : Int) = some (.inl (σ', ((k + 1 : Nat) : Int))) := by
    intro σ' e
    unfold pf_Parser_parse_12_l73 pf_Parser_parse_12_l73_j176
    rw [if_neg hk7, kbind_eq hkd, if_neg hk0, kbind_eq hcw, kchk_t wr]
    by_cases c1 : cW KD VL i = 1
    · rw [if_pos c1] at e ⊢
      rw [kbind_eq e, klet_eq, ew]
    rw [if_neg c1] at e ⊢
    rw [kchk_t wr]
    by_cases c2 : cW KD VL i = 2
    · rw [if_pos c2] at e ⊢
      rw [kbind_eq e, klet_eq, ew]
    rw [if_neg c2] at e ⊢
    rw [kchk_t wr]
    by_cases c3 : cW KD VL i = 3
    · rw [if_pos c3] at e ⊢
      rw [kbind_eq e, klet_eq, ew]
    rw [if_neg c3] at e ⊢
    rw [kchk_t wr]
    by_cases c4 : cW KD VL i = 4
    · rw [if_pos c4] at e ⊢
      rw [kbind_eq e, klet_eq, ew]
    rw [if_neg c4] at e ⊢
    rw [kchk_t wr]
    by_cases c5 : cW KD VL i = 5
    · rw [if_pos c5] at e ⊢
      rw [kbind_eq e, klet_eq, ew]
    rw [if_neg c5] at e ⊢
    rw [kbind_eq e, klet_eq, ew]
  clear ew
  have fin : ∀ σ' μ' : kM, CLo T n m KD ST LN VL σ0 μ0 i σ' μ' → ((∃ i', i < i' ∧ OKs T n m KD ST LN VL σ0 μ0 i' σ' μ') ∨ ∃ f p : Int, cxS m KD ST LN VL σ0 f p σ' ∧ mxS μ0 f p μ') := by
    intro σ' μ' x
    rcases x with ⟨i', N', M', tp', C', R', A, B, D, y1, y2, y3, y4, y5, y6⟩ | x
    · exact Or.inl ⟨i', y1, N', M', tp', C', R', A, B, D, y2, y3, y4, y5, y6⟩
    · exact Or.inr x
  have hcl : mm_clause μ = if kW KD VL i = 9 then (if μ 0 22 = 8 then mm_clause_j26 μ 1 else mm_clause_j26 μ 0) else if kW KD VL i = 10 then (if μ 0 23 = 4 then mm_clause_j60 μ 1 else mm_clause_j60 μ 0) else if kW KD VL i = 11 then (if μ 0 24 = -1 then mm_clause_j95 μ 0 0 else mm_clause_j95 μ 1 0) else if kW KD VL i = 12 then (if μ 0 25 = -1 then mm_clause_j139 μ 0 0 else mm_clause_j139 μ 1 0) else if kW KD VL i = 13 then (if μ 0 26 = -1 then mm_clause_j184 μ 0 0 else mm_clause_j184 μ 1 0) else (mm_wrong μ 1).bind fun σ_2 => mm_clause_j212 σ_2 := by
    unfold mm_clause
    rw [kbind_eq hts.2.1]
  rw [hcl]
  by_cases c1 : cW KD VL i = 1
  · obtain ⟨σ', μ', a1, a2, a3⟩ := s_person hK hi hC hM hR hW
    refine ⟨σ', μ', hbody σ' (by rw [if_pos c1]; exact a1), by rw [if_pos (w1.mpr c1)]; exact a2, fin _ _ a3⟩
  by_cases c2 : cW KD VL i = 2
  · obtain ⟨σ', μ', a1, a2, a3⟩ := s_poet hK hi hC hM hR hW
    refine ⟨σ', μ', hbody σ' (by rw [if_neg c1, if_pos c2]; exact a1), by rw [if_neg (fun x => c1 (w1.mp x)), if_pos (w2.mpr c2)]; exact a2, fin _ _ a3⟩
  have keepW : ∀ σ' μ' : kM, (∀ c : Nat, 13 ≤ c ∧ c ≤ 16 ∨ c = 23 → σ' c = σ c) → μ' 4 = μ 4 → (∀ j : Nat, 21 ≤ j ∧ j ≤ 23 → μ' 0 j = μ 0 j) → DW N M tp σ' μ' := fun σ' μ' x y z => hW.keep (x 13 (by decide)) (x 14 (by decide)) (x 15 (by decide)) (x 16 (by decide)) (x 23 (by decide)) y z
  obtain ⟨dc, dm, d0, d1, d2⟩ := hR
  by_cases c3 : cW KD VL i = 3
  · obtain ⟨σ', μ', a1, a2, a3⟩ := s_rule hK (r := 0) (by decide) hi hC hM dc dm d0
    refine ⟨σ', μ', hbody σ' (by rw [if_neg c1, if_neg c2, if_pos c3]; exact a1), by rw [if_neg (fun x => c1 (w1.mp x)), if_neg (fun x => c2 (w2.mp x)), if_pos (w3.mpr c3)]; exact a2, ?_⟩
    rcases a3 with ⟨i', E, x1, x2, x3, x4, x5, ⟨x6, x6'⟩, x7, ⟨x8, x8', x8'', x8'''⟩, x9, x10, x11⟩ | a3
    · refine Or.inl ⟨i', x1.1, N, M, tp, C ++ E, R ++ (en E ++ [0]), E, PF, PB, x1.2, x2, x3, ⟨x5, ⟨x8, x8', x8''⟩, ?_, ?_, ?_⟩, keepW _ _ x7 x11 (fun j hj => x10 j (by omega) (by omega))⟩
      · exact rule_new x4 (fun c hc => hc.1 rfl) (by rw [x6, kup_eq]) (by rw [x6', kup_eq]) x9 x8'''
      · rw [x6, x6', kup_ne (by decide), kup_ne (by decide), x10 25 (by decide) (by decide)]
        exact d1.app _ _
      · rw [x6, x6', kup_ne (by decide), kup_ne (by decide), x10 26 (by decide) (by decide)]
        exact d2.app _ _
    · exact Or.inr a3
  by_cases c4 : cW KD VL i = 4
  · obtain ⟨σ', μ', a1, a2, a3⟩ := s_rule hK (r := 1) (by decide) hi hC hM dc dm d1
    refine ⟨σ', μ', hbody σ' (by rw [if_neg c1, if_neg c2, if_neg c3, if_pos c4]; exact a1), by rw [if_neg (fun x => c1 (w1.mp x)), if_neg (fun x => c2 (w2.mp x)), if_neg (fun x => c3 (w3.mp x)), if_pos (w4.mpr c4)]; exact a2, ?_⟩
    rcases a3 with ⟨i', E, x1, x2, x3, x4, x5, ⟨x6, x6'⟩, x7, ⟨x8, x8', x8'', x8'''⟩, x9, x10, x11⟩ | a3
    · refine Or.inl ⟨i', x1.1, N, M, tp, C ++ E, R ++ (en E ++ [0]), PH, E, PB, x1.2, x2, x3, ⟨x5, ⟨x8, x8', x8''⟩, ?_, ?_, ?_⟩, keepW _ _ x7 x11 (fun j hj => x10 j (by omega) (by omega))⟩
      · rw [x6, x6', kup_ne (by decide), kup_ne (by decide), x10 24 (by decide) (by decide)]
        exact d0.app _ _
      · exact rule_new x4 (fun c hc => hc.2.1 rfl) (by rw [x6, kup_eq]) (by rw [x6', kup_eq]) x9 x8'''
      · rw [x6, x6', kup_ne (by decide), kup_ne (by decide), x10 26 (by decide) (by decide)]
        exact d2.app _ _
    · exact Or.inr a3
  by_cases c5 : cW KD VL i = 5
  · obtain ⟨σ', μ', a1, a2, a3⟩ := s_rule hK (r := 2) (by decide) hi hC hM dc dm d2
    refine ⟨σ', μ', hbody σ' (by rw [if_neg c1, if_neg c2, if_neg c3, if_neg c4, if_pos c5]; exact a1), by rw [if_neg (fun x => c1 (w1.mp x)), if_neg (fun x => c2 (w2.mp x)), if_neg (fun x => c3 (w3.mp x)), if_neg (fun x => c4 (w4.mp x)), if_pos (w5.mpr c5)]; exact a2, ?_⟩
    rcases a3 with ⟨i', E, x1, x2, x3, x4, x5, ⟨x6, x6'⟩, x7, ⟨x8, x8', x8'', x8'''⟩, x9, x10, x11⟩ | a3
    · refine Or.inl ⟨i', x1.1, N, M, tp, C ++ E, R ++ (en E ++ [0]), PH, PF, E, x1.2, x2, x3, ⟨x5, ⟨x8, x8', x8''⟩, ?_, ?_, ?_⟩, keepW _ _ x7 x11 (fun j hj => x10 j (by omega) (by omega))⟩
      · rw [x6, x6', kup_ne (by decide), kup_ne (by decide), x10 24 (by decide) (by decide)]
        exact d0.app _ _
      · rw [x6, x6', kup_ne (by decide), kup_ne (by decide), x10 25 (by decide) (by decide)]
        exact d1.app _ _
      · exact rule_new x4 (fun c hc => hc.2.2 rfl) (by rw [x6, kup_eq]) (by rw [x6', kup_eq]) x9 x8'''
    · exact Or.inr a3
  · have hx := hM.wr (x := 1) (p := ST i) (by decide)
    refine ⟨_, _, hbody _ (by rw [if_neg c1, if_neg c2, if_neg c3, if_neg c4, if_neg c5]; exact c_refuse hC.1 hK.m7 hi' hC.2.1.1 1), ?_, Or.inr ⟨1, ST i, hC.rf (by decide), hx⟩⟩
    rw [if_neg (fun x => c1 (w1.mp x)), if_neg (fun x => c2 (w2.mp x)), if_neg (fun x => c3 (w3.mp x)), if_neg (fun x => c4 (w4.mp x)), if_neg (fun x => c5 (w5.mp x)), kbind_eq (m_wrong hts hM.2.1.1 1)]
    exact mx_end hx
theorem cx_clauses (hK : TKf T n m KD ST LN VL) {f p : Int} (h : cxS m KD ST LN VL σ0 f p σ) (k : Int) {fuel : Nat} : kloop (fun st => pf_Parser_parse_12_l73 st.1 st.2) (fuel + 1) (σ, k) = some σ := by
  have hk := c_kind h.1.1 hK.m7 (Nat.le_refl _)
  rw [hK.2.2.2.2.1] at hk
  refine kloop_r ?_
  show pf_Parser_parse_12_l73 σ k = _
  unfold pf_Parser_parse_12_l73
  by_cases c : 700 ≤ k
  · rw [if_pos c]
  · rw [if_neg c, kbind_eq hk, if_pos rfl]
theorem mx_clauses {f p : Int} (h : mxS μ0 f p μ) {fuel : Nat} : kloop (fun st => mm_state_l151 st) (fuel + 1) μ = some μ := by
  refine kloop_r ?_
  show mm_state_l151 μ = _
  unfold mm_state_l151
  rw [kbind_eq (m_isGood0 h.bad), if_pos rfl]
/-- all clauses -/
theorem s_clauses (hK : TKf T n m KD ST LN VL) : ∀ (q i k : Nat) (σ μ : kM) (f1 f2 : Nat), m - i ≤ q → q + 1 < f1 → q + 1 < f2 → k ≤ i → OKs T n m KD ST LN VL σ0 μ0 i σ μ → ∃ σ' μ', kloop (fun st => pf_Parser_parse_12_l73 st.1 st.2) f1 (σ, (k : Int)) = some σ' ∧ kloop (fun st => mm_state_l151 st) f2 μ = some μ' ∧ (OKs T n m KD ST LN VL σ0 μ0 m σ' μ' ∨ ∃ f p : Int, cxS m KD ST LN VL σ0 f p σ' ∧ mxS μ0 f p μ') := by
  intro q
  induction q with
  | zero =>
    intro i k σ μ f1 f2 hq hf1 hf2 hk h
    have h0 := h
    obtain ⟨N, M, tp, C, R, PH, PF, PB, hi', hC, hM, -⟩ := h0
    have him : i = m := by omega
    subst him
    obtain ⟨k1, rfl, -⟩ := fu_s hf1
    obtain ⟨k2, rfl, -⟩ := fu_s hf2
    have hkd := c_kind hC.1 hK.m7 (Nat.le_refl _)
    rw [hK.2.2.2.2.1] at hkd
    refine ⟨σ, μ, kloop_r ?_, kloop_r ?_, Or.inl h⟩
    · show pf_Parser_parse_12_l73 σ (k : Int) = _
      unfold pf_Parser_parse_12_l73
      by_cases c : 700 ≤ (k : Int)
      · rw [if_pos c]
      · rw [if_neg c, kbind_eq hkd, if_pos rfl]
    · show mm_state_l151 μ = _
      unfold mm_state_l151
      rw [kbind_eq (m_isGood1 hM.2.1.1), if_neg (by decide), if_pos ((m_sort hK (Nat.le_refl _) (hM.1.ts hK (Nat.le_refl _))).2.2.mpr hK.2.2.2.2.1)]
  | succ q ih =>
    intro i k σ μ f1 f2 hq hf1 hf2 hk h
    by_cases him : i < m
    · obtain ⟨k1, rfl, hk1⟩ := fu_s hf1
      obtain ⟨k2, rfl, hk2⟩ := fu_s hf2
      have hk1 := hk1 _ rfl
      have hk2 := hk2 _ rfl
      have h7 := hK.m7
      have hk0 : ¬ KD i = 0 := by
        rcases hK.kd (Nat.le_of_lt him) with ⟨-, x⟩ | ⟨-, x | x | x | x⟩
        · omega
        all_goals (rw [x]; decide)
      obtain ⟨σ', μ', a1, a2, a3⟩ := s_clause hK him h (k := k) (by omega)
      obtain ⟨N, M, tp, C, R, PH, PF, PB, hi', hC, hM, -⟩ := h
      have e2 : mm_state_l151 μ = some (.inl μ') := by
        unfold mm_state_l151
        rw [kbind_eq (m_isGood1 hM.2.1.1), if_neg (by decide), if_neg (fun x => hk0 ((m_sort hK hi' (hM.1.ts hK hi')).2.2.mp x)), kbind_eq a2]
      rcases a3 with ⟨i', x1, x2⟩ | ⟨f, p, x1, x2⟩
      · obtain ⟨σ2, μ2, r1, r2, r3⟩ := ih i' (k + 1) σ' μ' k1 k2 (by omega) hk1 hk2 (by omega) x2
        refine ⟨σ2, μ2, ?_, ?_, r3⟩
        · rw [← r1]
          exact kloop_l a1
        · rw [← r2]
          exact kloop_l e2
      · obtain ⟨k1', rfl⟩ : ∃ k, k1 = k + 1 := ⟨k1 - 1, by omega⟩
        obtain ⟨k2', rfl⟩ : ∃ k, k2 = k + 1 := ⟨k2 - 1, by omega⟩
        exact ⟨σ', μ', (kloop_l a1).trans (cx_clauses hK x1 _), (kloop_l e2).trans (mx_clauses x2), Or.inr ⟨f, p, x1, x2⟩⟩
    · exact ih i k σ μ f1 f2 (by omega) (by omega) (by omega) hk h
end CLS

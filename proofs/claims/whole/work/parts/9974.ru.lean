/-! state: a rule in both -/
def m_rule (μ : kM) (s0 : Int) (F : Nat) (x1 x2 : Int) : Option kM := (mm_begins μ 0 s0).bind fun (r_8, σ_9) => if r_8 = 0 then mm_clause_j212 σ_9 else klet (kst σ_9 0 (kup (σ_9 0) F (σ_9 0 27))) fun σ_10 => (mm_expression σ_10 x1 x2).bind fun σ_11 => mm_clause_j212 σ_11
theorem KA_expr (μ : kM) (fl : Int) (F : kM → Option kM) : ((mm_operand μ fl).bind fun s => (kloop (fun st => mm_expression_l39 st.1 st.2) kFuel (s, 1)).bind F) = (KA kFuel kFuel fl μ).bind F := by
  have e : mm_operand μ fl = (KO kFuel μ fl).bind fun a => (mm_part a).bind fun b => some b := rfl
  rw [e]
  unfold KA
  cases KO kFuel μ fl with
  | none => rfl
  | some a =>
    show (((mm_part a).bind fun b => some b).bind fun s => (KB kFuel s).bind F) = ((mm_part a).bind fun μ2 => KB kFuel μ2).bind F
    cases mm_part a with
    | none => rfl
    | some b => rfl
section RUS
variable {T : Nat → Int} {n m : Nat} {KD ST LN VL : Nat → Int} {σ0 μ0 σ μ : kM} {i : Nat}
/-- the reference's tail of an expression -/
def m_tail (σ_75 : kM) : Option kM := (mm_isGood σ_75).bind fun r_76 => if r_76 = 0 then mm_expression_j360 σ_75 else if (σ_75 0 31) ≤ 1 then mm_expression_j360 σ_75 else (mm_wrong σ_75 1).bind fun σ_81 => mm_expression_j360 σ_81
theorem m_tailX (hK : TKf T n m KD ST LN VL) {f p : Int} (h : RvX T n m ST μ0 f p μ) : ∃ μ', m_tail μ = some μ' ∧ μ' 0 10 = f ∧ f ≠ 0 ∧ μ' 0 11 = p ∧ frE μ0 μ' := by
  rcases h with h | ⟨j, R, W, d, tq, h1, h2, h3, rfl, rfl, h4, h5⟩
  · obtain ⟨μ', a, b⟩ := mx_j360 h
    refine ⟨μ', ?_, b⟩
    unfold m_tail
    rw [kbind_eq (m_isGood0 h.bad), if_pos rfl, a]
  · have hx := h1.wr (x := 1) (p := ST j) (by decide) h4 h5
    obtain ⟨μ', a, b⟩ := mx_j360 hx
    have hd : ¬ μ 0 31 ≤ 1 := by
      rw [h1.2.2.2.2.1.1]
      omega
    refine ⟨μ', ?_, b⟩
    unfold m_tail
    rw [kbind_eq (m_isGood1 h1.2.1.1), if_neg (by decide), if_neg hd, kbind_eq (m_wrong (h1.1.ts hK h2) h1.2.1.1 1), a]
/-- the state in which an expression begins -/
def mE0 (μ : kM) (x1 x2 : Int) : kM := kst (kst μ 0 (kup (kup (kup (kup (μ 0) 28 x1) 29 x2) 30 0) 31 1)) 7 (kup (μ 7) 1 0)
theorem m_expr {x1 x2 : Int} (h0 : μ 0 10 = 0) : mm_expression μ x1 x2 = (KA kFuel kFuel 1 (mE0 μ x1 x2)).bind m_tail := by
  have e : mm_expression μ x1 x2 = ((mm_operand (mE0 μ x1 x2) 1).bind fun s => (kloop (fun st => mm_expression_l39 st.1 st.2) kFuel (s, 1)).bind m_tail) := by
    unfold mm_expression
    rw [kbind_eq (m_isGood1 h0), if_neg (by decide), klet_eq, klet_eq, klet_eq, klet_eq, kst_eq, kst_st, kst_eq, kst_st, kst_eq, kst_st]
    have hd : mm_deeper (kst μ 0 (kup (kup (kup (kup (μ 0) 28 x1) 29 x2) 30 0) 31 0)) = some (mE0 μ x1 x2) := by
      unfold mm_deeper
      rw [kst_eq, kup_eq, if_neg (by decide), klet_eq, kst_st, kst_eq, kup_up, show w32 (0 + 1) = 1 by decide, kup_eq, kchk_t (by decide), klet_eq, kst_ne (show (7 : Nat) ≠ 0 by decide), show kz1s 0 = 0 by decide]
      rfl
    rw [kbind_eq hd]
    rfl
  rw [e, KA_expr]
theorem s_rule (hK : TKf T n m KD ST LN VL) {r : Nat} (hr : r < 3) {C R P : List Int} {ok : Int → Prop} (hi : i < m) (hC : KCg m KD ST LN VL σ0 i σ) (hM : KMg T n μ0 i μ) (hc : σ 17 1 = (C.length : Int) ∧ rv_at (σ 18) 0 C ∧ C.length ≤ i) (hm : μ 0 27 = (R.length : Int) ∧ rv_at (μ 5) 0 R ∧ R.length ≤ 2 * i) (hP : RUl C R (σ 19 r) (σ 20 r) (μ 0 (24 + r)) P ok) :
    ∃ σ' μ', pf_Parser_takeRule_12 σ (r : Int) = some σ' ∧ (if μ 0 (24 + r) = -1 then m_rule μ 0 (24 + r) (fV r) (lVa r) else m_rule μ 1 (24 + r) (fV r) (lVa r)) = some μ' ∧
      ((∃ (i' : Nat) (E : List Int), (i < i' ∧ i' ≤ m) ∧ KCg m KD ST LN VL σ0 i' σ' ∧ KMg T n μ0 i' μ' ∧ (E ≠ [] ∧ rv_ok E 0 ∧ ∀ c ∈ E, -9 < c → c < 0 → vOk r c) ∧ (σ' 17 1 = ((C ++ E).length : Int) ∧ rv_at (σ' 18) 0 (C ++ E) ∧ (C ++ E).length ≤ i') ∧ (σ' 19 = kup (σ 19) r (C.length : Int) ∧ σ' 20 = kup (σ 20) r ((C.length + E.length : Nat) : Int)) ∧ (∀ c : Nat, 13 ≤ c ∧ c ≤ 16 ∨ c = 23 → σ' c = σ c) ∧ (μ' 0 27 = ((R ++ (en E ++ [0])).length : Int) ∧ rv_at (μ' 5) 0 (R ++ (en E ++ [0])) ∧ (R ++ (en E ++ [0])).length ≤ 2 * i' ∧ R.length + 2 * E.length + 1 ≤ 1400) ∧ μ' 0 (24 + r) = (R.length : Int) ∧ (∀ j : Nat, 21 ≤ j ∧ j ≤ 26 → j ≠ 24 + r → μ' 0 j = μ 0 j) ∧ μ' 4 = μ 4) ∨ ∃ f p : Int, cxS m KD ST LN VL σ0 f p σ' ∧ mxS μ0 f p μ') := by
  have hi' := Nat.le_of_lt hi
  have h7 := hK.m7
  have hr3 : 0 ≤ (r : Int) ∧ (r : Int) < 3 := by omega
  obtain ⟨-, ⟨p1, p2, p3, p4⟩ | ⟨p1, ⟨A, B, p2, p3, p4⟩, A', B', p5, p6, -⟩⟩ := hP
  · -- a rule that is new
    have hhas : pf_Rules_has_17 σ (r : Int) = some 0 := by
      unfold pf_Rules_has_17
      rw [kchk_t hr3, kchk_t hr3, Int.toNat_natCast, p2, p3, if_pos (by decide)]
    have hC1 : KCg m KD ST LN VL σ0 i (kst σ 12 (kup (σ 12) 4 (r : Int))) := by
      refine ⟨hC.1.put (by decide), ?_, hC.2.2.put (by decide)⟩
      rw [kst_eq, kup_ne (by decide), kup_ne (by decide)]
      exact hC.2.1
    have hadv := c_adv hC1.1 h7 hi
    have hC2 := hC1.ad
    obtain ⟨g0, b1, b2, b3⟩ := m_begins1 hK hM
    have eS : ∀ c : Nat, c ≠ 24 → c ≠ 12 → (cAd (kst σ 12 (kup (σ 12) 4 (r : Int))) i) c = σ c := fun c x y => by
      show kst (kst σ 12 _) 24 _ c = _
      rw [kst_ne x, kst_ne y]
    have eS4 : (cAd (kst σ 12 (kup (σ 12) 4 (r : Int))) i) 12 4 = (r : Int) := by
      show kst (kst σ 12 _) 24 _ 12 4 = _
      rw [kst_ne (by decide), kst_eq, kup_eq]
    generalize hσ2 : cAd (kst σ 12 (kup (σ 12) 4 (r : Int))) i = σ2 at *
    have hbeg : pf_Rules_begin_17 σ2 (σ2 12 4) = some (kst σ2 19 (kup (σ2 19) r (C.length : Int))) := by
      unfold pf_Rules_begin_17
      rw [eS4, kchk_t hr3, klet_eq, Int.toNat_natCast, eS 17 (by decide) (by decide), hc.1]
    have hC3 : KCg m KD ST LN VL σ0 (i + 1) (kst σ2 19 (kup (σ2 19) r (C.length : Int))) := hC2.put (by decide)
    have fS : ∀ c : Nat, c ≠ 24 → c ≠ 12 → c ≠ 19 → kst σ2 19 (kup (σ2 19) r (C.length : Int)) c = σ c := fun c x y z => by rw [kst_ne z, eS c x y]
    have fS4 : kst σ2 19 (kup (σ2 19) r (C.length : Int)) 12 4 = (r : Int) := by rw [kst_ne (by decide), eS4]
    have fS19 : kst σ2 19 (kup (σ2 19) r (C.length : Int)) 19 = kup (σ 19) r (C.length : Int) := by rw [kst_eq, eS 19 (by decide) (by decide)]
    generalize hσ3 : kst σ2 19 (kup (σ2 19) r (C.length : Int)) = σ3 at *
    have hCE : CE m KD ST LN VL σ3 (i + 1) C σ3 := ⟨hC3.1, hC3.2.1.1, by rw [fS 17 (by decide) (by decide) (by decide)]; exact hc.1, by rw [fS 18 (by decide) (by decide) (by decide)]; exact hc.2.1, fun _ _ _ _ => rfl⟩
    -- the reference
    have mS : ∀ c : Nat, c ≠ 0 → (kst (kst μ 0 g0) 0 (kup (kst μ 0 g0 0) (24 + r) (kst μ 0 g0 0 27))) c = μ c := fun c x => by rw [kst_ne x, kst_ne x]
    have mS0 : ∀ j : Nat, j < 14 ∨ 20 < j → j ≠ 24 + r → (kst (kst μ 0 g0) 0 (kup (kst μ 0 g0 0) (24 + r) (kst μ 0 g0 0 27))) 0 j = μ 0 j := fun j x y => by rw [kst_eq, kup_ne y, kst_eq, b2 j x]
    have mSr : (kst (kst μ 0 g0) 0 (kup (kst μ 0 g0 0) (24 + r) (kst μ 0 g0 0 27))) 0 (24 + r) = (R.length : Int) := by rw [kst_eq, kup_eq, kst_eq, b2 27 (by decide), hm.1]
    have hM3 : KMg T n μ0 (i + 1) (kst (kst μ 0 g0) 0 (kup (kst μ 0 g0 0) (24 + r) (kst μ 0 g0 0 27))) := b3.put0 (by omega)
    have hrule : ∀ μ2 μ3 : kM, mm_expression (kst (kst μ 0 g0) 0 (kup (kst μ 0 g0 0) (24 + r) (kst μ 0 g0 0 27))) (fV r) (lVa r) = some μ2 → mm_clause_j212 μ2 = some μ3 → (if μ 0 (24 + r) = -1 then m_rule μ 0 (24 + r) (fV r) (lVa r) else m_rule μ 1 (24 + r) (fV r) (lVa r)) = some μ3 := by
      intro μ2 μ3 q1 q2
      unfold m_rule
      rw [if_pos p4, kbind_eq b1]
      show (if (1 : Int) = 0 then _ else _) = _
      rw [if_neg (by decide), klet_eq, kbind_eq q1]
      exact q2
    generalize hμ3 : kst (kst μ 0 g0) 0 (kup (kst μ 0 g0 0) (24 + r) (kst μ 0 g0 0 27)) = μ3 at *
    have hrule2 : ∀ σ4 σ5 σ6 : kM, pf_gP 80 0 σ3 0 0 = some σ4 → σ4 12 4 = (r : Int) → kst σ4 20 (kup (σ4 20) r (σ4 17 1)) = σ5 → pf_Parser_takeSign_12 σ5 59 = some σ6 → pf_Parser_takeRule_12 σ (r : Int) = some σ6 := by
      intro σ4 σ5 σ6 q1 q2 q3 q4
      unfold pf_Parser_takeRule_12 pf_Rules_end_17
      rw [kbind_eq hhas, if_pos rfl, klet_eq, kbind_eq hadv, kbind_eq hbeg, kbind_eq q1, q2, kchk_t hr3, klet_eq, Int.toNat_natCast, q3, kbind_eq rfl, kbind_eq q4]
    have e0 : ∀ c : Nat, c ≠ 0 → c ≠ 7 → (mE0 μ3 (fV r) (lVa r)) c = μ3 c := fun c x y => by
      show kst (kst μ3 0 _) 7 _ c = _
      rw [kst_ne y, kst_ne x]
    have e00 : ∀ j : Nat, j < 28 ∨ 31 < j → (mE0 μ3 (fV r) (lVa r)) 0 j = μ3 0 j := fun j x => by
      show kst (kst μ3 0 _) 7 _ 0 j = _
      rw [kst_ne (by decide), kst_eq, kup_ne (by omega), kup_ne (by omega), kup_ne (by omega), kup_ne (by omega)]
    have e28 : (mE0 μ3 (fV r) (lVa r)) 0 28 = fV r := by
      show kst (kst μ3 0 _) 7 _ 0 28 = _
      rw [kst_ne (by decide), kst_eq, kup_ne (by decide), kup_ne (by decide), kup_ne (by decide), kup_eq]
    have e29 : (mE0 μ3 (fV r) (lVa r)) 0 29 = lVa r := by
      show kst (kst μ3 0 _) 7 _ 0 29 = _
      rw [kst_ne (by decide), kst_eq, kup_ne (by decide), kup_ne (by decide), kup_eq]
    have e30 : (mE0 μ3 (fV r) (lVa r)) 0 30 = 0 := by
      show kst (kst μ3 0 _) 7 _ 0 30 = _
      rw [kst_ne (by decide), kst_eq, kup_ne (by decide), kup_eq]
    have e31 : (mE0 μ3 (fV r) (lVa r)) 0 31 = 1 := by
      show kst (kst μ3 0 _) 7 _ 0 31 = _
      rw [kst_ne (by decide), kst_eq, kup_eq]
    have e7 : (mE0 μ3 (fV r) (lVa r)) 7 1 = 0 := by
      show kst (kst μ3 0 _) 7 _ 7 1 = _
      rw [kst_eq, kup_eq]
    have hex := m_expr (x1 := fV r) (x2 := lVa r) hM3.2.1.1
    generalize hμ4 : mE0 μ3 (fV r) (lVa r) = μ4 at *
    have hME : ME T n μ4 (i + 1) R [] 1 (μ4 7) μ4 := ⟨hM3.1.upd (e0 2 (by decide) (by decide)) (fun j _ _ => e00 j (by omega)), ⟨by rw [e00 10 (by decide)]; exact hM3.2.1.1, rfl⟩, ⟨by rw [e00 27 (by decide), mS0 27 (by decide) (by omega)]; exact hm.1, by rw [e0 5 (by decide) (by decide), mS 5 (by decide)]; exact hm.2.1⟩, ⟨e30, trivial⟩, ⟨e31, fun _ _ => rfl⟩, fun _ _ => rfl, fun _ _ _ _ _ => rfl⟩
    have hLP : LvP T n m KD ST LN VL σ3 μ4 0 0 (i + 1) C R [] (μ4 7) kFuel kFuel 1 σ3 μ4 := ⟨hCE, hME, hi, by omega, by show R.length + 2 * 0 + 2 ≤ _; omega, ⟨Nat.le_trans (show 800 ≤ kFuel by decide) (Nat.le_add_right _ _), Nat.le_trans (show 800 ≤ kFuel by decide) (Nat.le_add_right _ _)⟩, Or.inl rfl, Or.inl ⟨by decide, rfl⟩, fun _ => e7⟩
    have frm : ∀ μ5 : kM, frE μ4 μ5 → (∀ c : Nat, (1 ≤ c ∧ c ≤ 4) ∨ 8 ≤ c → μ5 c = μ c) ∧ (∀ j : Nat, j < 10 ∨ j = 12 ∨ (20 < j ∧ j < 27) ∨ 31 < j → j ≠ 24 + r → μ5 0 j = μ 0 j) ∧ μ5 0 (24 + r) = (R.length : Int) := by
      intro μ5 hf
      refine ⟨fun c x => ?_, fun j x y => ?_, ?_⟩
      · rw [hf.2 c (by omega) (by omega) (by omega) (by omega), e0 c (by omega) (by omega), mS c (by omega)]
      · rw [hf.1 j (by omega), e00 j (by omega), mS0 j (by omega) y]
      · rw [hf.1 (24 + r) (by omega), e00 (24 + r) (by omega), mSr]
    rcases (LH_all hK hr3 fS4 e28 e29 80).1 0 0 (by decide) (by decide) (by decide) _ _ _ _ _ _ _ _ _ _ hLP with ⟨E1, Q, j, N, tq', σ4, μ5, r1, r2, r3, r4⟩ | ⟨σ4, μ5, f, p, r1, r2, r3, r4⟩
    · have r1 : pf_gP 80 0 σ3 0 0 = some σ4 := r1
      obtain ⟨g1, g2, g3, g4, g5, g6, g7, g8, g9⟩ := r3
      have hQ14 : ∀ b ∈ ([] ++ Q.map rv_o : List Int), b < 14 := by
        intro b hb
        rw [List.nil_append] at hb
        obtain ⟨c, hc, rfl⟩ := List.mem_map.mp hb
        exact (sTr_lV (g6 c hc).1 (g6 c hc).2.1).2
      have hlenE := en_len E1
      have hlenQ : ([] ++ Q.map rv_o : List Int).length = Q.length := by rw [List.nil_append, List.length_map]
      obtain ⟨N', rfl⟩ : ∃ k, N = k + 2 := ⟨N - 2, by omega⟩
      have ho : oC KD VL j = -1 ∨ (lV (oC KD VL j) = 3 ∧ tq' 1 = 1) := by
        rcases r4 with x | x | x
        · exact Or.inl x
        · have := (lV_rng (oC KD VL j)).1
          omega
        · exact Or.inr x
      have hkb : KB (N' + 2) μ5 = some μ5 := KB_end hK g1.2 g3 (by decide) ho (Or.inr ⟨by rw [hlenQ]; omega, hQ14⟩)
      obtain ⟨μ6, d1, d2⟩ := m_drops (s := 0) (l := 0) (W := []) g3 (fun c hc => ⟨(g6 c hc).1, (g6 c hc).2.1, by have := (g6 c hc).2.2; omega⟩) (Or.inl rfl) (by decide) (by rw [List.length_append]; omega) (by show 0 + Q.length ≤ 950; omega)
      rw [List.append_assoc, ← en_app] at d2
      have hlenF := en_len (E1 ++ Q.reverse)
      have hEl : (E1 ++ Q.reverse).length = E1.length + Q.length := by rw [List.length_append, List.length_reverse]
      generalize hE : E1 ++ Q.reverse = E at *
      obtain ⟨μ7, d3, d4⟩ := m_puts d2 (by rw [List.length_append]; omega) 0
      have htail : m_tail μ5 = some μ7 := by
        have h31 : μ5 0 31 ≤ 1 := by rw [g3.2.2.2.2.1.1]; decide
        unfold m_tail mm_expression_j360
        rw [kbind_eq (m_isGood1 g3.2.1.1), if_neg (by decide), if_pos h31, kbind_eq d1, kbind_eq d3]
      rw [r2, hkb, kbind_eq rfl, htail] at hex
      have hMf : KMg T n μ0 j μ7 := by
        obtain ⟨q1, q2, q3⟩ := frm μ7 d4.2.2.2.2.2
        refine ⟨d4.1, ⟨d4.2.1.1, ?_⟩, fun c x => ?_, fun k x => ?_⟩
        · rw [d4.2.1.2, e00 11 (by decide)]
          exact hM3.2.1.2
        · rw [q1 c (by omega)]
          exact hM.2.2.1 c x
        · rw [q2 k (by omega) (by omega)]
          exact hM.2.2.2 k x
      have hCf : KCg m KD ST LN VL σ0 j σ4 := by
        refine ⟨g2.1, ⟨g2.f0, ?_⟩, fun c x => ?_⟩
        · rw [g2.2.2.2.2 12 (by decide) (by decide) (by decide)]
          exact hC3.2.1.2
        · rw [g2.2.2.2.2 c (by omega) (by omega) (by omega)]
          exact hC3.2.2 c x
      have h124 : σ4 12 4 = (r : Int) := by rw [g2.2.2.2.2 12 (by decide) (by decide) (by decide), fS4]
      have hC5 : KCg m KD ST LN VL σ0 j (kst σ4 20 (kup (σ4 20) r (σ4 17 1))) := hCf.put (by decide)
      have hRE : (R ++ en E ++ [0]) = R ++ (en E ++ [0]) := List.append_assoc _ _ _
      rw [hRE] at d4
      rcases s_end hK g1.2 hC5 hMf with ⟨u1, u2, u3, g', u4, u5, u6⟩ | ⟨f, p, u1, u2, u3, u4⟩
      · refine ⟨_, _, hrule2 _ _ _ r1 h124 rfl u2, hrule _ _ hex u4, Or.inl ⟨j + 1, E, ⟨by omega, u1⟩, u3, u6, ?_, ⟨?_, ?_, ?_⟩, ⟨?_, ?_⟩, fun c hc => ?_, ⟨?_, ?_, ?_, ?_⟩, ?_, fun k hk hk2 => ?_, ?_⟩⟩
        · have hok : rv_ok E 0 := by
            have h0 := g7.1 [] 0 (by decide) rfl
            rw [List.append_nil] at h0
            exact h0
          refine ⟨fun x => ?_, hok, g7.2⟩
          rw [x] at hok
          exact absurd hok (by show ¬ (0 : Nat) = 1; decide)
        · show kst (kst σ4 20 _) 24 _ 17 1 = _
          rw [kst_ne (by decide), kst_ne (by decide)]
          exact g2.2.2.1
        · show rv_at (kst (kst σ4 20 _) 24 _ 18) 0 _
          rw [kst_ne (by decide), kst_ne (by decide)]
          exact g2.2.2.2.1
        · rw [List.length_append]
          omega
        · show kst (kst σ4 20 _) 24 _ 19 = _
          rw [kst_ne (by decide), kst_ne (by decide), g2.2.2.2.2 19 (by decide) (by decide) (by decide), fS19]
        · show kst (kst σ4 20 _) 24 _ 20 = _
          rw [kst_ne (by decide), kst_eq, g2.2.2.1, g2.2.2.2.2 20 (by decide) (by decide) (by decide), fS 20 (by decide) (by decide) (by decide), List.length_append]
        · show kst (kst σ4 20 _) 24 _ c = _
          rw [kst_ne (by omega), kst_ne (by omega), g2.2.2.2.2 c (by omega) (by omega) (by omega), fS c (by omega) (by omega) (by omega)]
        · rw [kst_eq, u5 27 (by decide)]
          exact d4.2.2.1.1
        · rw [kst_ne (by decide)]
          exact d4.2.2.1.2
        · rw [List.length_append, List.length_append]
          show R.length + ((en E).length + 1) ≤ _
          omega
        · omega
        · rw [kst_eq, u5 (24 + r) (by omega)]
          exact (frm μ7 d4.2.2.2.2.2).2.2
        · rw [kst_eq, u5 k (by omega)]
          exact (frm μ7 d4.2.2.2.2.2).2.1 k (by omega) hk2
        · rw [kst_ne (by decide)]
          exact (frm μ7 d4.2.2.2.2.2).1 4 (by decide)
      · exact ⟨_, _, hrule2 _ _ _ r1 h124 rfl u1, hrule _ _ hex u3, Or.inr ⟨f, p, u2, u4⟩⟩
    · have r1 : pf_gP 80 0 σ3 0 0 = some σ4 := r1
      obtain ⟨μ6, d1, d2, d3, d4, d5⟩ := m_tailX hK r4
      rw [r3, kbind_eq rfl, d1] at hex
      obtain ⟨q1, q2, -⟩ := frm μ6 d5
      have hmx : mxS μ0 f p μ6 := by
        refine ⟨d2, d3, d4, fun c x => ?_, fun k x => ?_⟩
        · rw [q1 c (by omega)]
          exact hM.2.2.1 c x
        · rw [q2 k (by omega) (by omega)]
          exact hM.2.2.2 k x
      obtain ⟨x1, x2, x3, x4⟩ := r2
      have hcx : cxS m KD ST LN VL σ0 f p (kst σ4 20 (kup (σ4 20) r (σ4 17 1))) := by
        refine ⟨x1.put (by decide) (by decide), fun c y => ?_⟩
        rw [kst_ne (by omega), x4 c (by omega) (by omega) (by omega) (by omega)]
        exact hC3.2.2 c y
      exact ⟨_, _, hrule2 _ _ _ r1 (x3.trans fS4) rfl (cf_sign hK hcx.1 59), hrule _ _ hex (mx_end hmx), Or.inr ⟨f, p, hcx, hmx⟩⟩
  · -- one that was told
    have hx := hM.wr (x := 5) (p := ST i) (by decide)
    have hPl : 0 < P.length := List.length_pos_iff.mpr p1
    have hle : ¬ ((A.length + P.length : Nat) : Int) ≤ (A.length : Int) := by omega
    have hne : ¬ (A'.length : Int) = -1 := by omega
    refine ⟨_, _, ?_, ?_, Or.inr ⟨5, ST i, hC.rf (by decide), hx⟩⟩
    · have hhas : pf_Rules_has_17 σ (r : Int) = some 1 := by
        unfold pf_Rules_has_17
        rw [kchk_t hr3, kchk_t hr3, Int.toNat_natCast, p3, p4, if_neg hle]
      unfold pf_Parser_takeRule_12
      rw [kbind_eq hhas, if_neg (by decide), kbind_eq (c_refuse hC.1 h7 hi' hC.2.1.1 5)]
    · unfold m_rule
      rw [p6, if_neg hne, kbind_eq (m_begins5 hK hi' hM)]
      exact mx_end hx
end RUS

/-! state: a level of an expression, in both -/
/-- how the reference ends where it is refused: it says so, or stands within parentheses -/
def RvX (T : Nat → Int) (n m : Nat) (ST : Nat → Int) (μ0 : kM) (f p : Int) (μ : kM) : Prop := MX μ0 f p μ ∨ ∃ (i : Nat) (R W : List Int) (d : Nat) (tq : Nat → Int), ME T n μ0 i R W d tq μ ∧ i ≤ m ∧ 2 ≤ d ∧ f = 1 ∧ p = ST i ∧ R.length + W.length + 1 ≤ 1400 ∧ W.length ≤ 950
def XvC (KD VL : Nat → Int) (l a i : Nat) (tq : Nat → Int) : Prop := oC KD VL i = -1 ∨ lV (oC KD VL i) < (l : Int) ∨ (lV (oC KD VL i) = 3 ∧ tq (a + 1) = 1)
/-- ahead of a level -/
def LvP (T : Nat → Int) (n m : Nat) (KD ST LN VL : Nat → Int) (σ0 μ0 : kM) (l a i : Nat) (C R W : List Int) (tq : Nat → Int) (N1 N2 : Nat) (fl : Int) (σ μ : kM) : Prop := CE m KD ST LN VL σ0 i C σ ∧ ME T n μ0 i R W (a + 1) tq μ ∧ i ≤ m ∧ C.length ≤ i ∧ R.length + 2 * W.length + 2 ≤ 2 * i ∧ (800 ≤ N1 + i ∧ 800 ≤ N2 + i) ∧ stp W ((l : Int) + 1) ∧ ((l ≤ 2 ∧ fl = 1) ∨ (2 < l ∧ (fl = 0 ∨ ¬ WD KD VL i 8))) ∧ (l ≤ 3 → tq (a + 1) = 0)
/-- behind it -/
def GvS (T : Nat → Int) (n m : Nat) (KD ST LN VL : Nat → Int) (σ0 μ0 : kM) (ok : Int → Prop) (l a i : Nat) (C R W : List Int) (tq : Nat → Int) (E1 P : List Int) (i' N : Nat) (tq' : Nat → Int) (σ' μ' : kM) : Prop := (i < i' ∧ i' ≤ m) ∧ CE m KD ST LN VL σ0 i' (C ++ (E1 ++ P.reverse)) σ' ∧ ME T n μ0 i' (R ++ en E1) (W ++ P.map rv_o) (a + 1) tq' μ' ∧ 800 ≤ N + i' ∧ E1.length + P.length + i ≤ i' ∧ (∀ c ∈ P, -17 ≤ c ∧ c ≤ -9 ∧ (l : Int) ≤ lV c) ∧ okE (7 - l + 6 * (5 - a)) ok (E1 ++ P.reverse) ∧ (∀ k, k ≤ a → tq' k = tq k) ∧ (4 ≤ l → tq' (a + 1) = tq (a + 1))
def LvG (T : Nat → Int) (n m : Nat) (KD ST LN VL : Nat → Int) (σ0 μ0 : kM) (ok : Int → Prop) (l a i : Nat) (C R W : List Int) (tq : Nat → Int) (res ka : Option kM) : Prop :=
  (∃ (E1 P : List Int) (i' N : Nat) (tq' : Nat → Int) (σ' μ' : kM), res = some σ' ∧ ka = KB N μ' ∧ GvS T n m KD ST LN VL σ0 μ0 ok l a i C R W tq E1 P i' N tq' σ' μ' ∧ XvC KD VL l a i' tq') ∨
  (∃ (σ' μ' : kM) (f p : Int), res = some σ' ∧ CX m KD ST LN VL σ0 f p σ' ∧ ka = some μ' ∧ RvX T n m ST μ0 f p μ')
def LvH (T : Nat → Int) (n m : Nat) (KD ST LN VL : Nat → Int) (σ0 μ0 : kM) (ok : Int → Prop) (rc : kM → Option kM) (l a : Nat) : Prop := ∀ (i : Nat) (C R W : List Int) (tq : Nat → Int) (N1 N2 : Nat) (fl : Int) (σ μ : kM), LvP T n m KD ST LN VL σ0 μ0 l a i C R W tq N1 N2 fl σ μ → LvG T n m KD ST LN VL σ0 μ0 ok l a i C R W tq (rc σ) (KA N1 N2 fl μ)
section LVS
variable {T : Nat → Int} {n m : Nat} {KD ST LN VL : Nat → Int} {σ0 μ0 : kM} {ok : Int → Prop}
theorem stp_mono {W : List Int} {s t : Int} (h : s ≤ t) (hs : stp W s) : stp W t := by
  rcases hs with x | ⟨V, a, e, x | x⟩
  · exact Or.inl x
  · exact Or.inr ⟨V, a, e, Or.inl x⟩
  · exact Or.inr ⟨V, a, e, Or.inr (by omega)⟩
theorem KA_bad {N1 N2 : Nat} {fl : Int} {μ μ' : kM} {f p : Int} (h : KO N1 μ fl = some μ') (hx : MX μ0 f p μ') (h2 : 1 ≤ N2) : KA N1 N2 fl μ = some μ' := by
  obtain ⟨k, rfl⟩ : ∃ k, N2 = k + 1 := ⟨N2 - 1, by omega⟩
  unfold KA
  rw [kbind_eq h, kbind_eq (m_partF hx.bad), KB_bad hx.bad]
theorem KA_part {N1 N2 : Nat} {fl : Int} {μ μ' μ'' : kM} (h : KO N1 μ fl = some μ') (h2 : mm_part μ' = some μ'') : KA N1 N2 fl μ = KB N2 μ'' := by
  unfold KA
  rw [kbind_eq h, kbind_eq h2]
theorem GvS.len {l a i : Nat} {C R W : List Int} {tq : Nat → Int} {E1 P : List Int} {i' N : Nat} {tq' : Nat → Int} {σ' μ' : kM} (h : GvS T n m KD ST LN VL σ0 μ0 ok l a i C R W tq E1 P i' N tq' σ' μ') (hC : C.length ≤ i) (hR : R.length + 2 * W.length + 2 ≤ 2 * i) : (C ++ (E1 ++ P.reverse)).length ≤ i' ∧ (R ++ en E1).length + 2 * (W ++ P.map rv_o).length + 2 ≤ 2 * i' ∧ (R ++ en E1).length + P.length + 2 * W.length + 2 ≤ 2 * i' ∧ (R ++ en (E1 ++ P.reverse)).length + 2 * W.length + 2 ≤ 2 * i' ∧ W.length + P.length + 1 ≤ i' := by
  have h1 := h.2.2.2.2.1
  have h2 := en_len E1
  have h3 := en_len P.reverse
  simp only [List.length_append, List.length_map, List.length_reverse, en_app] at *
  omega
theorem lV_ne2 {c : Int} (h1 : -17 ≤ c) (h2 : c ≤ -10) : lV c ≠ 2 := by
  have h : c = -17 ∨ c = -16 ∨ c = -15 ∨ c = -14 ∨ c = -13 ∨ c = -12 ∨ c = -11 ∨ c = -10 := by omega
  rcases h with rfl | rfl | rfl | rfl | rfl | rfl | rfl | rfl <;> decide
/-- the operators of a level -/
theorem LvL (hK : TKf T n m KD ST LN VL) {d l a i : Nat} {C R W : List Int} {tq : Nat → Int} (hl : l ≤ 5) (ha : a ≤ 5) (hd : 8 ≤ d + (l + 1)) (hC : C.length ≤ i) (hR : R.length + 2 * W.length + 2 ≤ 2 * i) (hs : l ≠ 2 → stp W ((l : Int) + 1)) (hH : LvH T n m KD ST LN VL σ0 μ0 ok (fun σ => pf_gP d 0 σ ((l + 1 : Nat) : Int) (a : Int)) (l + 1) a) (x3 x4 : Int) (h4 : l = 3 ∧ x4 = 1 ∨ l ≠ 3 ∧ x4 = 700) :
    ∀ (q fuel x5 i' N : Nat) (E1 P : List Int) (tq' : Nat → Int) (σ' μ' : kM), m - i' ≤ q → q < fuel → GvS T n m KD ST LN VL σ0 μ0 ok l a i C R W tq E1 P i' N tq' σ' μ' → x5 < i' → (l = 3 → (x5 = 0 ∧ tq' (a + 1) = 0) ∨ (1 ≤ x5 ∧ tq' (a + 1) = 1)) → XvC KD VL (l + 1) a i' tq' →
    LvG T n m KD ST LN VL σ0 μ0 ok l a i C R W tq (kloop (fun st => pf_Parser_takeLevel_12_l50 (pf_gP d) st.1 (l : Int) (a : Int) x3 x4 st.2) fuel (σ', (x5 : Int))) (KB N μ') := by
  intro q
  induction q with
  | zero =>
    intro fuel x5 i' N E1 P tq' σ' μ' hq hf h hx h3 hxc
    obtain ⟨f, rfl, -⟩ := fu_s hf
    have him : i' = m := by have := h.1.2; omega
    refine Or.inl ⟨E1, P, i', N, tq', σ', μ', kloop_r ?_, rfl, h, Or.inl (by rw [him]; exact oC_m hK)⟩
    show pf_Parser_takeLevel_12_l50 (pf_gP d) σ' (l : Int) (a : Int) x3 x4 (x5 : Int) = _
    unfold pf_Parser_takeLevel_12_l50
    by_cases c : x4 ≤ (x5 : Int)
    · rw [if_pos c]
    · have e := c_opOf hK h.2.1.1 h.1.2 (l := (l : Int)) (by omega) (by omega)
      rw [if_neg (fun x => x.1 (by rw [him]; exact oC_m hK))] at e
      rw [if_neg c, kbind_eq e, if_pos rfl]
  | succ q ih =>
    intro fuel x5 i' N E1 P tq' σ' μ' hq hf h hx h3 hxc
    obtain ⟨f, rfl, hm⟩ := fu_s hf
    have hm := hm _ rfl
    have hi' := h.1.2
    have h7 := hK.m7
    have e := c_opOf hK h.2.1.1 hi' (l := (l : Int)) (by omega) (by omega)
    by_cases c : x4 ≤ (x5 : Int)
    · -- one test is enough
      refine Or.inl ⟨E1, P, i', N, tq', σ', μ', kloop_r ?_, rfl, h, ?_⟩
      · show pf_Parser_takeLevel_12_l50 (pf_gP d) σ' (l : Int) (a : Int) x3 x4 (x5 : Int) = _
        unfold pf_Parser_takeLevel_12_l50
        rw [if_pos c]
      · have hl3 : l = 3 := by
          rcases h4 with ⟨x, -⟩ | ⟨-, y⟩
          · exact x
          · omega
        have ht : tq' (a + 1) = 1 := by
          rcases h3 hl3 with ⟨x, -⟩ | ⟨-, y⟩
          · rcases h4 with ⟨-, y⟩ | ⟨y, -⟩
            · omega
            · exact absurd hl3 y
          · exact y
        rcases hxc with x | x | x
        · exact Or.inl x
        · by_cases y : lV (oC KD VL i') = 3
          · exact Or.inr (Or.inr ⟨y, ht⟩)
          · exact Or.inr (Or.inl (by omega))
        · exact Or.inr (Or.inr x)
    · by_cases o : oC KD VL i' ≠ -1 ∧ lV (oC KD VL i') = (l : Int)
      · -- an operator
        rw [if_pos o] at e
        obtain ⟨o1, o2⟩ := o
        have him : i' < m := by
          rcases Nat.lt_or_ge i' m with x | x
          · exact x
          · exact absurd (by rw [show i' = m by omega]; exact oC_m hK) o1
        obtain ⟨n1, n2, n3, n4, n5⟩ := h.len hC hR
        have oR : -17 ≤ oC KD VL i' ∧ oC KD VL i' ≤ -10 := (oC_spec KD VL i').1.resolve_left o1
        have hl2 : l ≠ 2 := fun z => lV_ne2 oR.1 oR.2 (by rw [o2, z]; rfl)
        have ht0 : l = 3 → tq' (a + 1) = 0 := by
          intro x
          rcases h3 x with ⟨-, y⟩ | ⟨y, -⟩
          · exact y
          · rcases h4 with ⟨-, z⟩ | ⟨z, -⟩
            · omega
            · exact absurd x z
        obtain ⟨μ1, tq1, s1, s2, s3, s4, s5, s6⟩ := m_opstep hK hi' h.2.2.1 o1 (fun x hx => by rw [o2]; exact h.2.2.2.2.2.1 x hx) (by rw [o2]; exact hs hl2) (fun x => ht0 (by omega)) (by omega) (by omega) (by omega)
        rw [List.append_assoc, ← en_app] at s2
        obtain ⟨N', rfl⟩ : ∃ k, N = k + 1 := ⟨N - 1, by have := h.2.2.2.1; omega⟩
        have hkb := KB_op (N := N') s1
        rw [o2] at s4 s5 s6 hkb
        have hst := sTr_lV oR.1 (by omega)
        have hN := h.2.2.2.1
        have hLP : LvP T n m KD ST LN VL σ0 μ0 (l + 1) a (i' + 1) (C ++ (E1 ++ P.reverse)) (R ++ en (E1 ++ P.reverse)) (W ++ [rv_o (oC KD VL i')]) tq1 kFuel N' (if (l : Int) ≤ 1 then 1 else 0) (cAd σ' i') μ1 := by
          refine ⟨h.2.1.ad, s2, him, by omega, ?_, ⟨Nat.le_trans (show 800 ≤ kFuel by decide) (Nat.le_add_right _ _), by omega⟩, Or.inr ⟨W, _, rfl, Or.inr ?_⟩, ?_, fun x => ?_⟩
          · rw [List.length_append (as := W), List.length_singleton]
            omega
          · rw [hst.1, o2]
            omega
          · by_cases y : (l : Int) ≤ 1
            · exact Or.inl ⟨by omega, if_pos y⟩
            · refine Or.inr ⟨?_, Or.inl (if_neg y)⟩
              omega
          · by_cases y : (l : Int) ≤ 1
            · exact s4 y
            · exact absurd (show l = 2 by omega) hl2
        have hb : ∀ σ1 σ2 : kM, pf_gP d 0 (cAd σ' i') ((l + 1 : Nat) : Int) (a : Int) = some σ1 → pf_Rules_emit_17 σ1 (oC KD VL i') = some σ2 → pf_Parser_takeLevel_12_l50 (pf_gP d) σ' (l : Int) (a : Int) x3 x4 (x5 : Int) = some (.inl (σ2, ((x5 + 1 : Nat) : Int))) := by
          intro σ1 σ2 y1 y2
          have ew := kw_inc (i := l) (by omega)
          have ew2 := kw_inc (i := x5) (by omega)
          unfold pf_Parser_takeLevel_12_l50
          rw [if_neg c, kbind_eq e, if_neg o1, kbind_eq e, kbind_eq (c_adv h.2.1.1 hK.m7 him), ew, kbind_eq y1, kbind_eq y2, klet_eq, ew2]
        have hB1 : 7 - l + 6 * (5 - a) = (7 - (l + 1) + 6 * (5 - a)) + 1 := by omega
        rcases hH _ _ _ _ _ _ _ _ _ _ hLP with ⟨F1, Q, j, N2, tq2, σ2, μ2, r1, r2, r3, r4⟩ | ⟨σ2, μ2, f', p', r1, r2, r3, r4⟩
        · obtain ⟨g1, g2, g3, g4, g5, g6, g7, g8, g9⟩ := r3
          have hE := h.2.2.2.2.2.2.1
          rw [hB1] at hE
          have hO := okE.op (by omega) hE g7 oR.1 (by omega)
          have hlen : (C ++ (E1 ++ P.reverse) ++ (F1 ++ Q.reverse)).length < 700 := by
            rw [List.length_append, List.length_append (as := F1), List.length_reverse]
            omega
          obtain ⟨σ3, u1, u2⟩ := c_emit g2 hlen (oC KD VL i')
          have eL : C ++ (E1 ++ P.reverse) ++ (F1 ++ Q.reverse) ++ [oC KD VL i'] = C ++ ((E1 ++ P.reverse ++ F1) ++ ([oC KD VL i'] ++ Q).reverse) := by
            rw [List.reverse_append]
            simp only [List.append_assoc]
            rfl
          have eO : (E1 ++ P.reverse) ++ ((F1 ++ Q.reverse) ++ [oC KD VL i']) = (E1 ++ P.reverse ++ F1) ++ ([oC KD VL i'] ++ Q).reverse := by
            rw [List.reverse_append]
            simp only [List.append_assoc]
            rfl
          have eR : R ++ en (E1 ++ P.reverse) ++ en F1 = R ++ en (E1 ++ P.reverse ++ F1) := by
            rw [en_app (E1 ++ P.reverse) F1, List.append_assoc]
          have eW : W ++ [rv_o (oC KD VL i')] ++ Q.map rv_o = W ++ ([oC KD VL i'] ++ Q).map rv_o := by
            rw [List.map_append, List.append_assoc]
            rfl
          rw [eL] at u2
          rw [eR, eW] at g3
          rw [eO, ← hB1] at hO
          have hnew : GvS T n m KD ST LN VL σ0 μ0 ok l a i C R W tq (E1 ++ P.reverse ++ F1) ([oC KD VL i'] ++ Q) j N2 tq2 σ3 μ2 := by
            refine ⟨⟨by have := h.1.1; omega, g1.2⟩, u2, g3, g4, ?_, ?_, hO, ?_, ?_⟩
            · have := h.2.2.2.2.1
              simp only [List.length_append, List.length_reverse, List.length_singleton]
              omega
            · intro x hx
              rcases List.mem_append.mp hx with y | y
              · rw [List.mem_singleton] at y
                rw [y]
                exact ⟨oR.1, by omega, by omega⟩
              · obtain ⟨z1, z2, z3⟩ := g6 x y
                exact ⟨z1, z2, by omega⟩
            · intro k hk
              rw [g8 k hk, s3 k (by omega), h.2.2.2.2.2.2.2.1 k hk]
            · intro x
              rw [g9 (by omega), s6 (by omega), h.2.2.2.2.2.2.2.2 x]
          have hrec := ih f (x5 + 1) j N2 (E1 ++ P.reverse ++ F1) ([oC KD VL i'] ++ Q) tq2 σ3 μ2 (by omega) hm hnew (by omega) (fun x => Or.inr ⟨by omega, by rw [g9 (by omega), s5 (by omega)]⟩) r4
          rw [hkb, r2, kloop_l (hb σ2 σ3 r1 u1)]
          exact hrec
        · obtain ⟨σ3, u1, u2⟩ := cx_emit r2 (oC KD VL i')
          obtain ⟨f0, rfl⟩ : ∃ k, f = k + 1 := ⟨f - 1, by omega⟩
          refine Or.inr ⟨σ3, μ2, f', p', ?_, u2, by rw [hkb, r3], r4⟩
          rw [kloop_l (hb σ2 σ3 r1 u1)]
          exact cx_l50 hK u2 (by omega) (by omega) _ _ _ _
      · -- none
        rw [if_neg o] at e
        refine Or.inl ⟨E1, P, i', N, tq', σ', μ', kloop_r ?_, rfl, h, ?_⟩
        · show pf_Parser_takeLevel_12_l50 (pf_gP d) σ' (l : Int) (a : Int) x3 x4 (x5 : Int) = _
          unfold pf_Parser_takeLevel_12_l50
          rw [if_neg c, kbind_eq e, if_pos rfl]
        · rcases hxc with x | x | x
          · exact Or.inl x
          · by_cases y : oC KD VL i' = -1
            · exact Or.inl y
            · have : lV (oC KD VL i') ≠ (l : Int) := fun z => o ⟨y, z⟩
              exact Or.inr (Or.inl (by omega))
          · exact Or.inr (Or.inr x)
end LVS

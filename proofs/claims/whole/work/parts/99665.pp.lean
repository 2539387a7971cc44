/-! state: a part in both; the whole of an expression -/
section PPS
variable {T : Nat → Int} {n m : Nat} {KD ST LN VL : Nat → Int} {σ0 μ0 : kM}
theorem XC6 (KD VL : Nat → Int) (a i : Nat) (tq : Nat → Int) : XvC KD VL 6 a i tq := Or.inr (Or.inl (by have := (lV_rng (oC KD VL i)).2; omega))
/-- one number more, in both -/
theorem GS_one {r : Int} {a i N2 : Nat} {C R W : List Int} {tq : Nat → Int} {c : Int} {σ' μ' : kM} (hi : i < m) (hN : 800 ≤ N2 + i) (h1 : -9 < c) (h2 : c < 0 → vOk r c) (hC : CE m KD ST LN VL σ0 (i + 1) (C ++ [c]) σ') (hM : ME T n μ0 (i + 1) (R ++ en1 c) W (a + 1) tq μ') : GvS T n m KD ST LN VL σ0 μ0 (vOk r) 6 a i C R W tq [c] [] (i + 1) N2 tq σ' μ' := by
  refine ⟨⟨by omega, hi⟩, hC, ?_, by omega, ?_, fun x hx => absurd hx List.not_mem_nil, ?_, fun _ _ => rfl, fun _ => rfl⟩
  · show ME T n μ0 (i + 1) (R ++ en [c]) (W ++ []) (a + 1) tq μ'
    rw [en_one, List.append_nil]
    exact hM
  · show 1 + 0 + i ≤ i + 1
    omega
  · show okE _ (vOk r) [c]
    exact (okE.one h1 h2).mono (by omega)
theorem LH_part (hK : TKf T n m KD ST LN VL) {r : Int} (hr : 0 ≤ r ∧ r < 3) (hr0 : σ0 12 4 = r) (h28 : μ0 0 28 = fV r) (h29 : μ0 0 29 = lVa r) {d a : Nat} (ha : a ≤ 5) (hH : a < 5 → LvH T n m KD ST LN VL σ0 μ0 (vOk r) (fun σ => pf_gP d 0 σ ((0 : Nat) : Int) ((a + 1 : Nat) : Int)) 0 (a + 1)) : LvH T n m KD ST LN VL σ0 μ0 (vOk r) (fun σ => pf_gP (d + 1) 1 σ (a : Int) 0) 6 a := by
  intro i C R W tq N1 N2 fl σ μ hP
  have h7 := hK.m7
  obtain ⟨p1, p2, p3, p4, p5, ⟨p6, p6'⟩, p7, p8, p9⟩ := hP
  have hfl : fl = 0 ∨ ¬ WD KD VL i 8 := by
    rcases p8 with ⟨x, -⟩ | ⟨-, y⟩
    · omega
    · exact y
  show LvG T n m KD ST LN VL σ0 μ0 (vOk r) 6 a i C R W tq (pf_gP (d + 1) 1 σ (a : Int) 0) _
  rw [gP_1]
  obtain ⟨M1, rfl⟩ : ∃ M, N1 = M + 2 := ⟨N1 - 2, by omega⟩
  have hk := c_kind p1.1 h7 p3
  have bad : ∀ (f p : Int) (σ' μ' : kM), ¬ SG KD VL i 40 → pf_Parser_takePart_12 (pf_gP d) σ (a : Int) = some σ' → CX m KD ST LN VL σ0 f p σ' → mm_part μ = some μ' → MX μ0 f p μ' → LvG T n m KD ST LN VL σ0 μ0 (vOk r) 6 a i C R W tq (pf_Parser_takePart_12 (pf_gP d) σ (a : Int)) (KA (M1 + 2) N2 fl μ) := by
    intro f p σ' μ' hs e1 e2 e3 e4
    obtain ⟨M2, rfl⟩ : ∃ M, N2 = M + 1 := ⟨N2 - 1, by omega⟩
    refine Or.inr ⟨σ', μ', f, p, e1, e2, ?_, Or.inl e4⟩
    rw [KA_part (KO_part hK p3 p2 hfl hs) e3, KB_bad e4.bad]
  have good : ∀ (c : Int) (σ' μ' : kM), ¬ SG KD VL i 40 → i < m → -9 < c → (c < 0 → vOk r c) → pf_Parser_takePart_12 (pf_gP d) σ (a : Int) = some σ' → CE m KD ST LN VL σ0 (i + 1) (C ++ [c]) σ' → mm_part μ = some μ' → ME T n μ0 (i + 1) (R ++ en1 c) W (a + 1) tq μ' → LvG T n m KD ST LN VL σ0 μ0 (vOk r) 6 a i C R W tq (pf_Parser_takePart_12 (pf_gP d) σ (a : Int)) (KA (M1 + 2) N2 fl μ) := by
    intro c σ' μ' hs hi hc hv e1 e2 e3 e4
    exact Or.inl ⟨[c], [], i + 1, N2, tq, σ', μ', e1, KA_part (KO_part hK p3 p2 hfl hs) e3, GS_one hi (by omega) hc hv e2 e4, XC6 _ _ _ _ _⟩
  by_cases k1 : KD i = 1
  · have hs : ¬ SG KD VL i 40 := fun x => absurd x.1 (by rw [k1]; decide)
    have hi := KD1.lt hK p3 k1
    by_cases l4 : LN i ≤ 4
    · obtain ⟨v1, v2⟩ := hK.nm p3 k1 l4
      obtain ⟨μ', m1, m2⟩ := m_part_n hK hi p2 k1 l4 (by omega)
      obtain ⟨σ', s1, s2⟩ := c_emit p1.ad (by omega) (VL i)
      refine good (VL i) σ' μ' hs hi (by omega) (fun x => by omega) ?_ s2 m1 (by unfold en1; rw [if_pos v1]; exact m2)
      unfold pf_Parser_takePart_12
      rw [kbind_eq hk, if_pos k1, kbind_eq (c_num1 hK p1.1 hi ⟨k1, l4, v1, v2⟩)]
      show (pf_Rules_emit_17 (cAd σ i) (VL i)).bind _ = _
      rw [kbind_eq s1]
    · have hx := p1.rf (x := 2) (p := ST i) (by omega) (by decide)
      obtain ⟨σ', s1, s2⟩ := cx_emit hx 0
      obtain ⟨μ', m1, m2⟩ := m_part_x hK p3 p2 (by omega) (fun _ => by omega) (by omega) (f := 2) (by decide) (Or.inl ⟨k1, by omega, rfl⟩)
      refine bad 2 (ST i) σ' μ' hs ?_ s2 m1 m2
      have hnum := c_num0 hK p1.1 p3 p1.f0 (x := 0) (y := 9999) (fun x => l4 x.2.1)
      rw [if_pos k1] at hnum
      unfold pf_Parser_takePart_12
      rw [kbind_eq hk, if_pos k1, kbind_eq hnum]
      show (pf_Rules_emit_17 (cRf σ m 2 (ST i)) 0).bind _ = _
      rw [kbind_eq s1]
  · by_cases k2 : KD i = 2
    · have hs : ¬ SG KD VL i 40 := fun x => absurd x.1 (by rw [k2]; decide)
      have hi : i < m := by
        rcases hK.kd p3 with ⟨x, -⟩ | ⟨x, -⟩
        · rw [x] at k2
          exact absurd k2 (by decide)
        · exact x
      have hw := c_word hK p1.1 h7 p3
      rw [if_pos k2] at hw
      have hwd := hK.wd p3 k2
      have hr4 : σ 12 4 = r := by rw [p1.2.2.2.2 12 (by decide) (by decide) (by decide), hr0]
      by_cases v : kand (kshr (kRu (VL i)) r) 1 = 1
      · obtain ⟨q1, q2, q3, q4, q5, q6⟩ := VA.of hK p3 hr ⟨k2, v, rfl⟩
        obtain ⟨μ', m1, m2⟩ := m_part_v hK hi p2 k2 ⟨by rw [h28]; exact q5, by rw [h29]; exact q6⟩ (by omega)
        obtain ⟨σ', s1, s2⟩ := c_emit p1 (by omega) (w32 (-1 - kPl (VL i)))
        refine good (w32 (-1 - kPl (VL i))) (cAd σ' i) μ' hs hi q1 (fun _ => q4) ?_ s2.ad m1 (by unfold en1; rw [if_neg (by omega), if_pos q1, q3]; exact m2)
        unfold pf_Parser_takePart_12 pf_Parser_takeValue_12 pf_Word_isValueOf
        rw [kbind_eq hk, if_neg k1, kbind_eq hk, if_pos k2, bind_id, kbind_eq hw, kchk_t hwd, kchk_t hwd, hr4, if_pos v, kbind_eq rfl, if_neg (by decide), kchk_t hwd, kbind_eq s1, kbind_eq (c_adv s2.1 h7 hi)]
      · have hn := VA.no hK p3 hr k2 v
        obtain ⟨μ', m1, m2⟩ := m_part_x hK p3 p2 (by omega) (fun _ => by omega) (by omega) (f := 3) (by decide) (Or.inr (Or.inl ⟨k2, by rw [h28, h29]; exact hn, rfl⟩))
        refine bad 3 (ST i) _ μ' hs ?_ (p1.rf (x := 3) (p := ST i) (by omega) (by decide)) m1 m2
        unfold pf_Parser_takePart_12 pf_Parser_takeValue_12 pf_Word_isValueOf
        rw [kbind_eq hk, if_neg k1, kbind_eq hk, if_pos k2, bind_id, kbind_eq hw, kchk_t hwd, kchk_t hwd, hr4, if_neg v, kbind_eq rfl, if_pos rfl, kbind_eq (c_refuse p1.1 h7 p3 p1.f0 3)]
    · by_cases hs : SG KD VL i 40
      · have hi := SG.lt hK p3 hs
        have hi1 : i + 1 ≤ m := hi
        have hsg := c_isSign1 p1.1 h7 p3 hs
        have hadv := c_adv p1.1 h7 hi
        by_cases a5 : a < 5
        · obtain ⟨μ1, o1, o2⟩ := KO_open (N := M1 + 1) hK hi p2 hfl hs (by omega) (by omega)
          have hKA : KA (M1 + 2) N2 fl μ = KA (M1 + 1) N2 1 μ1 := by
            unfold KA
            rw [o1]
          have hWl : (W ++ [(14 : Int)]).length = W.length + 1 := by rw [List.length_append, List.length_singleton]
          have hLP : LvP T n m KD ST LN VL σ0 μ0 0 (a + 1) (i + 1) C R (W ++ [14]) (kup tq (a + 1 + 1) 0) (M1 + 1) N2 1 (cAd σ i) μ1 := ⟨p1.ad, o2, hi, by omega, by rw [hWl]; omega, ⟨by omega, by omega⟩, Or.inr ⟨W, 14, rfl, Or.inl (by decide)⟩, Or.inl ⟨by decide, rfl⟩, fun _ => kup_eq _ _ _⟩
          have hpart : pf_Parser_takePart_12 (pf_gP d) σ (a : Int) = (pf_gP d 0 (cAd σ i) ((0 : Nat) : Int) ((a + 1 : Nat) : Int)).bind fun s => pf_Parser_takeSign_12 s 41 := by
            have a5' : ¬ (5 : Int) ≤ (a : Int) := by omega
            have ew := kw_inc (i := a) (by omega)
            have e0 : ((0 : Nat) : Int) = 0 := rfl
            unfold pf_Parser_takePart_12 pf_Parser_takePart_12_j109
            rw [kbind_eq hk, if_neg k1, kbind_eq hk, if_neg k2, kbind_eq hsg, if_neg (by decide), kbind_eq hadv, if_neg a5', ew, e0]
            exact congrArg (Option.bind (pf_gP d 0 (cAd σ i) 0 ((a + 1 : Nat) : Int))) (funext fun s => bind_id _)
          rw [hpart, hKA]
          rcases hH a5 _ _ _ _ _ _ _ _ _ _ hLP with ⟨E1, P, j, N, tq', σ2, μ2, r1, r2, r3, r4⟩ | ⟨σ2, μ2, f, p, r1, r2, r3, r4⟩
          · have hr1 : pf_gP d 0 (cAd σ i) ((0 : Nat) : Int) ((a + 1 : Nat) : Int) = some σ2 := r1
            obtain ⟨n1, n2, n3, n4, n5⟩ := r3.len (by omega) (by rw [hWl]; omega)
            rw [hWl] at n3 n4 n5
            obtain ⟨g1, g2, g3, g4, g5, g6, g7, g8, g9⟩ := r3
            rw [kbind_eq hr1, r2]
            by_cases cl : SG KD VL j 41
            · have hj := SG.lt hK g1.2 cl
              obtain ⟨N', rfl⟩ : ∃ k, N = k + 1 := ⟨N - 1, by omega⟩
              obtain ⟨μ3, u1, u2⟩ := KB_close (N := N') hK hj g3 (by omega) g6 cl (by omega) (by omega)
              rw [List.append_assoc, ← en_app] at u2
              have g2' := g2.ad
              refine Or.inl ⟨E1 ++ P.reverse, [], j + 1, N', tq', cAd σ2 j, μ3, c_sign1 hK g2.1 hj cl, u1, ⟨⟨by omega, hj⟩, ?_, ?_, by omega, ?_, fun x hx => absurd hx List.not_mem_nil, ?_, ?_, ?_⟩, XC6 _ _ _ _ _⟩
              · show CE m KD ST LN VL σ0 (j + 1) (C ++ (E1 ++ P.reverse ++ [])) _
                rw [List.append_nil]
                exact g2'
              · show ME T n μ0 (j + 1) _ (W ++ []) (a + 1) tq' μ3
                rw [List.append_nil]
                exact u2
              · show (E1 ++ P.reverse).length + 0 + i ≤ j + 1
                rw [List.length_append, List.length_reverse]
                omega
              · show okE _ (vOk r) (E1 ++ P.reverse ++ [])
                rw [List.append_nil]
                exact g7.mono (by omega)
              · intro k hk
                rw [g8 k (by omega), kup_ne (by omega)]
              · intro _
                rw [g8 (a + 1) (Nat.le_refl _), kup_ne (by omega)]
            · obtain ⟨N', rfl⟩ : ∃ k, N = k + 2 := ⟨N - 2, by omega⟩
              have ho : oC KD VL j = -1 ∨ (lV (oC KD VL j) = 3 ∧ tq' (a + 1 + 1) = 1) := by
                rcases r4 with x | x | x
                · exact Or.inl x
                · have := (lV_rng (oC KD VL j)).1
                  omega
                · exact Or.inr x
              refine Or.inr ⟨_, μ2, 1, ST j, c_sign0 hK g2.1 g1.2 g2.f0 cl, g2.rf (by omega) (by decide), KB_end hK g1.2 g3 (by omega) ho (Or.inl cl), Or.inr ⟨j, _, _, _, tq', g3, g1.2, by omega, rfl, rfl, by omega, by omega⟩⟩
          · have hr1 : pf_gP d 0 (cAd σ i) ((0 : Nat) : Int) ((a + 1 : Nat) : Int) = some σ2 := r1
            rw [kbind_eq hr1]
            exact Or.inr ⟨σ2, μ2, f, p, cf_sign hK r2.1 41, r2, r3, r4⟩
        · have ea : a = 5 := by omega
          subst ea
          obtain ⟨μ1, o1, o2⟩ := KO_deep (N := M1) hK hi p2 hfl hs (by omega) (by omega)
          have hk1 := c_kind p1.ad.1 h7 hi1
          by_cases cp : KD (i + 1) = 1 ∨ KD (i + 1) = 2 ∨ (KD (i + 1) = 3 ∧ VL (i + 1) = 40)
          · rw [if_pos cp] at o2
            have hx := p1.ad.rf (x := 2) (p := ST (i + 1)) (by omega) (by decide)
            refine Or.inr ⟨_, μ1, 2, ST (i + 1), ?_, hx, KA_bad o1 o2 (by omega), Or.inl o2⟩
            have hcb : pf_Parser_couldBePart_12 (cAd σ i) = some 1 := by
              unfold pf_Parser_couldBePart_12
              rw [kbind_eq hk1]
              by_cases c1 : KD (i + 1) = 1
              · rw [if_pos c1]
              · rw [if_neg c1, kbind_eq hk1]
                by_cases c2 : KD (i + 1) = 2
                · rw [if_pos c2]
                · rw [if_neg c2, kbind_eq (c_isSign1 p1.ad.1 h7 hi1 ((cp.resolve_left c1).resolve_left c2)), if_neg (by decide)]
            unfold pf_Parser_takePart_12 pf_Parser_takePart_12_j106 pf_Parser_takePart_12_j109
            rw [kbind_eq hk, if_neg k1, kbind_eq hk, if_neg k2, kbind_eq hsg, if_neg (by decide), kbind_eq hadv, if_pos (by decide), kbind_eq hcb, if_neg (by decide), kbind_eq (c_refuse p1.ad.1 h7 hi1 p1.ad.f0 2), kbind_eq (cf_sign hK hx.1 41)]
          · rw [if_neg cp] at o2
            have hx := p1.ad.rf (x := 1) (p := ST (i + 1)) (by omega) (by decide)
            refine Or.inr ⟨_, μ1, 1, ST (i + 1), ?_, hx, KA_bad o1 o2 (by omega), Or.inl o2⟩
            have hcb : pf_Parser_couldBePart_12 (cAd σ i) = some 0 := by
              unfold pf_Parser_couldBePart_12
              rw [kbind_eq hk1, if_neg (fun x => cp (Or.inl x)), kbind_eq hk1, if_neg (fun x => cp (Or.inr (Or.inl x))), kbind_eq (c_isSign0 p1.ad.1 h7 hi1 (fun x => cp (Or.inr (Or.inr x)))), if_pos rfl]
            unfold pf_Parser_takePart_12 pf_Parser_takePart_12_j106 pf_Parser_takePart_12_j109
            rw [kbind_eq hk, if_neg k1, kbind_eq hk, if_neg k2, kbind_eq hsg, if_neg (by decide), kbind_eq hadv, if_pos (by decide), kbind_eq hcb, if_pos rfl, kbind_eq (c_refuse p1.ad.1 h7 hi1 p1.ad.f0 1), kbind_eq (cf_sign hK hx.1 41)]
      · obtain ⟨μ', m1, m2⟩ := m_part_x hK p3 p2 (by omega) (fun x => by rcases x with x | x; exact absurd x k1; exact absurd x k2) (by omega) (f := 1) (by decide) (Or.inr (Or.inr ⟨k1, k2, rfl⟩))
        refine bad 1 (ST i) _ μ' hs ?_ (p1.rf (x := 1) (p := ST i) (by omega) (by decide)) m1 m2
        unfold pf_Parser_takePart_12
        rw [kbind_eq hk, if_neg k1, kbind_eq hk, if_neg k2, kbind_eq (c_isSign0 p1.1 h7 p3 hs), if_pos rfl, kbind_eq (c_refuse p1.1 h7 p3 p1.f0 1)]
/-- every level, every part -/
theorem LH_all (hK : TKf T n m KD ST LN VL) {r : Int} (hr : 0 ≤ r ∧ r < 3) (hr0 : σ0 12 4 = r) (h28 : μ0 0 28 = fV r) (h29 : μ0 0 29 = lVa r) : ∀ (d : Nat), (∀ l a : Nat, l ≤ 6 → a ≤ 5 → 8 - l + 8 * (5 - a) ≤ d → LvH T n m KD ST LN VL σ0 μ0 (vOk r) (fun σ => pf_gP d 0 σ (l : Int) (a : Int)) l a) ∧ (∀ a : Nat, a ≤ 5 → 1 + 8 * (5 - a) ≤ d → LvH T n m KD ST LN VL σ0 μ0 (vOk r) (fun σ => pf_gP d 1 σ (a : Int) 0) 6 a) := by
  intro d
  induction d with
  | zero => exact ⟨fun l a h1 h2 h3 => by omega, fun a h1 h2 => by omega⟩
  | succ d ih =>
    refine ⟨fun l a h1 h2 h3 => ?_, fun a h1 h2 => ?_⟩
    · by_cases c : l ≤ 5
      · exact LH_lev hK c h2 (by omega) (ih.1 (l + 1) a (by omega) h2 (by omega))
      · have e : l = 6 := by omega
        subst e
        exact LH_six (ih.2 a h2 (by omega))
    · exact LH_part hK hr hr0 h28 h29 h1 (fun x => ih.1 0 (a + 1) (by omega) (by omega) (by omega))
end PPS

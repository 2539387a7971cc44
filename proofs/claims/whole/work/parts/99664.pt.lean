/-! state: a level, a part, in both -/
section PTS
variable {T : Nat → Int} {n m : Nat} {KD ST LN VL : Nat → Int} {σ0 μ0 : kM} {ok : Int → Prop}
theorem okE_nots {ok : Int → Prop} {b : Nat} (hb : 1 ≤ b) {E : List Int} (hE : okE b ok E) : ∀ k : Nat, okE b ok (E ++ List.replicate k (-9)) := by
  intro k
  induction k with
  | zero =>
    show okE b ok (E ++ [])
    rw [List.append_nil]
    exact hE
  | succ k ih =>
    have e : E ++ List.replicate (k + 1) (-9) = (E ++ List.replicate k (-9)) ++ [-9] := by
      rw [List.append_assoc, ← List.replicate_succ']
    rw [e]
    exact okE.not hb ih
/-- a level behind its 'not's -/
theorem lev_core (hK : TKf T n m KD ST LN VL) {d l a i k : Nat} {C R W : List Int} {tq : Nat → Int} {N1 N2 : Nat} {fl : Int} {σ μ σ' μ' : kM} (hl : l ≤ 5) (ha : a ≤ 5) (hd : 8 ≤ d + (l + 1)) (hH : LvH T n m KD ST LN VL σ0 μ0 ok (fun σ => pf_gP d 0 σ ((l + 1 : Nat) : Int) (a : Int)) (l + 1) a) (hP : LvP T n m KD ST LN VL σ0 μ0 l a i C R W tq N1 N2 fl σ μ) (hk : k ≤ 6) (hk0 : k = 0 ∨ l = 2) (hi : i + k ≤ m) (hn : l = 2 → ¬ WD KD VL (i + k) 8) (h1 : CE m KD ST LN VL σ0 (i + k) C σ') (h2 : ME T n μ0 (i + k) R (W ++ List.replicate k 3) (a + 1) tq μ') :
    LvG T n m KD ST LN VL σ0 μ0 ok l a i C R W tq (pf_Parser_takeLevel_12_j24 (pf_gP d) σ' (l : Int) (a : Int) (k : Int)) (KA N1 N2 fl μ') := by
  obtain ⟨p1, p2, p3, p4, p5, ⟨p6, p6'⟩, p7, p8, p9⟩ := hP
  have h7 := hK.m7
  have hWl : (W ++ List.replicate k (3 : Int)).length = W.length + k := by rw [List.length_append, List.length_replicate]
  have hLP : LvP T n m KD ST LN VL σ0 μ0 (l + 1) a (i + k) C R (W ++ List.replicate k 3) tq N1 N2 fl σ' μ' := by
    refine ⟨h1, h2, hi, by omega, by rw [hWl]; omega, ⟨by omega, by omega⟩, ?_, ?_, fun x => p9 (by omega)⟩
    · rcases Nat.eq_zero_or_pos k with x | x
      · subst x
        show stp (W ++ []) _
        rw [List.append_nil]
        exact stp_mono (by omega) p7
      · obtain ⟨k', rfl⟩ : ∃ k', k = k' + 1 := ⟨k - 1, by omega⟩
        have hl2 : l = 2 := hk0.resolve_left (by omega)
        refine Or.inr ⟨W ++ List.replicate k' 3, 3, ?_, Or.inr ?_⟩
        · rw [List.append_assoc, ← List.replicate_succ']
        · rw [hl2]
          decide
    · rcases p8 with ⟨x, y⟩ | ⟨x, y⟩
      · by_cases z : l = 2
        · exact Or.inr ⟨by omega, Or.inr (hn z)⟩
        · exact Or.inl ⟨by omega, y⟩
      · have e0 : k = 0 := hk0.resolve_right (by omega)
        subst e0
        exact Or.inr ⟨by omega, y⟩
  obtain ⟨x4, h4, hj⟩ : ∃ x4 : Int, (l = 3 ∧ x4 = 1 ∨ l ≠ 3 ∧ x4 = 700) ∧ pf_Parser_takeLevel_12_j24 (pf_gP d) σ' (l : Int) (a : Int) (k : Int) = (pf_gP d 0 σ' ((l + 1 : Nat) : Int) (a : Int)).bind fun σ_1 => pf_Parser_takeLevel_12_j45 (pf_gP d) σ_1 (l : Int) (a : Int) (k : Int) x4 := by
    by_cases c : l = 3
    · refine ⟨1, Or.inl ⟨c, rfl⟩, ?_⟩
      have e3 : (l : Int) = 3 := by omega
      have ew := kw_inc (i := l) (by omega)
      unfold pf_Parser_takeLevel_12_j24
      rw [ew]
      exact congrArg (Option.bind (pf_gP d 0 σ' ((l + 1 : Nat) : Int) (a : Int))) (funext fun s => if_pos e3)
    · refine ⟨700, Or.inr ⟨c, rfl⟩, ?_⟩
      have e3 : ¬ (l : Int) = 3 := by omega
      have ew := kw_inc (i := l) (by omega)
      unfold pf_Parser_takeLevel_12_j24
      rw [ew]
      exact congrArg (Option.bind (pf_gP d 0 σ' ((l + 1 : Nat) : Int) (a : Int))) (funext fun s => if_neg e3)
  rw [hj]
  rcases hH _ _ _ _ _ _ _ _ _ _ hLP with ⟨E1, P, j, N, tq', σ2, μ2, r1, r2, r3, r4⟩ | ⟨σ2, μ2, f, p, r1, r2, r3, r4⟩
  · obtain ⟨g1, g2, g3, g4, g5, g6, g7, g8, g9⟩ := r3
    have hG : GvS T n m KD ST LN VL σ0 μ0 ok l a (i + k) C R (W ++ List.replicate k 3) tq E1 P j N tq' σ2 μ2 := ⟨g1, g2, g3, g4, g5, fun c hc => ⟨(g6 c hc).1, (g6 c hc).2.1, by have := (g6 c hc).2.2; omega⟩, g7.mono (by omega), g8, fun x => g9 (by omega)⟩
    have hs : l ≠ 2 → stp (W ++ List.replicate k 3) ((l : Int) + 1) := fun x => by
      have e0 : k = 0 := hk0.resolve_right x
      subst e0
      show stp (W ++ []) _
      rw [List.append_nil]
      exact p7
    have hLL := LvL hK hl ha hd (by omega) (by rw [hWl]; omega) hs hH (k : Int) x4 h4 (m - j) kFuel 0 j N E1 P tq' σ2 μ2 (Nat.le_refl _) (kFuel_lt (by omega)) hG (by omega) (fun x => Or.inl ⟨rfl, by rw [g9 (by omega), p9 (by omega)]⟩) r4
    have hr1 : (fun σ => pf_gP d 0 σ ((l + 1 : Nat) : Int) (a : Int)) σ' = some σ2 := r1
    rw [kbind_eq hr1, r2]
    rcases hLL with ⟨E2, Q, j2, N', tq2, σ3, μ3, q1, q2, q3, q4⟩ | ⟨σ3, μ3, f, p, q1, q2, q3, q4⟩
    · obtain ⟨y1, y2, y3, y4, y5, y6, y7, y8, y9⟩ := q3
      have hlen : (C ++ (E2 ++ Q.reverse)).length + k ≤ 700 := by
        simp only [List.length_append, List.length_reverse]
        omega
      obtain ⟨σ4, z1, z2⟩ := c_l109 (rc := pf_gP d) hk k 0 σ3 _ kFuel (by omega) (kFuel_lt (by omega)) y2 hlen
      refine Or.inl ⟨E2, List.replicate k (-9) ++ Q, j2, N', tq2, σ4, μ3, ?_, q2, ⟨⟨by omega, y1.2⟩, ?_, ?_, y4, ?_, ?_, ?_, y8, y9⟩, q4⟩
      · unfold pf_Parser_takeLevel_12_j45
        have q1' : kloop (fun st => pf_Parser_takeLevel_12_l50 (pf_gP d) st.1 (l : Int) (a : Int) (k : Int) x4 st.2) kFuel (σ2, 0) = some σ3 := q1
        have z1' : kloop (fun st => pf_Parser_takeLevel_12_l109 (pf_gP d) st.1 (k : Int) st.2) kFuel (σ3, 0) = some σ4 := z1
        rw [kbind_eq q1', kbind_eq z1']
      · rw [List.append_assoc, List.append_assoc] at z2
        rw [List.reverse_append, List.reverse_replicate]
        exact z2
      · rw [List.append_assoc] at y3
        rw [List.map_append, List.map_replicate]
        exact y3
      · rw [List.length_append, List.length_replicate]
        omega
      · intro c hc
        rcases List.mem_append.mp hc with x | x
        · obtain ⟨x1, x2⟩ := List.mem_replicate.mp x
          have hl2 : l = 2 := hk0.resolve_left x1
          subst x2
          subst hl2
          decide
        · exact y6 c x
      · rw [List.reverse_append, List.reverse_replicate, ← List.append_assoc]
        exact okE_nots (by omega) y7 k
    · obtain ⟨σ4, z1, z2⟩ := cx_l109 (rc := pf_gP d) hk k 0 σ3 kFuel (by omega) (kFuel_lt (by omega)) q2
      refine Or.inr ⟨σ4, μ3, f, p, ?_, z2, q3, q4⟩
      unfold pf_Parser_takeLevel_12_j45
      have q1' : kloop (fun st => pf_Parser_takeLevel_12_l50 (pf_gP d) st.1 (l : Int) (a : Int) (k : Int) x4 st.2) kFuel (σ2, 0) = some σ3 := q1
      have z1' : kloop (fun st => pf_Parser_takeLevel_12_l109 (pf_gP d) st.1 (k : Int) st.2) kFuel (σ3, 0) = some σ4 := z1
      rw [kbind_eq q1', kbind_eq z1']
  · have hr1 : (fun σ => pf_gP d 0 σ ((l + 1 : Nat) : Int) (a : Int)) σ' = some σ2 := r1
    obtain ⟨σ3, z1, z2⟩ := cx_j45 hK (rc := pf_gP d) r2 (l := (l : Int)) (by omega) (by omega) hk (a : Int) x4
    rw [kbind_eq hr1]
    exact Or.inr ⟨σ3, μ2, f, p, z1, z2, r3, r4⟩
theorem LH_lev (hK : TKf T n m KD ST LN VL) {d l a : Nat} (hl : l ≤ 5) (ha : a ≤ 5) (hd : 8 ≤ d + (l + 1)) (hH : LvH T n m KD ST LN VL σ0 μ0 ok (fun σ => pf_gP d 0 σ ((l + 1 : Nat) : Int) (a : Int)) (l + 1) a) : LvH T n m KD ST LN VL σ0 μ0 ok (fun σ => pf_gP (d + 1) 0 σ (l : Int) (a : Int)) l a := by
  intro i C R W tq N1 N2 fl σ μ hP
  have h7 := hK.m7
  have hP0 := hP
  obtain ⟨p1, p2, p3, p4, p5, ⟨p6, p6'⟩, p7, p8, p9⟩ := hP0
  show LvG T n m KD ST LN VL σ0 μ0 ok l a i C R W tq (pf_gP (d + 1) 0 σ (l : Int) (a : Int)) _
  rw [gP_0]
  unfold pf_Parser_takeLevel_12
  rw [if_pos (by omega)]
  by_cases c : l = 2
  · rw [if_pos (by omega)]
    have hf1 : fl = 1 := by
      rcases p8 with ⟨-, y⟩ | ⟨x, -⟩
      · exact y
      · omega
    obtain ⟨k, k1, k2, k3, k4⟩ := nots_ex hK p3 6
    obtain ⟨M1, eM⟩ : ∃ M, N1 = M + 2 := ⟨N1 - 2, by omega⟩
    by_cases w : WD KD VL (i + k) 8
    · have k6 : k = 6 := k4.resolve_right (fun x => x w)
      subst k6
      have := WD.lt hK k2 w
      obtain ⟨σ1, a1, a2⟩ := c_nots7 hK k2 p1 (by omega) k3 w
      obtain ⟨μ1, b1, b2⟩ := KO_nots7 hK (N := M1) k2 p2 k3 w (by omega) (by omega)
      obtain ⟨σ2, e1, e2⟩ := cx_level hK d (l + 1) σ1 (a : Int) (by omega) hd a2
      obtain ⟨σ3, g1, g2⟩ := cx_j24 hK hl (k := 6) (by decide) (a : Int) e1 e2
      rw [kbind_eq a1, hf1, eM]
      exact Or.inr ⟨σ3, μ1, 2, ST (i + 6), g1, g2, KA_bad b1 b2 (by omega), Or.inl b2⟩
    · obtain ⟨σ1, a1, a2⟩ := c_nots hK k1 k2 p1 k3 w
      obtain ⟨μ1, b1, b2⟩ := KO_nots hK (N := M1 + 1) k1 k2 p2 k3 w (by omega)
      have e : KA N1 N2 fl μ = KA N1 N2 fl μ1 := by
        rw [hf1, eM]
        unfold KA
        rw [b1]
      rw [kbind_eq a1, e]
      exact lev_core hK hl ha hd hH hP k1 (Or.inr c) k2 (fun _ => w) a2 b2
  · rw [if_neg (by omega)]
    have h2 : ME T n μ0 (i + 0) R (W ++ List.replicate 0 3) (a + 1) tq μ := by
      show ME T n μ0 i R (W ++ []) (a + 1) tq μ
      rw [List.append_nil]
      exact p2
    exact lev_core hK hl ha hd hH hP (k := 0) (by decide) (Or.inl rfl) p3 (fun x => absurd x c) p1 h2
theorem bind_id {α : Type} (o : Option α) : (o.bind fun x => some x) = o := by
  cases o <;> rfl
theorem LH_six {d a : Nat} (hH : LvH T n m KD ST LN VL σ0 μ0 ok (fun σ => pf_gP d 1 σ (a : Int) 0) 6 a) : LvH T n m KD ST LN VL σ0 μ0 ok (fun σ => pf_gP (d + 1) 0 σ ((6 : Nat) : Int) (a : Int)) 6 a := by
  intro i C R W tq N1 N2 fl σ μ hP
  have h := hH i C R W tq N1 N2 fl σ μ hP
  show LvG T n m KD ST LN VL σ0 μ0 ok 6 a i C R W tq (pf_gP (d + 1) 0 σ ((6 : Nat) : Int) (a : Int)) _
  rw [gP_0]
  unfold pf_Parser_takeLevel_12
  rw [if_neg (by decide), bind_id]
  exact h
end PTS

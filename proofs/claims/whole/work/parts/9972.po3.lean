/-! state: a poet's clause -/
section PO3
variable {T : Nat → Int} {n m : Nat} {KD ST LN VL : Nat → Int} {σ0 μ0 σ μ : kM} {i : Nat}
/-- the class's loop ends where it is refused -/
theorem cx_po (hK : TKf T n m KD ST LN VL) {f p : Int} {w : Int} (h : cxS m KD ST LN VL σ0 f p σ) (k : Int) {fuel : Nat} : kloop (fun st => pf_Parser_takePoet_12_l71 st.1 w st.2) (fuel + 1) (σ, k) = some σ := by
  have hk := c_kind h.1.1 hK.m7 (Nat.le_refl _)
  rw [hK.2.2.2.2.1] at hk
  refine kloop_r ?_
  show pf_Parser_takePoet_12_l71 σ w k = _
  unfold pf_Parser_takePoet_12_l71
  by_cases c : 6 ≤ k
  · rw [if_pos c]
  · rw [if_neg c, kbind_eq hk, if_neg (by decide)]
theorem po_loop (hK : TKf T n m KD ST LN VL) {tp w : Nat} {v0 : Int} (ht : 2 ≤ tp ∧ tp ≤ 4) (hw : w < 4) (h13 : σ 13 0 = (tp : Int)) (h21 : μ 0 21 = (tp : Int)) : ∀ (q l j : Nat) (σ1 μ1 : kM) (f1 f2 : Nat), l + q = 5 → q + 1 < f1 → q + 1 < f2 → PQ T n m KD ST LN VL σ0 μ0 σ μ tp w (l + 1) j v0 σ1 μ1 → ∃ (σ2 : kM) (ex : kM ⊕ kM × Int), kloop (fun st => pf_Parser_takePoet_12_l71 st.1 (w : Int) st.2) f1 (σ1, (l : Int)) = some σ2 ∧ kloop (fun st => mm_readsPoet_l25 st.1 (w : Int) st.2.1 st.2.2) f2 (μ1, ((l + 1 : Nat) : Int), if KD j = 1 then 1 else 0) = some ex ∧ ((∃ (l' j' : Nat) (μ2 : kM), ex = .inr (μ2, ((l' + 1 : Nat) : Int)) ∧ l' < 6 ∧ j ≤ j' ∧ PQ T n m KD ST LN VL σ0 μ0 σ μ tp w (l' + 1) j' v0 σ2 μ2) ∨ ∃ (μ2 : kM) (f p : Int), ex = .inl μ2 ∧ cxS m KD ST LN VL σ0 f p σ2 ∧ mxS μ0 f p μ2) := by
  intro q
  induction q with
  | zero =>
    intro l j σ1 μ1 f1 f2 hl hf1 hf2 h
    have el : l = 5 := by omega
    subst el
    obtain ⟨k1, rfl, hk1⟩ := fu_s hf1
    obtain ⟨k2, rfl, -⟩ := fu_s hf2
    obtain ⟨⟨q1, q2, q3⟩, ⟨c1, c2, c3, c4, c5⟩, ⟨m1, m2⟩, -⟩ := id h
    have hk := c_kind q2.1 hK.m7 q1
    have h1 : 0 ≤ (w : Int) ∧ (w : Int) < 4 := by omega
    have e14 : σ1 14 w = 6 := by rw [c3, kup_eq]; rfl
    by_cases c : KD j = 1
    · have hx := q3.wr (x := 2) (p := ST j) (by decide)
      have hcx := q2.rf (x := 2) (p := ST j) (by decide)
      obtain ⟨k1', rfl⟩ : ∃ k, k1 = k + 1 := ⟨k1 - 1, by have := hk1 0 rfl; omega⟩
      refine ⟨_, _, ?_, ?_, Or.inr ⟨_, 2, ST j, rfl, hcx, hx⟩⟩
      · have e1 : pf_Parser_takeLine_12 σ1 (w : Int) = some (cRf σ1 m 2 (ST j)) := by
          unfold pf_Parser_takeLine_12
          rw [kchk_t h1, klet_eq, kbind_eq hk, if_pos c, Int.toNat_natCast, e14, if_neg (by decide), kbind_eq (c_refuse q2.1 hK.m7 q1 q2.2.1.1 2)]
        have e2 : pf_Parser_takePoet_12_l71 σ1 (w : Int) ((5 : Nat) : Int) = some (.inl (cRf σ1 m 2 (ST j), 6)) := by
          unfold pf_Parser_takePoet_12_l71
          rw [if_neg (by decide), kbind_eq hk, if_pos c, kbind_eq e1, klet_eq]
          rfl
        refine (kloop_l e2).trans ?_
        exact cx_po hK hcx 6
      · refine kloop_r ?_
        show mm_readsPoet_l25 μ1 (w : Int) ((5 + 1 : Nat) : Int) (if KD j = 1 then 1 else 0) = _
        have hs := (m_sort hK q1 (q3.1.ts hK q1)).1
        unfold mm_readsPoet_l25 mm_readsPoet_l25_j55
        rw [if_pos c, if_neg (by decide), kbind_eq (m_isGood1 q3.2.1.1), if_neg (by decide), if_pos (by decide), if_pos (hs.mpr c), kbind_eq (m_wrong (q3.1.ts hK q1) q3.2.1.1 2), kbind_eq (mx_topic hx.bad)]
        show (mm_number _ 0 9).bind _ = _
        rw [kbind_eq (m_numF hx.bad 0 9)]
        show (mm_isGood _).bind _ = _
        rw [kbind_eq (m_isGood0 hx.bad), if_pos rfl]
    · refine ⟨σ1, _, kloop_r ?_, kloop_r ?_, Or.inl ⟨5, j, μ1, rfl, by decide, Nat.le_refl _, h⟩⟩
      · show pf_Parser_takePoet_12_l71 σ1 (w : Int) ((5 : Nat) : Int) = _
        unfold pf_Parser_takePoet_12_l71
        rw [if_neg (by decide), kbind_eq hk, if_neg c]
      · show mm_readsPoet_l25 μ1 (w : Int) ((5 + 1 : Nat) : Int) (if KD j = 1 then 1 else 0) = _
        unfold mm_readsPoet_l25
        rw [if_neg c, if_pos rfl]
  | succ q ih =>
    intro l j σ1 μ1 f1 f2 hl hf1 hf2 h
    obtain ⟨k1, rfl, hk1⟩ := fu_s hf1
    obtain ⟨k2, rfl, hk2⟩ := fu_s hf2
    have hl6 : ¬ 6 ≤ (l : Int) := by omega
    have hl5 : l + 1 < 6 := by omega
    have hll : l + 1 + q = 5 := by omega
    have hk1 := hk1 (q + 1) rfl
    have hk2 := hk2 (q + 1) rfl
    have hk := c_kind h.1.2.1.1 hK.m7 h.1.1
    by_cases c : KD j = 1
    · obtain ⟨σ2, a1, a2⟩ := po_line hK ht hw hl5 h13 h21 h
      have e2 : pf_Parser_takePoet_12_l71 σ1 (w : Int) (l : Int) = some (.inl (σ2, ((l + 1 : Nat) : Int))) := by
        unfold pf_Parser_takePoet_12_l71
        rw [if_neg hl6, kbind_eq hk, if_pos c, kbind_eq a1, klet_eq, kw_inc (i := l) (by omega)]
      rw [if_pos c]
      rcases a2 with ⟨μ2, a2, a3⟩ | ⟨μ2, f, p, a2, a3, a4⟩
      · obtain ⟨σ3, ex, r1, r2, r3⟩ := ih (l + 1) (j + 2) σ2 μ2 k1 k2 hll hk1 hk2 a3
        refine ⟨σ3, ex, ?_, ?_, ?_⟩
        · rw [← r1]
          exact kloop_l e2
        · rw [← r2]
          exact kloop_l a2
        · rcases r3 with ⟨l', j', μ3, x1, x2, x3, x4⟩ | r3
          · exact Or.inl ⟨l', j', μ3, x1, x2, Nat.le_trans (Nat.le_add_right _ _) x3, x4⟩
          · exact Or.inr r3
      · obtain ⟨k1', rfl⟩ : ∃ k, k1 = k + 1 := ⟨k1 - 1, by omega⟩
        refine ⟨σ2, _, ?_, kloop_r a2, Or.inr ⟨μ2, f, p, rfl, a3, a4⟩⟩
        refine (kloop_l e2).trans ?_
        exact cx_po hK a3 _
    · refine ⟨σ1, _, kloop_r ?_, kloop_r ?_, Or.inl ⟨l, j, μ1, rfl, by omega, Nat.le_refl _, h⟩⟩
      · show pf_Parser_takePoet_12_l71 σ1 (w : Int) (l : Int) = _
        unfold pf_Parser_takePoet_12_l71
        rw [if_neg hl6, kbind_eq hk, if_neg c]
      · show mm_readsPoet_l25 μ1 (w : Int) ((l + 1 : Nat) : Int) (if KD j = 1 then 1 else 0) = _
        unfold mm_readsPoet_l25
        rw [if_neg c, if_pos rfl]
end PO3

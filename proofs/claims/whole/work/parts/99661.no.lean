/-! state: 'not's, parentheses that are too deep, dropping where refused: the reference -/
theorem kloop_at {α β : Type} {body : α → Option (α ⊕ β)} {n : Nat} {a a' : α} (h : body a = body a') : kloop body (n + 1) a = kloop body (n + 1) a' := by
  show (match body a with | none => none | some (.inl a') => kloop body n a' | some (.inr b) => some b) = (match body a' with | none => none | some (.inl a') => kloop body n a' | some (.inr b) => some b)
  rw [h]
theorem rep_app {α : Type} (W : List α) (k : Nat) (v : α) : (W ++ [v]) ++ List.replicate k v = W ++ List.replicate (k + 1) v := by
  rw [List.append_assoc]
  rfl
section NOTS
variable {T : Nat → Int} {n m : Nat} {KD ST LN VL : Nat → Int} {i : Nat} {σ σ0 μ μ0 : kM} {R W C : List Int} {d : Nat} {tq : Nat → Int}
theorem m_nstep (hK : TKf T n m KD ST LN VL) (hi : i ≤ m) (h : ME T n μ0 i R W d tq μ) (hw : WD KD VL i 8) (hW : W.length < 950) {x : Nat} (hx : x < 6) : ∃ μ', mm_operand_l18 μ 1 (x : Int) = some (.inl (μ', ((x + 1 : Nat) : Int))) ∧ ME T n μ0 (i + 1) R (W ++ [3]) d tq μ' := by
  have ht := h.1.ts hK hi
  obtain ⟨μa, a1, a2⟩ := m_waits h hW 3
  obtain ⟨μb, b1, b2⟩ := a2.go hK
  refine ⟨μb, ?_, b2⟩
  have ew := kw_inc (i := x) (by omega)
  unfold mm_operand_l18 mm_operand_l18_j50
  rw [kbind_eq (m_isGood1 h.2.1.1), if_neg (by decide), if_neg (by decide), kbind_eq ht.2.1, if_pos ((kW_tab hK hi).2.2.mpr hw), if_neg (by omega), klet_eq, ew, kbind_eq (m_isGood1 h.2.1.1), if_neg (by decide), kbind_eq a1, kbind_eq b1]
theorem m_nk (hK : TKf T n m KD ST LN VL) : ∀ (k i x : Nat) (μ : kM) (W : List Int), x + k ≤ 6 → i + k ≤ m → ME T n μ0 i R W d tq μ → (∀ j, j < k → WD KD VL (i + j) 8) → W.length + k ≤ 950 → ∃ μ', (∀ fuel : Nat, kloop (fun st => mm_operand_l18 st.1 1 st.2) (fuel + k) (μ, (x : Int)) = kloop (fun st => mm_operand_l18 st.1 1 st.2) fuel (μ', ((x + k : Nat) : Int))) ∧ ME T n μ0 (i + k) R (W ++ List.replicate k 3) d tq μ' := by
  intro k
  induction k with
  | zero =>
    intro i x μ W _ _ h _ _
    refine ⟨μ, fun fuel => rfl, ?_⟩
    show ME T n μ0 i R (W ++ []) d tq μ
    rw [List.append_nil]
    exact h
  | succ k ih =>
    intro i x μ W hx hi h hw hW
    obtain ⟨μ1, a1, a2⟩ := m_nstep hK (by omega) h (hw 0 (by omega)) (by omega) (show x < 6 by omega)
    obtain ⟨μ2, b1, b2⟩ := ih (i + 1) (x + 1) μ1 (W ++ [3]) (by omega) (by omega) a2 (fun j hj => by
      have := hw (j + 1) (by omega)
      rw [show i + 1 + j = i + (j + 1) by omega]
      exact this) (by rw [List.length_append, List.length_singleton]; omega)
    refine ⟨μ2, fun fuel => ?_, ?_⟩
    · rw [show x + (k + 1) = x + 1 + k by omega, ← b1 fuel]
      exact kloop_l a1
    · rw [rep_app, show i + 1 + k = i + (k + 1) by omega] at b2
      exact b2
theorem kFuel_k (k : Nat) (hk : k ≤ 6) : ∃ f, kFuel = (f + 3) + k := ⟨99999997 - k, by show 100000000 = _; omega⟩
theorem KO_nots (hK : TKf T n m KD ST LN VL) {k N : Nat} (hk : k ≤ 6) (hi : i + k ≤ m) (h : ME T n μ0 i R W d tq μ) (hw : ∀ j, j < k → WD KD VL (i + j) 8) (hn : ¬ WD KD VL (i + k) 8) (hW : W.length + k ≤ 950) : ∃ μ', KO (N + 1) μ 1 = KO (N + 1) μ' 1 ∧ ME T n μ0 (i + k) R (W ++ List.replicate k 3) d tq μ' := by
  obtain ⟨μ', a1, a2⟩ := m_nk hK k i 0 μ W (by omega) hi h hw hW
  refine ⟨μ', kloop_at ?_, a2⟩
  show mm_operand_l4 μ 1 1 = mm_operand_l4 μ' 1 1
  obtain ⟨f, ef⟩ := kFuel_k k hk
  have e1 : kloop (fun st => mm_operand_l18 st.1 1 st.2) kFuel (μ, 0) = some μ' := by
    rw [ef]
    exact (a1 (f + 3)).trans (m_l18_0 hK hi a2 (Or.inr hn) _)
  have e2 : kloop (fun st => mm_operand_l18 st.1 1 st.2) kFuel (μ', 0) = some μ' := by
    obtain ⟨f, ef⟩ := kFuel_s
    rw [ef]
    exact m_l18_0 hK hi a2 (Or.inr hn) _
  have key : ∀ ν : kM, ν 0 10 = 0 → kloop (fun st => mm_operand_l18 st.1 1 st.2) kFuel (ν, 0) = some μ' → mm_operand_l4 ν 1 1 = (mm_isSign μ' 40).bind fun r_25 => if r_25 = 0 then mm_operand_l4_j95 μ' 1 else mm_operand_l4_j96 μ' 1 1 := by
    intro ν g e
    unfold mm_operand_l4
    rw [if_neg (by decide), kbind_eq (m_isGood1 g), if_neg (by decide), kbind_eq e, kbind_eq (m_isGood1 a2.2.1.1), if_neg (by decide)]
  rw [key μ h.2.1.1 e1, key μ' a2.2.1.1 e2]
theorem KO_nots7 (hK : TKf T n m KD ST LN VL) {N : Nat} (hi : i + 6 ≤ m) (h : ME T n μ0 i R W d tq μ) (hw : ∀ j, j < 6 → WD KD VL (i + j) 8) (hn : WD KD VL (i + 6) 8) (hR : R.length + W.length + 7 ≤ 1400) (hW : W.length + 6 ≤ 950) : ∃ μ', KO (N + 2) μ 1 = some μ' ∧ MX μ0 2 (ST (i + 6)) μ' := by
  obtain ⟨μ6, a1, a2⟩ := m_nk hK 6 i 0 μ W (by omega) hi h hw hW
  have ht := a2.1.ts hK hi
  have hx := a2.wr (x := 2) (p := ST (i + 6)) (by decide) (by rw [List.length_append, List.length_replicate]; omega) (by rw [List.length_append, List.length_replicate]; omega)
  obtain ⟨f, ef⟩ := kFuel_k 6 (by decide)
  have e1 : kloop (fun st => mm_operand_l18 st.1 1 st.2) kFuel (μ, 0) = some (mWr μ6 2 (ST (i + 6))) := by
    rw [ef]
    refine (a1 (f + 3)).trans ?_
    have b1 : mm_operand_l18 μ6 1 ((0 + 6 : Nat) : Int) = some (.inl (mWr μ6 2 (ST (i + 6)), 7)) := by
      unfold mm_operand_l18 mm_operand_l18_j50
      rw [kbind_eq (m_isGood1 a2.2.1.1), if_neg (by decide), if_neg (by decide), kbind_eq ht.2.1, if_pos ((kW_tab hK hi).2.2.mpr hn), if_pos (by decide), kbind_eq (m_wrong ht a2.2.1.1 2), klet_eq, kbind_eq (m_isGood0 hx.bad), if_pos rfl]
      rfl
    have b2 : mm_operand_l18 (mWr μ6 2 (ST (i + 6))) 1 7 = some (.inr (mWr μ6 2 (ST (i + 6)))) := by
      unfold mm_operand_l18
      rw [kbind_eq (m_isGood0 hx.bad), if_pos rfl]
    refine (kloop_l (n := f + 2) b1).trans ?_
    exact kloop_r (n := f + 1) b2
  refine ⟨_, ?_, hx⟩
  have e2 : mm_operand_l4 μ 1 1 = some (.inl (mWr μ6 2 (ST (i + 6)), 1, 0)) := by
    unfold mm_operand_l4 mm_operand_l4_j95 mm_operand_l4_j96 mm_operand_l4_j117
    rw [if_neg (by decide), kbind_eq (m_isGood1 h.2.1.1), if_neg (by decide), kbind_eq e1, kbind_eq (m_isGood0 hx.bad), if_pos rfl, if_pos rfl]
  refine (kloop_l (n := N + 1) e2).trans ?_
  refine kloop_r ?_
  show mm_operand_l4 _ 1 0 = _
  unfold mm_operand_l4
  rw [if_pos rfl]
/-- a parenthesis too many -/
theorem KO_deep {N : Nat} {fl : Int} (hK : TKf T n m KD ST LN VL) (hi : i < m) (h : ME T n μ0 i R W 6 tq μ) (hf : fl = 0 ∨ ¬ WD KD VL i 8) (hs : SG KD VL i 40) (hR : R.length + W.length + 2 ≤ 1400) (hW : W.length < 950) : ∃ μ', KO (N + 2) μ fl = some μ' ∧ MX μ0 (if KD (i + 1) = 1 ∨ KD (i + 1) = 2 ∨ (KD (i + 1) = 3 ∧ VL (i + 1) = 40) then 2 else 1) (ST (i + 1)) μ' := by
  obtain ⟨μa, μb, e1, -, b2⟩ := m_open hK hi h hf hs hW
  have hi1 : i + 1 ≤ m := hi
  have ht := b2.1.ts hK hi1
  have hsr := m_sort hK hi1 ht
  have hl : (W ++ [14]).length = W.length + 1 := by rw [List.length_append, List.length_singleton]
  have key : ∀ f : Int, f ≠ 0 → mm_deeper μb = some (mWr μb f (ST (i + 1))) → ∃ μ', KO (N + 2) μ fl = some μ' ∧ MX μ0 f (ST (i + 1)) μ' := by
    intro f hf0 hd
    have hx := b2.wr (x := f) (p := ST (i + 1)) hf0 (by rw [hl]; omega) (by rw [hl]; omega)
    refine ⟨_, ?_, hx⟩
    rw [hd] at e1
    have e1 : mm_operand_l4 μ fl 1 = some (.inl (mWr μb f (ST (i + 1)), 1, 1)) := e1
    refine (kloop_l (n := N + 1) e1).trans ?_
    refine kloop_r ?_
    show mm_operand_l4 _ 1 1 = _
    unfold mm_operand_l4
    rw [if_neg (by decide), kbind_eq (m_isGood0 hx.bad), if_pos rfl]
  have e31 := b2.2.2.2.2.1.1
  by_cases c : KD (i + 1) = 1 ∨ KD (i + 1) = 2 ∨ (KD (i + 1) = 3 ∧ VL (i + 1) = 40)
  · rw [if_pos c]
    refine key 2 (by decide) ?_
    unfold mm_deeper mm_deeper_j56 mm_deeper_j61
    rw [e31, if_pos (by decide), kbind_eq (m_wrong ht b2.2.1.1 2)]
    by_cases c1 : μb 0 15 = 2
    · rw [if_pos c1]
    · rw [if_neg c1]
      by_cases c2 : μb 0 15 = 1
      · rw [if_pos c2]
      · rw [if_neg c2]
        have c3 : SG KD VL (i + 1) 40 := by
          rcases c with x | x | x
          · exact absurd (hsr.1.mpr x) c1
          · exact absurd (hsr.2.1.mpr x) c2
          · exact x
        rw [kbind_eq (m_isSign1 ht c3), if_neg (by decide)]
  · rw [if_neg c]
    refine key 1 (by decide) ?_
    unfold mm_deeper mm_deeper_j56 mm_deeper_j61
    rw [e31, if_pos (by decide), if_neg (fun x => c (Or.inl (hsr.1.mp x))), if_neg (fun x => c (Or.inr (Or.inl (hsr.2.1.mp x)))), kbind_eq (m_isSign0 hK hi1 ht (fun x => c (Or.inr (Or.inr x)))), if_pos rfl, kbind_eq (m_wrong ht b2.2.1.1 1)]
/-! the end of an expression that is refused -/
theorem mx_drops {f p : Int} {s : Int} : ∀ (w t : Nat) (μ : kM) (fuel : Nat), w < fuel → w ≤ 950 → t + w + 1 ≤ 1400 → (μ 0 10 = f ∧ f ≠ 0 ∧ μ 0 11 = p ∧ μ 0 27 = (t : Int) ∧ μ 0 30 = (w : Int) ∧ frE μ0 μ) → ∃ (μ' : kM) (t' w' : Nat), kloop (fun st => mm_drops_l0 st s) fuel μ = some μ' ∧ t' + w' + 1 ≤ 1400 ∧ (μ' 0 10 = f ∧ f ≠ 0 ∧ μ' 0 11 = p ∧ μ' 0 27 = (t' : Int) ∧ μ' 0 30 = (w' : Int) ∧ frE μ0 μ') := by
  intro w
  induction w with
  | zero =>
    intro t μ fuel hf _ hb h
    obtain ⟨f', rfl, -⟩ := fu_s hf
    refine ⟨μ, t, 0, kloop_r ?_, hb, h⟩
    show mm_drops_l0 μ s = _
    unfold mm_drops_l0
    rw [h.2.2.2.2.1, if_pos (by decide)]
  | succ w ih =>
    intro t μ fuel hf hw hb h
    obtain ⟨f', rfl, hm⟩ := fu_s hf
    have hm := hm _ rfl
    obtain ⟨a, b, c, e, k, fr⟩ := h
    have ew : w32 (((w + 1 : Nat) : Int) - 1) = (w : Int) := by
      rw [w32_s (by omega) (by omega)]
      omega
    have stop : mm_drops_l0 μ s = some (.inr μ) → ∃ (μ' : kM) (t' w' : Nat), kloop (fun st => mm_drops_l0 st s) (f' + 1) μ = some μ' ∧ t' + w' + 1 ≤ 1400 ∧ (μ' 0 10 = f ∧ f ≠ 0 ∧ μ' 0 11 = p ∧ μ' 0 27 = (t' : Int) ∧ μ' 0 30 = (w' : Int) ∧ frE μ0 μ') := fun x => ⟨μ, t, w + 1, kloop_r x, hb, a, b, c, e, k, fr⟩
    by_cases o : μ 6 w < 14
    · by_cases q : sTr (μ 6 w) < s
      · refine stop ?_
        unfold mm_drops_l0
        rw [k, if_neg (by omega), ew, kchk_t (by omega), Int.toNat_natCast, kbind_eq (m_isOpen0 o), if_pos rfl, kchk_t (by omega), kbind_eq (m_strength μ _), if_pos q]
      · obtain ⟨μ1, p1, p2⟩ := mx_puts (μ := kst μ 0 (kup (μ 0) 30 (w : Int))) (μ0 := μ0) (f := f) (p := p) (t := t) (w := w) ⟨by rw [kst_eq, kup_ne (by decide)]; exact a, b, by rw [kst_eq, kup_ne (by decide)]; exact c, by rw [kst_eq, kup_ne (by decide)]; exact e, by rw [kst_eq, kup_eq], fr.put0 (fun j hj => by rw [kup_ne (by omega)])⟩ (by omega) (μ 6 w)
        obtain ⟨μ2, t', w', q1, q2, q3⟩ := ih (t + 1) μ1 f' hm (by omega) (by omega) p2
        refine ⟨μ2, t', w', ?_, q2, q3⟩
        rw [← q1]
        refine kloop_l ?_
        show mm_drops_l0 μ s = _
        unfold mm_drops_l0
        rw [k, if_neg (by omega), ew, kchk_t (by omega), Int.toNat_natCast, kbind_eq (m_isOpen0 o), if_pos rfl, kchk_t (by omega), kbind_eq (m_strength μ _), if_neg q, klet_eq, kst_eq, kup_eq, kchk_t (by omega), Int.toNat_natCast, kst_ne (show (6 : Nat) ≠ 0 by decide), kbind_eq p1]
    · refine stop ?_
      unfold mm_drops_l0
      rw [k, if_neg (by omega), ew, kchk_t (by omega), Int.toNat_natCast, kbind_eq (m_isOpen1 (by omega)), if_neg (by decide)]
theorem mx_j360 {f p : Int} (h : MX μ0 f p μ) : ∃ μ', mm_expression_j360 μ = some μ' ∧ μ' 0 10 = f ∧ f ≠ 0 ∧ μ' 0 11 = p ∧ frE μ0 μ' := by
  obtain ⟨a, b, c, ⟨t, w, e1, e2, e3, e4⟩, fr⟩ := h
  obtain ⟨μ1, t', w', q1, q2, q3⟩ := mx_drops (s := 0) w t μ kFuel (kFuel_lt (by omega)) e4 e3 ⟨a, b, c, e1, e2, fr⟩
  obtain ⟨μ2, p1, p2⟩ := mx_puts q3 (by omega) 0
  refine ⟨μ2, ?_, p2.1, b, p2.2.2.1, p2.2.2.2.2.2⟩
  unfold mm_expression_j360 mm_drops
  rw [kbind_eq (kbind_eq q1), kbind_eq p1]
end NOTS

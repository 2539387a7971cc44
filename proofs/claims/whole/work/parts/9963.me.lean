/-! state: the reference within an expression -/
def sTr (a : Int) : Int := if a = 5 then 1 else if a = 4 then 2 else if a = 3 then 3 else if a = 6 then 4 else if a = 7 then 4 else if a = 8 then 5 else if a = 9 then 5 else 6
theorem m_strength (μ : kM) (a : Int) : mm_strength μ a = some (sTr a) := by
  unfold mm_strength sTr
  repeat' split
  all_goals rfl
theorem sTr_lV {c : Int} (h1 : -17 ≤ c) (h2 : c ≤ -9) : sTr (rv_o c) = lV c + 1 ∧ rv_o c < 14 := by
  have h : c = -17 ∨ c = -16 ∨ c = -15 ∨ c = -14 ∨ c = -13 ∨ c = -12 ∨ c = -11 ∨ c = -10 ∨ c = -9 := by omega
  rcases h with rfl | rfl | rfl | rfl | rfl | rfl | rfl | rfl | rfl <;> decide
/-- a row of waiting ones at which dropping of those of a strength ends -/
def stp (W : List Int) (s : Int) : Prop := W = [] ∨ ∃ (V : List Int) (a : Int), W = V ++ [a] ∧ (14 ≤ a ∨ sTr a < s)
def frE (μ0 μ : kM) : Prop := (∀ j : Nat, j < 10 ∨ j = 12 ∨ j = 13 ∨ (20 < j ∧ j < 27) ∨ j = 28 ∨ j = 29 ∨ 31 < j → μ 0 j = μ0 0 j) ∧ ∀ c : Nat, c ≠ 0 → c ≠ 5 → c ≠ 6 → c ≠ 7 → μ c = μ0 c
def ME (T : Nat → Int) (n : Nat) (μ0 : kM) (i : Nat) (R W : List Int) (d : Nat) (tq : Nat → Int) (μ : kM) : Prop := TM T n i μ ∧ (μ 0 10 = 0 ∧ μ 0 11 = μ0 0 11) ∧ (μ 0 27 = (R.length : Int) ∧ rv_at (μ 5) 0 R) ∧ (μ 0 30 = (W.length : Int) ∧ rv_at (μ 6) 0 W) ∧ (μ 0 31 = (d : Int) ∧ ∀ k : Nat, k ≤ d → μ 7 k = tq k) ∧ frE μ0 μ
def MX (μ0 : kM) (f p : Int) (μ : kM) : Prop := μ 0 10 = f ∧ f ≠ 0 ∧ μ 0 11 = p ∧ (∃ t w : Nat, μ 0 27 = (t : Int) ∧ μ 0 30 = (w : Int) ∧ t + w + 1 ≤ 1400 ∧ w ≤ 950) ∧ frE μ0 μ
section MEX
variable {T : Nat → Int} {n m : Nat} {KD ST LN VL : Nat → Int} {i : Nat} {μ μ0 : kM} {R W : List Int} {d : Nat} {tq : Nat → Int}
theorem frE.put (h : frE μ0 μ) {c : Nat} {g : Nat → Int} (hc : c = 5 ∨ c = 6 ∨ c = 7) : frE μ0 (kst μ c g) := by
  refine ⟨fun j hj => ?_, fun q q0 q5 q6 q7 => ?_⟩
  · rw [kst_ne (by omega)]
    exact h.1 j hj
  · rw [kst_ne (by omega)]
    exact h.2 q q0 q5 q6 q7
theorem frE.put0 (h : frE μ0 μ) {g : Nat → Int} (hg : ∀ j : Nat, j < 10 ∨ j = 12 ∨ j = 13 ∨ (20 < j ∧ j < 27) ∨ j = 28 ∨ j = 29 ∨ 31 < j → g j = μ 0 j) : frE μ0 (kst μ 0 g) := by
  refine ⟨fun j hj => ?_, fun q q0 q5 q6 q7 => ?_⟩
  · rw [kst_eq, hg j hj]
    exact h.1 j hj
  · rw [kst_ne q0]
    exact h.2 q q0 q5 q6 q7
theorem ME.go (hK : TKf T n m KD ST LN VL) (h : ME T n μ0 i R W d tq μ) : ∃ μ', mm_goes μ = some μ' ∧ ME T n μ0 (i + 1) R W d tq μ' := by
  obtain ⟨a, ⟨b, b'⟩, ⟨c, c'⟩, ⟨e, e'⟩, ⟨k, k'⟩, f⟩ := h
  obtain ⟨g, g1, g2, g3⟩ := a.go hK
  refine ⟨_, g1, g3, ⟨?_, ?_⟩, ⟨?_, ?_⟩, ⟨?_, ?_⟩, ⟨?_, fun q hq => ?_⟩, f.put0 (fun j hj => g2 j (by omega))⟩
  · rw [kst_eq, g2 10 (by decide)]
    exact b
  · rw [kst_eq, g2 11 (by decide)]
    exact b'
  · rw [kst_eq, g2 27 (by decide)]
    exact c
  · rw [kst_ne (by decide)]
    exact c'
  · rw [kst_eq, g2 30 (by decide)]
    exact e
  · rw [kst_ne (by decide)]
    exact e'
  · rw [kst_eq, g2 31 (by decide)]
    exact k
  · rw [kst_ne (by decide)]
    exact k' q hq
theorem m_puts (h : ME T n μ0 i R W d tq μ) (hR : R.length < 1400) (v : Int) : ∃ μ', mm_puts μ v = some μ' ∧ ME T n μ0 i (R ++ [v]) W d tq μ' := by
  obtain ⟨a, ⟨b, b'⟩, ⟨c, c'⟩, ⟨e, e'⟩, ⟨k, k'⟩, f⟩ := h
  have ew := kw_inc (i := R.length) (by omega)
  refine ⟨kst (kst μ 5 (kup (μ 5) R.length v)) 0 (kup (μ 0) 27 ((R.length + 1 : Nat) : Int)), ?_, a.upd (by rw [kst_ne (by decide), kst_ne (by decide)]) (fun j h1 h2 => by rw [kst_eq, kup_ne (by omega)]), ⟨?_, ?_⟩, ⟨?_, ?_⟩, ⟨?_, ?_⟩, ⟨?_, fun q hq => ?_⟩, ?_⟩
  · unfold mm_puts
    rw [c, kchk_t (by omega), klet_eq, klet_eq, kst_ne (by decide), c, ew, Int.toNat_natCast]
  · rw [kst_eq, kup_ne (by decide)]
    exact b
  · rw [kst_eq, kup_ne (by decide)]
    exact b'
  · rw [kst_eq, kup_eq, List.length_append]
    rfl
  · rw [kst_ne (by decide), kst_eq]
    exact rv_at_up c'
  · rw [kst_eq, kup_ne (by decide)]
    exact e
  · rw [kst_ne (by decide), kst_ne (by decide)]
    exact e'
  · rw [kst_eq, kup_ne (by decide)]
    exact k
  · rw [kst_ne (by decide), kst_ne (by decide)]
    exact k' q hq
  · refine (f.put (c := 5) (Or.inl rfl)).put0 (fun j hj => ?_)
    rw [kst_ne (by decide), kup_ne (by omega)]
theorem m_waits (h : ME T n μ0 i R W d tq μ) (hW : W.length < 950) (v : Int) : ∃ μ', mm_waitsFor μ v = some μ' ∧ ME T n μ0 i R (W ++ [v]) d tq μ' := by
  obtain ⟨a, ⟨b, b'⟩, ⟨c, c'⟩, ⟨e, e'⟩, ⟨k, k'⟩, f⟩ := h
  have ew := kw_inc (i := W.length) (by omega)
  refine ⟨kst (kst μ 6 (kup (μ 6) W.length v)) 0 (kup (μ 0) 30 ((W.length + 1 : Nat) : Int)), ?_, a.upd (by rw [kst_ne (by decide), kst_ne (by decide)]) (fun j h1 h2 => by rw [kst_eq, kup_ne (by omega)]), ⟨?_, ?_⟩, ⟨?_, ?_⟩, ⟨?_, ?_⟩, ⟨?_, fun q hq => ?_⟩, ?_⟩
  · unfold mm_waitsFor
    rw [e, kchk_t (by omega), klet_eq, klet_eq, kst_ne (by decide), e, ew, Int.toNat_natCast]
  · rw [kst_eq, kup_ne (by decide)]
    exact b
  · rw [kst_eq, kup_ne (by decide)]
    exact b'
  · rw [kst_eq, kup_ne (by decide)]
    exact c
  · rw [kst_ne (by decide), kst_ne (by decide)]
    exact c'
  · rw [kst_eq, kup_eq, List.length_append]
    rfl
  · rw [kst_ne (by decide), kst_eq]
    exact rv_at_up e'
  · rw [kst_eq, kup_ne (by decide)]
    exact k
  · rw [kst_ne (by decide), kst_ne (by decide)]
    exact k' q hq
  · refine (f.put (c := 6) (Or.inr (Or.inl rfl))).put0 (fun j hj => ?_)
    rw [kst_ne (by decide), kup_ne (by omega)]
theorem m_pop {V : List Int} {v : Int} (h : ME T n μ0 i R (V ++ [v]) d tq μ) : μ 6 V.length = v ∧ ME T n μ0 i R V d tq (kst μ 0 (kup (μ 0) 30 (V.length : Int))) := by
  obtain ⟨a, ⟨b, b'⟩, ⟨c, c'⟩, ⟨e, e'⟩, ⟨k, k'⟩, f⟩ := h
  rw [rv_at_app] at e'
  have e2 := e'.2.1
  rw [Nat.zero_add] at e2
  refine ⟨e2, a.upd (by rw [kst_ne (by decide)]) (fun j h1 h2 => by rw [kst_eq, kup_ne (by omega)]), ⟨?_, ?_⟩, ⟨?_, ?_⟩, ⟨?_, ?_⟩, ⟨?_, fun q hq => ?_⟩, f.put0 (fun j hj => by rw [kup_ne (by omega)])⟩
  · rw [kst_eq, kup_ne (by decide)]
    exact b
  · rw [kst_eq, kup_ne (by decide)]
    exact b'
  · rw [kst_eq, kup_ne (by decide)]
    exact c
  · rw [kst_ne (by decide)]
    exact c'
  · rw [kst_eq, kup_eq]
  · rw [kst_ne (by decide)]
    exact e'.1
  · rw [kst_eq, kup_ne (by decide)]
    exact k
  · rw [kst_ne (by decide)]
    exact k' q hq
theorem m_depth (h : ME T n μ0 i R W d tq μ) {d' : Nat} {tq' : Nat → Int} {g : Nat → Int} (hd : ∀ k : Nat, k ≤ d' → g k = tq' k) : ME T n μ0 i R W d' tq' (kst (kst μ 0 (kup (μ 0) 31 (d' : Int))) 7 g) := by
  obtain ⟨a, ⟨b, b'⟩, ⟨c, c'⟩, ⟨e, e'⟩, ⟨k, k'⟩, f⟩ := h
  refine ⟨a.upd (by rw [kst_ne (by decide), kst_ne (by decide)]) (fun j h1 h2 => by rw [kst_ne (by decide), kst_eq, kup_ne (by omega)]), ⟨?_, ?_⟩, ⟨?_, ?_⟩, ⟨?_, ?_⟩, ⟨?_, fun q hq => ?_⟩, (f.put0 (fun j hj => by rw [kup_ne (by omega)])).put (Or.inr (Or.inr rfl))⟩
  · rw [kst_ne (by decide), kst_eq, kup_ne (by decide)]
    exact b
  · rw [kst_ne (by decide), kst_eq, kup_ne (by decide)]
    exact b'
  · rw [kst_ne (by decide), kst_eq, kup_ne (by decide)]
    exact c
  · rw [kst_ne (by decide), kst_ne (by decide)]
    exact c'
  · rw [kst_ne (by decide), kst_eq, kup_ne (by decide)]
    exact e
  · rw [kst_ne (by decide), kst_ne (by decide)]
    exact e'
  · rw [kst_ne (by decide), kst_eq, kup_eq]
  · rw [kst_eq]
    exact hd q hq
theorem m_dropStop {fuel : Nat} (h : ME T n μ0 i R W d tq μ) {s : Int} (hW : W.length ≤ 950) (hs : stp W s) : kloop (fun st => mm_drops_l0 st s) (fuel + 1) μ = some μ := by
  refine kloop_r ?_
  unfold mm_drops_l0
  rcases hs with rfl | ⟨V, a, rfl, ha⟩
  · have e : μ 0 30 = 0 := h.2.2.2.1.1
    rw [e, if_pos (by decide)]
  · have e := h.2.2.2.1.1
    obtain ⟨p1, -⟩ := m_pop h
    rw [List.length_append, List.length_singleton] at e hW
    have ew : w32 (((V.length + 1 : Nat) : Int) - 1) = (V.length : Int) := by
      rw [w32_s (by omega) (by omega)]
      omega
    rw [e, if_neg (by omega), ew, kchk_t (by omega), Int.toNat_natCast, p1]
    unfold mm_isOpen
    by_cases c : a < 14
    · rw [if_pos c, kbind_eq rfl, if_pos rfl, kchk_t (by omega), kbind_eq (m_strength μ a), if_pos (by omega)]
    · rw [if_neg c, kbind_eq rfl, if_neg (by decide)]
theorem m_dropB {s : Int} : ∀ (B R : List Int) (μ : kM) (fuel : Nat), B.length < fuel → ME T n μ0 i R (W ++ B.reverse) d tq μ → (∀ b ∈ B, b < 14 ∧ s ≤ sTr b) → stp W s → R.length + B.length ≤ 1400 → W.length + B.length ≤ 950 → ∃ μ', kloop (fun st => mm_drops_l0 st s) fuel μ = some μ' ∧ ME T n μ0 i (R ++ B) W d tq μ' := by
  intro B
  induction B with
  | nil =>
    intro R μ fuel hf h hb hs h1 h2
    obtain ⟨f, rfl, -⟩ := fu_s hf
    have h : ME T n μ0 i R (W ++ []) d tq μ := h
    rw [List.append_nil] at h
    rw [List.append_nil]
    exact ⟨μ, m_dropStop h (by omega) hs, h⟩
  | cons b B ih =>
    intro R μ fuel hf h hb hs h1 h2
    rw [List.length_cons] at hf h1 h2
    obtain ⟨f, rfl, hm⟩ := fu_s hf
    have hm := hm _ rfl
    rw [List.reverse_cons, ← List.append_assoc] at h
    obtain ⟨p1, p2⟩ := m_pop h
    have e := h.2.2.2.1.1
    have eV : (W ++ B.reverse).length = W.length + B.length := by rw [List.length_append, List.length_reverse]
    rw [List.length_append, List.length_singleton, eV] at e
    rw [eV] at p1 p2
    obtain ⟨q1, q2⟩ := hb b List.mem_cons_self
    obtain ⟨μ1, a1, a2⟩ := m_puts p2 (by omega) b
    obtain ⟨μ2, b1, b2⟩ := ih (R ++ [b]) μ1 f hm a2 (fun x hx => hb x (List.mem_cons_of_mem _ hx)) hs (by rw [List.length_append, List.length_singleton]; omega) (by omega)
    refine ⟨μ2, ?_, by rw [List.append_assoc] at b2; exact b2⟩
    rw [← b1]
    refine kloop_l ?_
    have ew : w32 (((W.length + B.length + 1 : Nat) : Int) - 1) = ((W.length + B.length : Nat) : Int) := by
      rw [w32_s (by omega) (by omega)]
      omega
    unfold mm_drops_l0 mm_isOpen
    rw [e, if_neg (by omega), ew, kchk_t (by omega), Int.toNat_natCast, p1, if_pos q1, kbind_eq rfl, if_pos rfl, kchk_t (by omega), kbind_eq (m_strength μ b), if_neg (by omega), klet_eq, kst_eq, kup_eq, kchk_t (by omega), Int.toNat_natCast, kst_ne (by decide), p1, kbind_eq a1]
theorem m_drops {s : Int} {P : List Int} {l : Int} (h : ME T n μ0 i R (W ++ P.map rv_o) d tq μ) (hP : ∀ c ∈ P, -17 ≤ c ∧ c ≤ -9 ∧ l ≤ lV c) (hs : stp W s) (hl : s ≤ l + 1) (h1 : R.length + P.length ≤ 1400) (h2 : W.length + P.length ≤ 950) : ∃ μ', mm_drops μ s = some μ' ∧ ME T n μ0 i (R ++ en P.reverse) W d tq μ' := by
  have e : P.map rv_o = ((P.reverse).map rv_o).reverse := by rw [← List.map_reverse, List.reverse_reverse]
  rw [e] at h
  obtain ⟨μ', a, b⟩ := m_dropB (s := s) ((P.reverse).map rv_o) R μ kFuel (kFuel_lt (by rw [List.length_map, List.length_reverse]; omega)) h (fun x hx => by
    obtain ⟨c, hc, rfl⟩ := List.mem_map.mp hx
    obtain ⟨c1, c2, c3⟩ := hP c (List.mem_reverse.mp hc)
    obtain ⟨s1, s2⟩ := sTr_lV c1 c2
    exact ⟨s2, by omega⟩) hs (by rw [List.length_map, List.length_reverse]; exact h1) (by rw [List.length_map, List.length_reverse]; exact h2)
  refine ⟨μ', ?_, ?_⟩
  · unfold mm_drops
    rw [kbind_eq a]
  · rw [en_ops _ (fun c hc => (hP c (List.mem_reverse.mp hc)).2.1)]
    exact b
end MEX

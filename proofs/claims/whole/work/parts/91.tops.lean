/-! CALLS: then, poetThen, hurt, later, worst, jailed, into, laureate -/
def ctN (M : Int) (n : Int) (q : Nat → Int) : Prop := (0 ≤ q 203 ∧ q 203 ≤ 32 * n) ∧ ∀ w : Int, 0 ≤ w → w < 4 → (0 ≤ q (153 + w).toNat ∧ q (153 + w).toNat ≤ n) ∧ (0 ≤ q (157 + w).toNat ∧ q (157 + w).toNat ≤ n) ∧ (w < M → q (153 + w).toNat + q (157 + w).toNat = n)
section TOPS
variable {N M tp : Int} {L : Nat → Int} {PH PF PB : List Int} {σ σ' μ μ' : kM} {q q' : Nat → Int}
theorem ctN.B {n Y : Int} (h : ctN M n q) (hn : n < 20000) (hH : HB Y q) (hY : Y < 800000) : ctB q := by
  have h0 := hH.1
  refine ⟨by have := h.1; omega, fun w p a b c d => by have := hH.2 w p a b c d; omega, fun w a b => by have := h.2 w a b; omega, by omega⟩
theorem ctN.year {n Y acc : Int} (h : ctN M n q) (hn0 : 0 ≤ n) (hn : n < 20000) (hH : HB Y q) (hY : Y < 800000) (hE : EN N M tp L PH PF PB) : ctN M (n + 1) (sp_year N M PH PF PB L acc q) := by
  obtain ⟨c1, c2⟩ := ct_year1 (acc := acc) (h.B hn hH hY) hE
  have hM := hE.2.1
  obtain ⟨d1, d2, d3, d4, d5, d6, d7⟩ := c1
  have e : ∀ k : Nat, k ≠ 0 → kup (sp_year N M PH PF PB L acc q) 0 (q 0) k = sp_year N M PH PF PB L acc q k := fun k hk => kup_ne hk
  rw [e 203 (by decide), e 196 (by decide)] at d4
  rw [e 196 (by decide)] at d3
  refine ⟨by have := h.1; omega, fun w a b => ?_⟩
  have h1 := d7 w a b
  rw [e _ (by omega), e _ (by omega)] at h1
  have h2 := h.2 w a b
  by_cases hw : w < (M.toNat : Int)
  · have h3 := h1.1 hw
    have h4 := h2.2.2 (by omega)
    omega
  · have h3 := h1.2 (by omega)
    refine ⟨by omega, by omega, fun h5 => absurd h5 (by omega)⟩
theorem sy_zero {acc Y n : Int} (h : ctN M n q) (hn : n < 20000) (hH : HB Y q) (hY : Y < 800000) (hE : EN N M tp L PH PF PB) : sp_year N M PH PF PB L acc q 195 = 0 ↔ sp_year N M PH PF PB L acc q 196 = 0 := by
  obtain ⟨c1, c2⟩ := ct_year1 (acc := acc) (h.B hn hH hY) hE
  have h1 := c1.2.1
  rw [kup_ne (show (195 : Nat) ≠ 0 by decide), kup_ne (show (196 : Nat) ≠ 0 by decide)] at h1
  exact h1
theorem sy_hits {acc Y n : Int} (h : ctN M n q) (hn : n < 20000) (hH : HB Y q) (hY : Y < 800000) (hE : EN N M tp L PH PF PB) : sp_year N M PH PF PB L acc q 203 = q 203 + sp_year N M PH PF PB L acc q 196 := by
  obtain ⟨c1, c2⟩ := ct_year1 (acc := acc) (h.B hn hH hY) hE
  have h1 := c1.2.2.2.1
  rw [kup_ne (show (203 : Nat) ≠ 0 by decide), kup_ne (show (196 : Nat) ≠ 0 by decide)] at h1
  exact h1
theorem sy_hi {acc : Int} {k : Nat} (hk : k = 201 ∨ k = 202) (hE : EN N M tp L PH PF PB) : kit (fun i q => sp_poet N PH PF PB L acc (i : Int) q) M.toNat (kup (kup q 195 0) 196 0) k = q k := by
  have hn1 := hE.1
  have hn2 := hE.2.1
  refine kit_ind (P := fun (s : Nat → Int) => s k = q k) _ (by rw [kup_ne (by omega), kup_ne (by omega)]) (fun i s hi hs => ?_)
  rw [← hs]
  unfold sp_poet
  split
  · unfold sp_read sp_rd2
    rw [kup_ne (by omega), kup_ne (by omega), kup_ne (by omega)]
    have h1 : ∀ (l t d : Int) (r : Nat → Int), (sp_hits N PH PF L (i : Int) l t d r).1 k = r k := by
      intro l t d r
      unfold sp_hits
      refine kit_ind (P := fun (s : (Nat → Int) × Int) => s.1 k = r k) _ rfl (fun j s hj hs => ?_)
      unfold sp_hit
      split
      · exact hs
      · rw [← hs]
        exact sp_hq_ne (by omega) (by omega) (by omega) (by omega) (by omega) (by omega) (by omega) (by omega) (by omega)
    rw [h1, sp_sells_ne (by omega) (by omega) hn1.2 (by omega), kup_ne (by omega)]
  · unfold sp_sit
    rw [kup_ne (by omega), kup_ne (by omega), kup_ne (by omega)]
theorem sy_201 {acc : Int} (hE : EN N M tp L PH PF PB) : sp_year N M PH PF PB L acc q 201 = kor (q 201) (sp_year N M PH PF PB L acc q 195) := by
  have h1 := sy_hi (acc := acc) (q := q) (k := 201) (Or.inl rfl) hE
  unfold sp_year
  generalize kit (fun i q => sp_poet N PH PF PB L acc (i : Int) q) M.toNat (kup (kup q 195 0) 196 0) = r at h1
  unfold sp_end
  rw [kup_ne (by decide), kup_eq, kup_ne (by decide), kup_ne (by decide), kup_ne (by decide), h1]
theorem sy_202 {acc : Int} (hE : EN N M tp L PH PF PB) : sp_year N M PH PF PB L acc q 202 = w32 (q 202 + (if sp_year N M PH PF PB L acc q 195 = 0 then 1 else 0)) := by
  have h1 := sy_hi (acc := acc) (q := q) (k := 202) (Or.inr rfl) hE
  unfold sp_year
  generalize kit (fun i q => sp_poet N PH PF PB L acc (i : Int) q) M.toNat (kup (kup q 195 0) 196 0) = r at h1
  unfold sp_end
  rw [kup_eq, kup_ne (show (195 : Nat) ≠ 202 by decide), kup_ne (show (195 : Nat) ≠ 201 by decide), kup_ne (show (195 : Nat) ≠ 0 by decide), h1]
theorem trow_ct : ctN M 0 (trow q) := by
  have hz : ∀ k : Nat, 145 ≤ k → trow q k = 0 := fun k hk => if_neg (by omega)
  refine ⟨by rw [hz _ (by decide)]; decide, fun w a b => ?_⟩
  rw [hz _ (by omega), hz _ (by omega)]
  omega
theorem trow_HB {Y : Int} (h : HB Y q) : HB Y (trow q) := h.congr (fun k hk => if_pos hk)
theorem trow_IV (h : IV M tp L q) : IV M tp L (trow q) := h.congr (fun k hk => if_pos hk)
theorem yrs_ct (hE : EN N M tp L PH PF PB) (hI : IV M tp L q) {Y : Int} (hH : HB Y q) (hY : Y < 700000) (hc : ctN M 0 q) (n : Nat) (hn : n < 20000) : ctN M (n : Int) (yrs N M PH PF PB L n q) := by
  induction n with
  | zero => exact hc
  | succ n ih =>
    rw [show ((n + 1 : Nat) : Int) = (n : Int) + 1 by omega]
    exact (ih (by omega)).year (by omega) (by omega) (yrs_HB hE hI hH n (by omega)) (by omega) hE
theorem fr0 (h : frM 145 (mT μ) μ') : μ' 0 0 = 0 := by
  rw [h.2.1 0 (by decide) (by decide) (by decide) (by decide)]
  exact mT0
/-- the place of the most, of the least -/
def mostF (f : Int → Int) (i : Nat) (b : Int) : Int := if b = -1 then (i : Int) else if f (i : Int) ≤ f b then b else (i : Int)
def leastF (f : Int → Int) (i : Nat) (b : Int) : Int := if b = -1 then (i : Int) else if f b ≤ f (i : Int) then b else (i : Int)
theorem mostF_rng (f : Int → Int) (n : Nat) : -1 ≤ kit (mostF f) n (-1) ∧ kit (mostF f) n (-1) < (n : Int) := by
  refine kit_indN (P := fun i (b : Int) => -1 ≤ b ∧ b < (i : Int)) n (by decide) (fun i b hi h => ?_)
  unfold mostF
  split
  · omega
  · split <;> omega
theorem leastF_rng (f : Int → Int) (n : Nat) : -1 ≤ kit (leastF f) n (-1) ∧ kit (leastF f) n (-1) < (n : Int) := by
  refine kit_indN (P := fun i (b : Int) => -1 ≤ b ∧ b < (i : Int)) n (by decide) (fun i b hi h => ?_)
  unfold leastF
  split
  · omega
  · split <;> omega
theorem c_richest (h : TC N M tp L PH PF PB σ q) : pf_Oracle_richest_57 σ = some (kit (mostF (fun k => q (1 + k).toNat)) N.toNat (-1)) := by
  have hn1 := h.1.1
  have hn2 := h.1.2.1
  unfold pf_Oracle_richest_57
  simp only [klet]
  rw [kl_V (body := fun st => pf_Oracle_richest_57_l4 σ st.1 st.2) (fun i => (kit (mostF (fun k => q (1 + k).toNat)) i (-1), (i : Int))) N.toNat (kit (mostF (fun k => q (1 + k).toNat)) N.toNat (-1)) (by omega) (fun i hi => by
    show pf_Oracle_richest_57_l4 σ (kit (mostF (fun k => q (1 + k).toNat)) i (-1)) (i : Int) = some (Sum.inl (mostF (fun k => q (1 + k).toNat) i (kit (mostF (fun k => q (1 + k).toNat)) i (-1)), ((i + 1 : Nat) : Int)))
    have hb := mostF_rng (fun k => q (1 + k).toNat) i
    generalize kit (mostF (fun k => q (1 + k).toNat)) i (-1) = b at hb
    unfold pf_Oracle_richest_57_l4 pf_Oracle_richest_57_l4_j45 pf_Oracle_richest_57_l4_j47 mostF
    rw [h.2.1.2.1, if_neg (by omega)]
    simp only [klet]
    rw [w32_s (v := (i : Int) + 1) (by omega) (by omega)]
    by_cases c0 : b = -1
    · rw [if_pos c0, if_pos c0]
      rfl
    · rw [if_neg c0, if_neg c0, w32_s (v := 1 + (i : Int)) (by omega) (by omega), kchk_t (by omega), w32_s (v := 1 + b) (by omega) (by omega), kchk_t (by omega), h.2.2.1.1.money (p := (i : Int)) (by omega) (by omega), h.2.2.1.1.money (p := b) (by omega) (by omega)]
      by_cases c1 : q (1 + (i : Int)).toNat ≤ q (1 + b).toNat
      · rw [if_pos c1, if_pos c1]
        rfl
      · rw [if_neg c1, if_neg c1]
        rfl) (by
    show pf_Oracle_richest_57_l4 σ _ ((N.toNat : Nat) : Int) = _
    unfold pf_Oracle_richest_57_l4
    rw [h.2.1.2.1, if_pos (by omega)]) (b0 := (-1, 0)) rfl]
  rfl
theorem c_poorest (h : TC N M tp L PH PF PB σ q) : pf_Oracle_poorestPoet_57 σ = some (kit (leastF (fun k => q (17 + k).toNat)) M.toNat (-1)) := by
  have hn1 := h.1.1
  have hn2 := h.1.2.1
  unfold pf_Oracle_poorestPoet_57
  simp only [klet]
  rw [kl_V (body := fun st => pf_Oracle_poorestPoet_57_l4 σ st.1 st.2) (fun i => (kit (leastF (fun k => q (17 + k).toNat)) i (-1), (i : Int))) M.toNat (kit (leastF (fun k => q (17 + k).toNat)) M.toNat (-1)) (by omega) (fun i hi => by
    show pf_Oracle_poorestPoet_57_l4 σ (kit (leastF (fun k => q (17 + k).toNat)) i (-1)) (i : Int) = some (Sum.inl (leastF (fun k => q (17 + k).toNat) i (kit (leastF (fun k => q (17 + k).toNat)) i (-1)), ((i + 1 : Nat) : Int)))
    have hb := leastF_rng (fun k => q (17 + k).toNat) i
    generalize kit (leastF (fun k => q (17 + k).toNat)) i (-1) = b at hb
    unfold pf_Oracle_poorestPoet_57_l4 pf_Oracle_poorestPoet_57_l4_j47 pf_Oracle_poorestPoet_57_l4_j49 leastF
    rw [h.2.1.2.2.1, if_neg (by omega)]
    simp only [klet]
    rw [w32_s (v := (i : Int) + 1) (by omega) (by omega)]
    by_cases c0 : b = -1
    · rw [if_pos c0, if_pos c0]
      rfl
    · rw [if_neg c0, if_neg c0, w32_s (v := 49 + (i : Int)) (by omega) (by omega), kchk_t (by omega), w32_s (v := 49 + b) (by omega) (by omega), kchk_t (by omega), h.2.2.1.1.pence (w := (i : Int)) (by omega) (by omega), h.2.2.1.1.pence (w := b) (by omega) (by omega)]
      by_cases c1 : q (17 + b).toNat ≤ q (17 + (i : Int)).toNat
      · rw [if_pos c1, if_pos c1]
        rfl
      · rw [if_neg c1, if_neg c1]
        rfl) (by
    show pf_Oracle_poorestPoet_57_l4 σ _ ((M.toNat : Nat) : Int) = _
    unfold pf_Oracle_poorestPoet_57_l4
    rw [h.2.1.2.2.1, if_pos (by omega)]) (b0 := (-1, 0)) rfl]
  rfl
theorem c_least (h : TC N M tp L PH PF PB σ q) : pf_Oracle_leastPaying_57 σ = some (kit (leastF (fun k => q (145 + k).toNat)) M.toNat (-1)) := by
  have hn1 := h.1.1
  have hn2 := h.1.2.1
  unfold pf_Oracle_leastPaying_57
  simp only [klet]
  rw [kl_V (body := fun st => pf_Oracle_leastPaying_57_l4 σ st.1 st.2) (fun i => (kit (leastF (fun k => q (145 + k).toNat)) i (-1), (i : Int))) M.toNat (kit (leastF (fun k => q (145 + k).toNat)) M.toNat (-1)) (by omega) (fun i hi => by
    show pf_Oracle_leastPaying_57_l4 σ (kit (leastF (fun k => q (145 + k).toNat)) i (-1)) (i : Int) = some (Sum.inl (leastF (fun k => q (145 + k).toNat) i (kit (leastF (fun k => q (145 + k).toNat)) i (-1)), ((i + 1 : Nat) : Int)))
    have hb := leastF_rng (fun k => q (145 + k).toNat) i
    generalize kit (leastF (fun k => q (145 + k).toNat)) i (-1) = b at hb
    unfold pf_Oracle_leastPaying_57_l4 pf_Oracle_leastPaying_57_l4_j41 pf_Oracle_leastPaying_57_l4_j43 leastF
    rw [h.2.1.2.2.1, if_neg (by omega)]
    simp only [klet]
    rw [w32_s (v := (i : Int) + 1) (by omega) (by omega)]
    by_cases c0 : b = -1
    · rw [if_pos c0, if_pos c0]
      rfl
    · rw [if_neg c0, if_neg c0, kchk_t (by omega), kchk_t (by omega), (show σ 66 (i : Int).toNat = q (145 + (i : Int)).toNat by rw [(h.2.2.1.2.1 (i : Int).toNat (by omega)).1, show 145 + (i : Int).toNat = (145 + (i : Int)).toNat by omega]), (show σ 66 b.toNat = q (145 + b).toNat by rw [(h.2.2.1.2.1 b.toNat (by omega)).1, show 145 + b.toNat = (145 + b).toNat by omega])]
      by_cases c1 : q (145 + b).toNat ≤ q (145 + (i : Int)).toNat
      · rw [if_pos c1, if_pos c1]
        rfl
      · rw [if_neg c1, if_neg c1]
        rfl) (by
    show pf_Oracle_leastPaying_57_l4 σ _ ((M.toNat : Nat) : Int) = _
    unfold pf_Oracle_leastPaying_57_l4
    rw [h.2.1.2.2.1, if_pos (by omega)]) (b0 := (-1, 0)) rfl]
  rfl
theorem m_richest (h : TN N M tp L PH PF PB μ q) (x2 x3 x5 : Int) : kloop (fun st => mm_later_l70 μ x2 x3 st.1 x5 st.2) kFuel (-1, 0) = some (kit (mostF (fun k => q (1 + k).toNat)) N.toNat (-1)) := by
  have hn1 := h.1.1
  have hn2 := h.1.2.1
  rw [kl_V (body := fun st => mm_later_l70 μ x2 x3 st.1 x5 st.2) (fun i => (kit (mostF (fun k => q (1 + k).toNat)) i (-1), (i : Int))) N.toNat (kit (mostF (fun k => q (1 + k).toNat)) N.toNat (-1)) (by omega) (fun i hi => by
    show mm_later_l70 μ x2 x3 (kit (mostF (fun k => q (1 + k).toNat)) i (-1)) x5 (i : Int) = some (Sum.inl (mostF (fun k => q (1 + k).toNat) i (kit (mostF (fun k => q (1 + k).toNat)) i (-1)), ((i + 1 : Nat) : Int)))
    have hb := mostF_rng (fun k => q (1 + k).toNat) i
    generalize kit (mostF (fun k => q (1 + k).toNat)) i (-1) = b at hb
    unfold mm_later_l70 mm_later_l70_j110 mm_later_l70_j114 mostF
    rw [h.2.1.2.1, if_neg (by omega)]
    simp only [klet]
    rw [w32_s (v := (i : Int) + 1) (by omega) (by omega)]
    by_cases c0 : b = -1
    · rw [if_pos c0, if_pos c0]
      rfl
    · rw [if_neg c0, if_neg c0, w32_s (v := 146 + (i : Int)) (by omega) (by omega), kchk_t (by omega), w32_s (v := 146 + b) (by omega) (by omega), kchk_t (by omega), h.2.2.1.at (j := (146 + (i : Int)).toNat) (i := 1 + (i : Int)) (by omega) (by omega) (by decide) (by omega), h.2.2.1.at (j := (146 + b).toNat) (i := 1 + b) (by omega) (by omega) (by decide) (by omega)]
      by_cases c1 : q (1 + (i : Int)).toNat ≤ q (1 + b).toNat
      · rw [if_pos c1, if_pos c1]
        rfl
      · rw [if_neg c1, if_neg c1]
        rfl) (by
    show mm_later_l70 μ x2 x3 _ x5 ((N.toNat : Nat) : Int) = _
    unfold mm_later_l70
    rw [h.2.1.2.1, if_pos (by omega)]) (b0 := (-1, 0)) rfl]
theorem m_poorest (h : TN N M tp L PH PF PB μ q) (x2 x3 x4 : Int) : kloop (fun st => mm_later_l123 μ x2 x3 x4 st.1 st.2) kFuel (-1, 0) = some (kit (leastF (fun k => q (17 + k).toNat)) M.toNat (-1)) := by
  have hn1 := h.1.1
  have hn2 := h.1.2.1
  rw [kl_V (body := fun st => mm_later_l123 μ x2 x3 x4 st.1 st.2) (fun i => (kit (leastF (fun k => q (17 + k).toNat)) i (-1), (i : Int))) M.toNat (kit (leastF (fun k => q (17 + k).toNat)) M.toNat (-1)) (by omega) (fun i hi => by
    show mm_later_l123 μ x2 x3 x4 (kit (leastF (fun k => q (17 + k).toNat)) i (-1)) (i : Int) = some (Sum.inl (leastF (fun k => q (17 + k).toNat) i (kit (leastF (fun k => q (17 + k).toNat)) i (-1)), ((i + 1 : Nat) : Int)))
    have hb := leastF_rng (fun k => q (17 + k).toNat) i
    generalize kit (leastF (fun k => q (17 + k).toNat)) i (-1) = b at hb
    unfold mm_later_l123 mm_later_l123_j163 mm_later_l123_j167 leastF
    rw [h.2.1.2.2.1, if_neg (by omega)]
    simp only [klet]
    rw [w32_s (v := (i : Int) + 1) (by omega) (by omega)]
    by_cases c0 : b = -1
    · rw [if_pos c0, if_pos c0]
      rfl
    · rw [if_neg c0, if_neg c0, w32_s (v := 162 + (i : Int)) (by omega) (by omega), kchk_t (by omega), w32_s (v := 162 + b) (by omega) (by omega), kchk_t (by omega), h.2.2.1.at (j := (162 + (i : Int)).toNat) (i := 17 + (i : Int)) (by omega) (by omega) (by decide) (by omega), h.2.2.1.at (j := (162 + b).toNat) (i := 17 + b) (by omega) (by omega) (by decide) (by omega)]
      by_cases c1 : q (17 + b).toNat ≤ q (17 + (i : Int)).toNat
      · rw [if_pos c1, if_pos c1]
        rfl
      · rw [if_neg c1, if_neg c1]
        rfl) (by
    show mm_later_l123 μ x2 x3 x4 _ ((M.toNat : Nat) : Int) = _
    unfold mm_later_l123
    rw [h.2.1.2.2.1, if_pos (by omega)]) (b0 := (-1, 0)) rfl]
theorem m_least (h : TN N M tp L PH PF PB μ q) : kloop (fun st => mm_laureate_l26 μ st.1 st.2) kFuel (-1, 0) = some (kit (leastF (fun k => q (145 + k).toNat)) M.toNat (-1)) := by
  have hn1 := h.1.1
  have hn2 := h.1.2.1
  rw [kl_V (body := fun st => mm_laureate_l26 μ st.1 st.2) (fun i => (kit (leastF (fun k => q (145 + k).toNat)) i (-1), (i : Int))) M.toNat (kit (leastF (fun k => q (145 + k).toNat)) M.toNat (-1)) (by omega) (fun i hi => by
    show mm_laureate_l26 μ (kit (leastF (fun k => q (145 + k).toNat)) i (-1)) (i : Int) = some (Sum.inl (leastF (fun k => q (145 + k).toNat) i (kit (leastF (fun k => q (145 + k).toNat)) i (-1)), ((i + 1 : Nat) : Int)))
    have hb := leastF_rng (fun k => q (145 + k).toNat) i
    generalize kit (leastF (fun k => q (145 + k).toNat)) i (-1) = b at hb
    unfold mm_laureate_l26 mm_laureate_l26_j54 mm_laureate_l26_j56 leastF
    rw [h.2.1.2.2.1, if_neg (by omega)]
    simp only [klet]
    rw [w32_s (v := (i : Int) + 1) (by omega) (by omega)]
    by_cases c0 : b = -1
    · rw [if_pos c0, if_pos c0]
      rfl
    · rw [if_neg c0, if_neg c0, kchk_t (by omega), kchk_t (by omega), (show μ 10 (i : Int).toNat = q (145 + (i : Int)).toNat by rw [(h.2.2.2.1.1 (i : Int).toNat (by omega)).1, show 145 + (i : Int).toNat = (145 + (i : Int)).toNat by omega]), (show μ 10 b.toNat = q (145 + b).toNat by rw [(h.2.2.2.1.1 b.toNat (by omega)).1, show 145 + b.toNat = (145 + b).toNat by omega])]
      by_cases c1 : q (145 + b).toNat ≤ q (145 + (i : Int)).toNat
      · rw [if_pos c1, if_pos c1]
        rfl
      · rw [if_neg c1, if_neg c1]
        rfl) (by
    show mm_laureate_l26 μ _ ((M.toNat : Nat) : Int) = _
    unfold mm_laureate_l26
    rw [h.2.1.2.2.1, if_pos (by omega)]) (b0 := (-1, 0)) rfl]
theorem op_then (h : RE N M tp L PH PF PB σ μ) (p n x : Int) : OC N M tp L PH PF PB thB (pf_P_then_0 σ p n x) (mm_then μ p n x) := by
  have hn1 := h.1.1
  have hn2 := h.1.2.1
  have hn3 := h.1.2.2.1
  have hCN := h.cn
  have hMN := h.mn
  obtain ⟨hN, hE, hR, hI⟩ := h.cn
  obtain ⟨-, hEM, hRM, -, -⟩ := h.mn
  unfold pf_P_then_0 mm_then
  simp only [klet]
  by_cases k1 : 0 ≤ p ∧ p < N
  · rw [c_person1 (by rw [hE.2.1]; exact k1), m_isPerson1 mT0 (by rw [hEM.2.1]; exact k1)]
    simp only [Option.bind]
    rw [if_neg (show ¬ (1 : Int) = 0 by decide)]
    by_cases k2 : 0 ≤ x ∧ x ≤ 2
    · rw [c_what1 k2, m_isWhat1 mT0 k2]
      simp only
      rw [if_neg (show ¬ (1 : Int) = 0 by decide)]
      by_cases k3 : 0 ≤ n ∧ n ≤ 60
      · rw [c_within1 k3, m_isSoon1 mT0 k3]
        simp only
        rw [if_neg (show ¬ (1 : Int) = 0 by decide)]
        obtain ⟨σ1, a1, a2, a3⟩ := c_foresee hCN (n := n) (by omega) (by omega)
        obtain ⟨μ1, b1, b2, b3⟩ := m_goesTo hMN (n := n) (by omega) (by omega)
        rw [a1, b1]
        simp only
        rw [c_ofPerson58 a2.2.2.1.1 (by rw [a2.2.1.2.2.1]; exact hn2.1) (by rw [a2.2.1.2.2.1]; exact hn2.2) k1.1 (by omega), a2.2.1.2.2.1, w32_s (v := 146 + p) (by omega) (by omega), kchk_t (by omega), w32_s (v := 154 + p) (by omega) (by omega), kchk_t (by omega), b2.2.2.1.at (j := (146 + p).toNat) (i := 1 + p) (by omega) (by omega) (by decide) (by omega), b2.2.2.1.at (j := (154 + p).toNat) (i := 9 + p) (by omega) (by omega) (by decide) (by omega), m_hitsOf b2.2.2.1 (by decide) (by decide) b2.2.1.2.2.1 hn2.1 hn2.2 k1.1 (by omega)]
        have hc : x = 0 ∨ x = 1 ∨ x = 2 := by omega
        rcases hc with rfl | rfl | rfl
        · exact OC.ok h rfl rfl (kpC.fr64 a3) (kpM.th.trans (kpM.fr b3)) (fr0 b3)
        · exact OC.ok h rfl rfl (kpC.fr64 a3) (kpM.th.trans (kpM.fr b3)) (fr0 b3)
        · exact OC.ok h rfl rfl (kpC.fr64 a3) (kpM.th.trans (kpM.fr b3)) (fr0 b3)
      · rw [c_within0 k3, m_isSoon0 mT0 (by decide) k3]
        exact OC.no h (b := 0) (μ' := mR (mT μ) 2) rfl rfl kpC.rfl (kpM.th.trans kpM.th) (Or.inr ⟨rfl, mR0⟩)
    · rw [c_what0 k2, m_isWhat0 mT0 k2]
      exact OC.no h (b := 0) (μ' := mR (mT μ) 1) rfl rfl kpC.rfl (kpM.th.trans kpM.th) (Or.inl ⟨rfl, mR0⟩)
  · rw [c_person0 (by rw [hE.2.1]; exact k1), m_isPerson0 mT0 (by rw [hEM.2.1]; exact k1)]
    exact OC.no h (b := 0) (μ' := mR (mT μ) 1) rfl rfl kpC.rfl (kpM.th.trans kpM.th) (Or.inl ⟨rfl, mR0⟩)
theorem op_poetThen (h : RE N M tp L PH PF PB σ μ) (w n x : Int) : OC N M tp L PH PF PB thB (pf_P_poetThen_0 σ w n x) (mm_poetThen μ w n x) := by
  have hn1 := h.1.1
  have hn2 := h.1.2.1
  have hn3 := h.1.2.2.1
  have hCN := h.cn
  have hMN := h.mn
  obtain ⟨hN, hE, hR, hI⟩ := h.cn
  obtain ⟨-, hEM, hRM, -, -⟩ := h.mn
  unfold pf_P_poetThen_0 mm_poetThen
  simp only [klet]
  by_cases k1 : 0 ≤ w ∧ w < M
  · rw [c_poet1 (by rw [hE.2.2.1]; exact k1), m_isPoet1 mT0 (by rw [hEM.2.2.1]; exact k1)]
    simp only [Option.bind]
    rw [if_neg (show ¬ (1 : Int) = 0 by decide)]
    by_cases k2 : 0 ≤ x ∧ x ≤ 5
    · rw [c_what1 k2, m_isWhat1 mT0 k2]
      simp only
      rw [if_neg (show ¬ (1 : Int) = 0 by decide)]
      by_cases k3 : 0 ≤ n ∧ n ≤ 60
      · rw [c_within1 k3, m_isSoon1 mT0 k3]
        simp only
        rw [if_neg (show ¬ (1 : Int) = 0 by decide)]
        obtain ⟨σ1, a1, a2, a3⟩ := c_foresee hCN (n := n) (by omega) (by omega)
        obtain ⟨μ1, b1, b2, b3⟩ := m_goesTo hMN (n := n) (by omega) (by omega)
        rw [a1, b1]
        simp only
        simp (disch := omega) only [w32_s, kchk_t]
        rw [a2.2.2.1.1.pence k1.1 (by omega), a2.2.2.1.1.next k1.1 (by omega), a2.2.2.1.1.sits k1.1 (by omega), (show σ1 66 w.toNat = yrs N M PH PF PB L n.toNat (trow (μ 8)) (145 + w).toNat by rw [(a2.2.2.1.2.1 w.toNat (by omega)).1, show 145 + w.toNat = (145 + w).toNat by omega]), (show σ1 67 w.toNat = yrs N M PH PF PB L n.toNat (trow (μ 8)) (149 + w).toNat by rw [(a2.2.2.1.2.1 w.toNat (by omega)).2.1, show 149 + w.toNat = (149 + w).toNat by omega]), (show σ1 68 w.toNat = yrs N M PH PF PB L n.toNat (trow (μ 8)) (153 + w).toNat by rw [(a2.2.2.1.2.1 w.toNat (by omega)).2.2, show 153 + w.toNat = (153 + w).toNat by omega]), (show μ1 10 w.toNat = yrs N M PH PF PB L n.toNat (trow (μ 8)) (145 + w).toNat by rw [(b2.2.2.2.1.1 w.toNat (by omega)).1, show 145 + w.toNat = (145 + w).toNat by omega]), (show μ1 11 w.toNat = yrs N M PH PF PB L n.toNat (trow (μ 8)) (149 + w).toNat by rw [(b2.2.2.2.1.1 w.toNat (by omega)).2.1, show 149 + w.toNat = (149 + w).toNat by omega]), (show μ1 12 w.toNat = yrs N M PH PF PB L n.toNat (trow (μ 8)) (153 + w).toNat by rw [(b2.2.2.2.1.1 w.toNat (by omega)).2.2.1, show 153 + w.toNat = (153 + w).toNat by omega]), b2.2.2.1.at (j := (162 + w).toNat) (i := 17 + w) (by omega) (by omega) (by decide) (by omega), b2.2.2.1.at (j := (166 + w).toNat) (i := 21 + w) (by omega) (by omega) (by decide) (by omega), b2.2.2.1.at (j := (170 + w).toNat) (i := 25 + w) (by omega) (by omega) (by decide) (by omega)]
        have hc : x = 0 ∨ x = 1 ∨ x = 2 ∨ x = 3 ∨ x = 4 ∨ x = 5 := by omega
        rcases hc with rfl | rfl | rfl | rfl | rfl | rfl
        · exact OC.ok h rfl rfl (kpC.fr64 a3) (kpM.th.trans (kpM.fr b3)) (fr0 b3)
        · exact OC.ok h rfl rfl (kpC.fr64 a3) (kpM.th.trans (kpM.fr b3)) (fr0 b3)
        · exact OC.ok h rfl rfl (kpC.fr64 a3) (kpM.th.trans (kpM.fr b3)) (fr0 b3)
        · exact OC.ok h rfl rfl (kpC.fr64 a3) (kpM.th.trans (kpM.fr b3)) (fr0 b3)
        · exact OC.ok h rfl rfl (kpC.fr64 a3) (kpM.th.trans (kpM.fr b3)) (fr0 b3)
        · exact OC.ok h rfl rfl (kpC.fr64 a3) (kpM.th.trans (kpM.fr b3)) (fr0 b3)
      · rw [c_within0 k3, m_isSoon0 mT0 (by decide) k3]
        exact OC.no h (b := 0) (μ' := mR (mT μ) 2) rfl rfl kpC.rfl (kpM.th.trans kpM.th) (Or.inr ⟨rfl, mR0⟩)
    · rw [c_what0 k2, m_isWhat0 mT0 k2]
      exact OC.no h (b := 0) (μ' := mR (mT μ) 1) rfl rfl kpC.rfl (kpM.th.trans kpM.th) (Or.inl ⟨rfl, mR0⟩)
  · rw [c_poet0 (by rw [hE.2.2.1]; exact k1), m_isPoet0 mT0 (by rw [hEM.2.2.1]; exact k1)]
    exact OC.no h (b := 0) (μ' := mR (mT μ) 1) rfl rfl kpC.rfl (kpM.th.trans kpM.th) (Or.inl ⟨rfl, mR0⟩)
theorem op_jailed (h : RE N M tp L PH PF PB σ μ) (w n : Int) : OC N M tp L PH PF PB thB (pf_P_jailed_0 σ w n) (mm_jailed μ w n) := by
  have hn1 := h.1.1
  have hn2 := h.1.2.1
  have hn3 := h.1.2.2.1
  have hCN := h.cn
  have hMN := h.mn
  obtain ⟨hN, hE, hR, hI⟩ := h.cn
  obtain ⟨-, hEM, hRM, -, -⟩ := h.mn
  unfold pf_P_jailed_0 mm_jailed
  simp only [klet]
  by_cases k1 : 0 ≤ w ∧ w < M
  · rw [c_poet1 (by rw [hE.2.2.1]; exact k1), m_isPoet1 mT0 (by rw [hEM.2.2.1]; exact k1)]
    simp only [Option.bind]
    rw [if_neg (show ¬ (1 : Int) = 0 by decide)]
    by_cases k2 : 0 ≤ n ∧ n ≤ 60
    · rw [c_within1 k2, m_isSoon1 mT0 k2]
      simp only
      rw [if_neg (show ¬ (1 : Int) = 0 by decide)]
      obtain ⟨σ1, a1, a2, a3⟩ := c_foresee hCN (n := n) (by omega) (by omega)
      obtain ⟨μ1, b1, b2, b3⟩ := m_goesTo hMN (n := n) (by omega) (by omega)
      rw [a1, b1]
      simp only
      rw [kchk_t (by omega), kchk_t (by omega), (show σ1 68 w.toNat = yrs N M PH PF PB L n.toNat (trow (μ 8)) (153 + w).toNat by rw [(a2.2.2.1.2.1 w.toNat (by omega)).2.2, show 153 + w.toNat = (153 + w).toNat by omega]), (show μ1 13 w.toNat = yrs N M PH PF PB L n.toNat (trow (μ 8)) (157 + w).toNat by rw [(b2.2.2.2.1.1 w.toNat (by omega)).2.2.2, show 157 + w.toNat = (157 + w).toNat by omega])]
      have hct := (yrs_ct hN (trow_IV hI) (trow_HB h.rv.2) (by decide) (trow_ct (M := M)) n.toNat (by omega)).2 w k1.1 (by omega)
      have hct2 := hct.2.2 k1.2
      rw [show w32 (n - yrs N M PH PF PB L n.toNat (trow (μ 8)) (153 + w).toNat) = yrs N M PH PF PB L n.toNat (trow (μ 8)) (157 + w).toNat by rw [w32_s (by omega) (by omega)]; omega]
      exact OC.ok h rfl rfl (kpC.fr64 a3) (kpM.th.trans (kpM.fr b3)) (fr0 b3)
    · rw [c_within0 k2, m_isSoon0 mT0 (by decide) k2]
      exact OC.no h (b := 0) (μ' := mR (mT μ) 2) rfl rfl kpC.rfl (kpM.th.trans kpM.th) (Or.inr ⟨rfl, mR0⟩)
  · rw [c_poet0 (by rw [hE.2.2.1]; exact k1), m_isPoet0 mT0 (by rw [hEM.2.2.1]; exact k1)]
    exact OC.no h (b := 0) (μ' := mR (mT μ) 1) rfl rfl kpC.rfl (kpM.th.trans kpM.th) (Or.inl ⟨rfl, mR0⟩)
theorem op_into (h : RE N M tp L PH PF PB σ μ) (p w n : Int) : OC N M tp L PH PF PB thB (pf_P_into_0 σ p w n) (mm_into μ p w n) := by
  have hn1 := h.1.1
  have hn2 := h.1.2.1
  have hn3 := h.1.2.2.1
  have hCN := h.cn
  have hMN := h.mn
  obtain ⟨hN, hE, hR, hI⟩ := h.cn
  obtain ⟨-, hEM, hRM, -, -⟩ := h.mn
  unfold pf_P_into_0 mm_into
  simp only [klet]
  by_cases k1 : 0 ≤ p ∧ p < N
  · rw [c_person1 (by rw [hE.2.1]; exact k1), m_isPerson1 mT0 (by rw [hEM.2.1]; exact k1)]
    simp only [Option.bind]
    rw [if_neg (show ¬ (1 : Int) = 0 by decide)]
    by_cases k2 : 0 ≤ w ∧ w < M
    · rw [c_poet1 (by rw [hE.2.2.1]; exact k2), m_isPoet1 mT0 (by rw [hEM.2.2.1]; exact k2)]
      simp only
      rw [if_neg (show ¬ (1 : Int) = 0 by decide)]
      by_cases k3 : 0 ≤ n ∧ n ≤ 60
      · rw [c_within1 k3, m_isSoon1 mT0 k3]
        simp only
        rw [if_neg (show ¬ (1 : Int) = 0 by decide)]
        obtain ⟨σ1, a1, a2, a3⟩ := c_foresee hCN (n := n) (by omega) (by omega)
        obtain ⟨μ1, b1, b2, b3⟩ := m_goesTo hMN (n := n) (by omega) (by omega)
        rw [a1, b1]
        simp only
        rw [w32_s (v := w * 8) (by omega) (by omega), w32_s (v := w * 8 + p) (by omega) (by omega), kchk_t (by omega), w32_s (v := 8 * w) (by omega) (by omega), w32_s (v := 8 * w + p) (by omega) (by omega), kchk_t (by omega), a2.2.2.1.2.2.1 (w * 8 + p).toNat (by omega), b2.2.2.2.1.2.1 (8 * w + p).toNat (by omega), show (w * 8 + p).toNat = (8 * w + p).toNat by omega]
        exact OC.ok h rfl rfl (kpC.fr64 a3) (kpM.th.trans (kpM.fr b3)) (fr0 b3)
      · rw [c_within0 k3, m_isSoon0 mT0 (by decide) k3]
        exact OC.no h (b := 0) (μ' := mR (mT μ) 2) rfl rfl kpC.rfl (kpM.th.trans kpM.th) (Or.inr ⟨rfl, mR0⟩)
    · rw [c_poet0 (by rw [hE.2.2.1]; exact k2), m_isPoet0 mT0 (by rw [hEM.2.2.1]; exact k2)]
      exact OC.no h (b := 0) (μ' := mR (mT μ) 1) rfl rfl kpC.rfl (kpM.th.trans kpM.th) (Or.inl ⟨rfl, mR0⟩)
  · rw [c_person0 (by rw [hE.2.1]; exact k1), m_isPerson0 mT0 (by rw [hEM.2.1]; exact k1)]
    exact OC.no h (b := 0) (μ' := mR (mT μ) 1) rfl rfl kpC.rfl (kpM.th.trans kpM.th) (Or.inl ⟨rfl, mR0⟩)
theorem op_laureate (h : RE N M tp L PH PF PB σ μ) (n : Int) : OC N M tp L PH PF PB thI (pf_P_laureate_0 σ n) (mm_laureate μ n) := by
  have hn1 := h.1.1
  have hn2 := h.1.2.1
  have hn3 := h.1.2.2.1
  have hCN := h.cn
  have hMN := h.mn
  obtain ⟨hN, hE, hR, hI⟩ := h.cn
  obtain ⟨-, hEM, hRM, -, -⟩ := h.mn
  unfold pf_P_laureate_0 mm_laureate
  simp only [klet]
  by_cases k1 : 0 ≤ n ∧ n ≤ 60
  · rw [c_within1 k1, m_isSoon1 mT0 k1]
    simp only [Option.bind]
    rw [if_neg (show ¬ (1 : Int) = 0 by decide)]
    obtain ⟨σ1, a1, a2, a3⟩ := c_foresee hCN (n := n) (by omega) (by omega)
    obtain ⟨μ1, b1, b2, b3⟩ := m_goesTo hMN (n := n) (by omega) (by omega)
    rw [a1, b1]
    simp only
    rw [c_least a2, m_least b2]
    exact OC.ok h rfl rfl (kpC.fr64 a3) (kpM.th.trans (kpM.fr b3)) (fr0 b3)
  · rw [c_within0 k1, m_isSoon0 mT0 (by decide) k1]
    exact OC.no h (b := 0) (μ' := mR (mT μ) 1) rfl rfl kpC.rfl (kpM.th.trans kpM.th) ⟨rfl, mR0⟩
/-- who was hit in which years -/
theorem m_injured (h : MN N M tp L PH PF PB μ q) {n x2 : Int} (hn0 : 0 ≤ n) (hn : n ≤ 60) {μ1 : kM} (h1 : TN N M tp L PH PF PB μ1 (trow q)) (hf : frM 145 μ μ1) : ∃ μ', kloop (fun st => mm_later_l35 st.1 n x2 st.2.1 st.2.2) kFuel (μ1, 0, 0) = some (μ', yrs N M PH PF PB L n.toNat (trow q) 201) ∧ TN N M tp L PH PF PB μ' (yrs N M PH PF PB L n.toNat (trow q)) ∧ frM 145 μ μ' := by
  obtain ⟨r, g1, g2, g3, g4⟩ := kOk_for (body := fun st => mm_later_l35 st.1 n x2 st.2.1 st.2.2) (P := fun r => r.2 = yrs N M PH PF PB L n.toNat (trow q) 201 ∧ TN N M tp L PH PF PB r.1 (yrs N M PH PF PB L n.toNat (trow q)) ∧ frM 145 μ r.1) n.toNat (fun i st => st.2 = (yrs N M PH PF PB L i (trow q) 201, (i : Int)) ∧ TN N M tp L PH PF PB st.1 (yrs N M PH PF PB L i (trow q)) ∧ frM 145 μ st.1) (fun i st hi hI => by
    obtain ⟨μ2, b⟩ := st
    obtain ⟨rfl, h2, h3⟩ := hI
    have h3 : frM 145 μ μ2 := h3
    have h2 : TN N M tp L PH PF PB μ2 (yrs N M PH PF PB L i (trow q)) := h2
    obtain ⟨μ3, t1, t2, t4, t3⟩ := m_tstep h2 (acc := 0) (by rw [h3.2.1 48 (by decide) (by decide) (by decide) (by decide)]; exact h.2.2.2.2)
    refine ⟨.inl (μ3, yrs N M PH PF PB L (i + 1) (trow q) 201, ((i + 1 : Nat) : Int)), ?_, rfl, t2, h3.trans t3⟩
    show mm_later_l35 μ2 n x2 (yrs N M PH PF PB L i (trow q) 201) (i : Int) = _
    unfold mm_later_l35
    rw [if_neg (by omega), t1]
    simp only [Option.bind, klet]
    rw [w32_s (by omega) (by omega), t4.1, show yrs N M PH PF PB L (i + 1) (trow q) 201 = kor (yrs N M PH PF PB L i (trow q) 201) (yrs N M PH PF PB L (i + 1) (trow q) 195) from sy_201 h.1]
    rfl) (fun st hI => by
    obtain ⟨μ2, b⟩ := st
    obtain ⟨rfl, h2, h3⟩ := hI
    refine ⟨.inr (μ2, yrs N M PH PF PB L n.toNat (trow q) 201), ?_, rfl, h2, h3⟩
    show mm_later_l35 μ2 n x2 _ ((n.toNat : Nat) : Int) = _
    unfold mm_later_l35
    rw [if_pos (by omega)]) (kFuel_lt (by omega)) (μ1, 0, 0) ⟨rfl, h1, hf⟩
  obtain ⟨μ', g⟩ := r
  have g2 : g = _ := g2
  subst g2
  exact ⟨μ', g1, g3, g4⟩
theorem m_quiet (h : MN N M tp L PH PF PB μ q) (hH : HB 9999 q) {n x2 : Int} (hn0 : 0 ≤ n) (hn : n ≤ 60) {μ1 : kM} (h1 : TN N M tp L PH PF PB μ1 (trow q)) (hf : frM 145 μ μ1) : ∃ μ', kloop (fun st => mm_worst_l35 st.1 n x2 st.2.1 st.2.2) kFuel (μ1, 0, 0) = some (μ', yrs N M PH PF PB L n.toNat (trow q) 202) ∧ TN N M tp L PH PF PB μ' (yrs N M PH PF PB L n.toNat (trow q)) ∧ frM 145 μ μ' := by
  obtain ⟨r, g1, g2, g3, g4⟩ := kOk_for (body := fun st => mm_worst_l35 st.1 n x2 st.2.1 st.2.2) (P := fun r => r.2 = yrs N M PH PF PB L n.toNat (trow q) 202 ∧ TN N M tp L PH PF PB r.1 (yrs N M PH PF PB L n.toNat (trow q)) ∧ frM 145 μ r.1) n.toNat (fun i st => st.2 = (yrs N M PH PF PB L i (trow q) 202, (i : Int)) ∧ TN N M tp L PH PF PB st.1 (yrs N M PH PF PB L i (trow q)) ∧ frM 145 μ st.1) (fun i st hi hI => by
    obtain ⟨μ2, b⟩ := st
    obtain ⟨rfl, h2, h3⟩ := hI
    have h3 : frM 145 μ μ2 := h3
    have h2 : TN N M tp L PH PF PB μ2 (yrs N M PH PF PB L i (trow q)) := h2
    obtain ⟨μ3, t1, t2, t4, t3⟩ := m_tstep h2 (acc := 0) (by rw [h3.2.1 48 (by decide) (by decide) (by decide) (by decide)]; exact h.2.2.2.2)
    refine ⟨.inl (μ3, yrs N M PH PF PB L (i + 1) (trow q) 202, ((i + 1 : Nat) : Int)), ?_, rfl, t2, h3.trans t3⟩
    show mm_worst_l35 μ2 n x2 (yrs N M PH PF PB L i (trow q) 202) (i : Int) = _
    have hIv := trow_IV h.2.2.2.1
    have hz := sy_zero (acc := 0) (yrs_ct h.1 hIv (trow_HB hH) (by decide) (trow_ct (M := M)) i (by omega)) (by omega) (yrs_HB h.1 hIv (trow_HB hH) i (by omega)) (by omega) h.1
    have hq := sy_202 (acc := 0) (q := yrs N M PH PF PB L i (trow q)) h.1
    unfold mm_worst_l35 mm_worst_l35_j61
    rw [if_neg (by omega), t1]
    simp only [Option.bind, klet]
    rw [w32_s (v := (i : Int) + 1) (by omega) (by omega), t4.2.1, show yrs N M PH PF PB L (i + 1) (trow q) 202 = sp_year N M PH PF PB L 0 (yrs N M PH PF PB L i (trow q)) 202 from rfl, hq]
    by_cases c : sp_year N M PH PF PB L 0 (yrs N M PH PF PB L i (trow q)) 196 = 0
    · rw [if_pos c, if_pos (hz.mpr c)]
      rfl
    · rw [if_neg c, if_neg (fun h => c (hz.mp h))]
      rfl) (fun st hI => by
    obtain ⟨μ2, b⟩ := st
    obtain ⟨rfl, h2, h3⟩ := hI
    refine ⟨.inr (μ2, yrs N M PH PF PB L n.toNat (trow q) 202), ?_, rfl, h2, h3⟩
    show mm_worst_l35 μ2 n x2 _ ((n.toNat : Nat) : Int) = _
    unfold mm_worst_l35
    rw [if_pos (by omega)]) (kFuel_lt (by omega)) (μ1, 0, 0) ⟨rfl, h1, hf⟩
  obtain ⟨μ', g⟩ := r
  have g2 : g = _ := g2
  subst g2
  exact ⟨μ', g1, g3, g4⟩
theorem op_later (h : RE N M tp L PH PF PB σ μ) (n x : Int) : OC N M tp L PH PF PB thB (pf_P_later_0 σ n x) (mm_later μ n x) := by
  have hn1 := h.1.1
  have hn2 := h.1.2.1
  have hn3 := h.1.2.2.1
  have hCN := h.cn
  have hMN := h.mn
  obtain ⟨hN, hE, hR, hI⟩ := h.cn
  obtain ⟨-, hEM, hRM, -, -⟩ := h.mn
  unfold pf_P_later_0 mm_later
  simp only [klet]
  by_cases k1 : 0 ≤ x ∧ x ≤ 4
  · rw [c_what1 k1, m_isWhat1 mT0 k1]
    simp only [Option.bind]
    rw [if_neg (show ¬ (1 : Int) = 0 by decide)]
    by_cases k2 : 0 ≤ n ∧ n ≤ 60
    · rw [c_within1 k2, m_isSoon1 mT0 k2]
      simp only
      rw [if_neg (show ¬ (1 : Int) = 0 by decide)]
      obtain ⟨σ1, a1, a2, a3⟩ := c_foresee hCN (n := n) (by omega) (by omega)
      obtain ⟨μ0, d1, d2, d3⟩ := m_tries hMN
      rw [a1, d1]
      simp only
      obtain ⟨μ1, b1, b2, b3⟩ := m_injured (n := n) (x2 := x) hMN (by omega) (by omega) d2 d3
      rw [b1]
      simp only
      rw [m_richest b2]
      simp only
      rw [m_poorest b2]
      simp only
      rw [c_richest a2, c_poorest a2, c_sitting58 a2.2.2.1.1 (by rw [a2.2.1.2.2.1]; exact hn2.1) (by rw [a2.2.1.2.2.1]; exact hn2.2), c_unscarred58 a2.2.2.1.1 (by rw [a2.2.1.2.1]; exact hn1.1) (by rw [a2.2.1.2.1]; exact hn1.2), a2.2.1.2.2.1, a2.2.1.2.1, m_sitting b2.2.2.1 (by decide) (by decide) b2.2.1.2.2.1 hn2.1 hn2.2, m_wholeOnes b2.2.2.1 (by decide) (by decide) b2.2.1.2.1 hn1.1 hn1.2, a2.2.2.1.2.2.2.2.2.2.1]
      have hc : x = 0 ∨ x = 1 ∨ x = 2 ∨ x = 3 ∨ x = 4 := by omega
      rcases hc with rfl | rfl | rfl | rfl | rfl
      · exact OC.ok h rfl rfl (kpC.fr64 a3) (kpM.th.trans (kpM.fr b3)) (fr0 b3)
      · exact OC.ok h rfl rfl (kpC.fr64 a3) (kpM.th.trans (kpM.fr b3)) (fr0 b3)
      · exact OC.ok h rfl rfl (kpC.fr64 a3) (kpM.th.trans (kpM.fr b3)) (fr0 b3)
      · exact OC.ok h rfl rfl (kpC.fr64 a3) (kpM.th.trans (kpM.fr b3)) (fr0 b3)
      · exact OC.ok h rfl rfl (kpC.fr64 a3) (kpM.th.trans (kpM.fr b3)) (fr0 b3)
    · rw [c_within0 k2, m_isSoon0 mT0 (by decide) k2]
      exact OC.no h (b := 0) (μ' := mR (mT μ) 2) rfl rfl kpC.rfl (kpM.th.trans kpM.th) (Or.inr ⟨rfl, mR0⟩)
  · rw [c_what0 k1, m_isWhat0 mT0 k1]
    exact OC.no h (b := 0) (μ' := mR (mT μ) 1) rfl rfl kpC.rfl (kpM.th.trans kpM.th) (Or.inl ⟨rfl, mR0⟩)
theorem op_worst (h : RE N M tp L PH PF PB σ μ) (n x : Int) : OC N M tp L PH PF PB thB (pf_P_worst_0 σ n x) (mm_worst μ n x) := by
  have hn1 := h.1.1
  have hn2 := h.1.2.1
  have hn3 := h.1.2.2.1
  have hCN := h.cn
  have hMN := h.mn
  obtain ⟨hN, hE, hR, hI⟩ := h.cn
  obtain ⟨-, hEM, hRM, -, -⟩ := h.mn
  unfold pf_P_worst_0 mm_worst
  simp only [klet]
  by_cases k1 : 0 ≤ x ∧ x ≤ 1
  · rw [c_what1 k1, m_isWhat1 mT0 k1]
    simp only [Option.bind]
    rw [if_neg (show ¬ (1 : Int) = 0 by decide)]
    by_cases k2 : 1 ≤ n ∧ n ≤ 60
    · rw [c_within1 k2, m_isSoon1 mT0 k2]
      simp only
      rw [if_neg (show ¬ (1 : Int) = 0 by decide)]
      obtain ⟨σ1, a1, a2, a3⟩ := c_foresee hCN (n := n) (by omega) (by omega)
      obtain ⟨μ0, d1, d2, d3⟩ := m_tries hMN
      rw [a1, d1]
      simp only
      obtain ⟨μ1, b1, b2, b3⟩ := m_quiet (n := n) (x2 := x) hMN h.rv.2 (by omega) (by omega) d2 d3
      rw [b1]
      simp only
      rw [a2.2.2.1.2.2.2.2.1, a2.2.2.1.2.2.2.2.2.2.2.1, b2.2.2.2.1.2.2.2]
      have hc : x = 0 ∨ x = 1 := by omega
      rcases hc with rfl | rfl
      · exact OC.ok h rfl rfl (kpC.fr64 a3) (kpM.th.trans (kpM.fr b3)) (fr0 b3)
      · exact OC.ok h rfl rfl (kpC.fr64 a3) (kpM.th.trans (kpM.fr b3)) (fr0 b3)
    · rw [c_within0 k2, m_isSoon0 mT0 (by decide) k2]
      exact OC.no h (b := 0) (μ' := mR (mT μ) 2) rfl rfl kpC.rfl (kpM.th.trans kpM.th) (Or.inr ⟨rfl, mR0⟩)
  · rw [c_what0 k1, m_isWhat0 mT0 k1]
    exact OC.no h (b := 0) (μ' := mR (mT μ) 1) rfl rfl kpC.rfl (kpM.th.trans kpM.th) (Or.inl ⟨rfl, mR0⟩)
end TOPS

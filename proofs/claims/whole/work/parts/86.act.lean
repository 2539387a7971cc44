/-! ACTS: what is kept of them; rewrite, pardon, fill, heal, burn, undo -/
def cpz (f0 : Nat → Int) (a n : Nat) (v : Nat → Int) : Nat → Int := kit (fun i f => kup f (a + i) (v i)) n f0
theorem cpz_at (f0 : Nat → Int) (a : Nat) (v : Nat → Int) (k : Nat) : ∀ n : Nat, cpz f0 a n v k = if a ≤ k ∧ k < a + n then v (k - a) else f0 k := by
  intro n
  induction n with
  | zero => rw [if_neg (by omega)]; rfl
  | succ n ih =>
    show kup (cpz f0 a n v) (a + n) (v n) k = _
    by_cases e : k = a + n
    · subst e
      rw [kup_eq, if_pos (by omega), show a + n - a = n by omega]
    · rw [kup_ne e, ih]
      by_cases h : a ≤ k ∧ k < a + n
      · rw [if_pos h, if_pos (by omega)]
      · rw [if_neg h, if_neg (by omega)]
section ACT
variable {N M tp : Int} {L : Nat → Int} {PH PF PB : List Int} {σ σ' μ μ' : kM} {q : Nat → Int}
theorem kup_id (f : Nat → Int) (j : Nat) : kup f j (f j) = f := by
  funext i
  unfold kup
  by_cases h : i = j
  · rw [if_pos h, h]
  · rw [if_neg h]
theorem m_keepsL {a : Nat} (ha : μ 0 38 = (a : Int)) (ha2 : a < 40) : mm_keeps_j52 μ = some (kst (kst μ 9 (cpz (μ 9) (145 * a) 145 (μ 8))) 0 (kup (μ 0) 38 ((a : Int) + 1))) := by
  unfold mm_keeps_j52
  obtain ⟨μ1, h1, h2⟩ := kl_M (body := fun st => mm_keeps_l54 st.1 st.2) (fun i μ1 => μ1 = kst μ 9 (cpz (μ 9) (145 * a) i (μ 8))) (fun i => (i : Int)) 145 (by decide) (fun i μ1 hi hs => by
    subst hs
    refine ⟨_, ?_, rfl⟩
    show mm_keeps_l54 (kst μ 9 (cpz (μ 9) (145 * a) i (μ 8))) (i : Int) = _
    unfold mm_keeps_l54
    rw [kst_ne (show (0 : Nat) ≠ 9 by decide), ha, kst_ne (show (8 : Nat) ≠ 9 by decide), kst_eq, kst_st, if_neg (by omega), kchk_t (by omega), w32_s (v := 145 * (a : Int)) (by omega) (by omega), w32_s (v := 145 * (a : Int) + (i : Int)) (by omega) (by omega), kchk_t (by omega)]
    simp only [klet]
    rw [w32_s (by omega) (by omega), Int.toNat_natCast, show (145 * (a : Int) + (i : Int)).toNat = 145 * a + i by omega]
    rfl) (fun μ1 hs => by
    refine ⟨μ1, ?_, hs⟩
    show mm_keeps_l54 μ1 ((145 : Nat) : Int) = _
    unfold mm_keeps_l54
    rw [if_pos (by decide)]) (σ := μ) (by show μ = kst μ 9 (μ 9); rw [kst_id]) (b0 := 0) rfl
  subst h2
  rw [h1]
  simp only [Option.bind, klet]
  rw [kst_ne (show (0 : Nat) ≠ 9 by decide), ha, w32_s (by omega) (by omega)]
theorem m_keeps {a : Nat} (ha : μ 0 38 = (a : Int)) (ha2 : a ≤ 40) : ∃ (g : Nat → Int) (a' : Nat), mm_keeps μ = some (kst (kst μ 9 g) 0 (kup (μ 0) 38 (a' : Int))) ∧ a' = (if a = 40 then 40 else a + 1) ∧
    ∀ i k : Nat, i < a' → k < 145 → g (145 * i + k) = if i + 1 = a' then μ 8 k else if a = 40 then μ 9 (145 * (i + 1) + k) else μ 9 (145 * i + k) := by
  unfold mm_keeps
  rw [ha]
  by_cases h : a = 40
  · subst h
    rw [if_pos rfl]
    obtain ⟨μ1, h1, h2⟩ := kl_M (body := fun st => mm_keeps_l13 st.1 st.2) (fun i μ1 => μ1 = kst μ 9 (cpz (μ 9) 0 i (fun j => μ 9 (145 + j)))) (fun i => 145 + (i : Int)) 5655 (by decide) (fun i μ1 hi hs => by
      subst hs
      refine ⟨_, ?_, rfl⟩
      show mm_keeps_l13 (kst μ 9 (cpz (μ 9) 0 i (fun j => μ 9 (145 + j)))) (145 + (i : Int)) = _
      unfold mm_keeps_l13
      rw [kst_eq, kst_st, if_neg (by omega), kchk_t (by omega), w32_s (v := 145 + (i : Int) - 145) (by omega) (by omega), kchk_t (by omega)]
      simp only [klet]
      rw [w32_s (by omega) (by omega), show (145 + (i : Int) - 145).toNat = 0 + i by omega, show (145 + (i : Int)).toNat = 145 + i by omega, cpz_at, if_neg (by omega), show 145 + (i : Int) + 1 = 145 + ((i + 1 : Nat) : Int) by omega]
      rfl) (fun μ1 hs => by
      refine ⟨μ1, ?_, hs⟩
      show mm_keeps_l13 μ1 (145 + ((5655 : Nat) : Int)) = _
      unfold mm_keeps_l13
      rw [if_pos (by decide)]) (σ := μ) (by show μ = kst μ 9 (μ 9); rw [kst_id]) (b0 := 145) rfl
    subst h2
    rw [h1]
    simp only [Option.bind, klet]
    rw [kst_ne (show (0 : Nat) ≠ 9 by decide), ha, show w32 (((40 : Nat) : Int) - 1) = ((39 : Nat) : Int) by decide, m_keepsL (a := 39) (by rw [kst_eq, kup_eq]) (by decide)]
    refine ⟨cpz (cpz (μ 9) 0 5655 (fun j => μ 9 (145 + j))) (145 * 39) 145 (μ 8), 40, ?_, rfl, fun i k hi hk => ?_⟩
    · rw [kst_ne (show (9 : Nat) ≠ 0 by decide), kst_eq, kst_ne (show (8 : Nat) ≠ 0 by decide), kst_ne (show (8 : Nat) ≠ 9 by decide), kst_eq, kup_up, kst_comm (a := 0) (b := 9) (by decide), kst_st, kst_st]
      rfl
    · rw [cpz_at, cpz_at]
      by_cases e : i = 39
      · subst e
        rw [if_pos (by omega), if_pos rfl, show 145 * 39 + k - 145 * 39 = k by omega]
      · rw [if_neg (by omega), if_pos (by omega), if_neg (by omega), if_pos trivial, show 145 + (145 * i + k - 0) = 145 * (i + 1) + k by omega]
  · rw [if_neg (by omega), m_keepsL ha (by omega)]
    refine ⟨cpz (μ 9) (145 * a) 145 (μ 8), a + 1, rfl, by rw [if_neg h], fun i k hi hk => ?_⟩
    rw [cpz_at]
    by_cases e : i = a
    · subst e
      rw [if_pos (by omega), if_pos rfl, show 145 * i + k - 145 * i = k by omega]
    · rw [if_neg (by omega), if_neg (by omega), if_neg h]
/-- what of both memories only the chronicle's calls leave -/
def kqC (σ σ' : kM) : Prop := ∀ c : Nat, c ≤ 6 ∨ (8 ≤ c ∧ c ≤ 10) ∨ c = 36 ∨ (38 ≤ c ∧ c ≤ 42) → σ' c = σ c
def kqM (μ μ' : kM) : Prop := (∀ c : Nat, c = 1 ∨ c = 2 ∨ c = 3 ∨ (22 ≤ c ∧ c ≤ 24) → μ' c = μ c) ∧ ∀ j : Nat, (1 ≤ j ∧ j ≤ 6) ∨ j = 9 ∨ j = 11 ∨ j = 48 ∨ (58 ≤ j ∧ j ≤ 60) → μ' 0 j = μ 0 j
theorem RE.chron (h : RE N M tp L PH PF PB σ μ) (hC : kqC σ σ') (hM : kqM μ μ') (hX : CR N M tp L σ' 29 31 32 33 34 35 (μ' 8) (μ' 9) (μ' 0 38) (μ' 0 53) (μ' 19)) : RE N M tp L PH PF PB σ' μ' := by
  obtain ⟨a1, a2, a3, a4, a5, a6, a7, a8, a9, a10⟩ := h
  obtain ⟨m1, m2⟩ := hM
  refine ⟨a1, a2.kept (hC _ (by decide)) (hC _ (by decide)) (hC _ (by decide)) (hC _ (by decide)) (hC _ (by decide)), a3.kept (fun j h1 h2 => m2 j (by omega)) (m1 1 (by decide)), by rw [m2 48 (by decide)]; exact a4, hX, ?_, ?_, ?_, ?_, ?_⟩
  · rw [hC 0 (by decide), hC 1 (by decide), m1 2 (by decide), m2 9 (by decide)]
    exact a6
  · rw [hC 0 (by decide), m2 11 (by decide)]
    exact a7
  · rw [hC 2 (by decide), m1 3 (by decide)]
    exact a8
  · rw [hC 0 (by decide), m2 58 (by decide)]
    exact a9
  · rw [m2 58 (by decide), m2 59 (by decide), m2 60 (by decide), m1 22 (by decide), m1 23 (by decide), m1 24 (by decide)]
    intro h
    exact (a10 h).kept (by decide) (hC _ (by decide)) (hC _ (by decide)) (hC _ (by decide)) (hC _ (by decide)) (hC _ (by decide)) (hC _ (by decide)) (hC _ (by decide)) (hC _ (by decide)) (hC _ (by decide)) (fun _ _ => rfl)
theorem RE.refuse (h : RE N M tp L PH PF PB σ μ) {j : Nat} (hj : j < 3) {v : Int} : RE N M tp L PH PF PB (kst σ 2 (kup (σ 2) j v)) (kst μ 3 (kup (μ 3) j v)) := by
  obtain ⟨a1, a2, a3, a4, a5, a6, a7, a8, a9, a10⟩ := h
  have e : ∀ c : Nat, c ≠ 2 → kst σ 2 (kup (σ 2) j v) c = σ c := fun c hc => kst_ne hc
  have f : ∀ c : Nat, c ≠ 3 → kst μ 3 (kup (μ 3) j v) c = μ c := fun c hc => kst_ne hc
  refine ⟨a1, a2.kept (e _ (by decide)) (e _ (by decide)) (e _ (by decide)) (e _ (by decide)) (e _ (by decide)), a3.kept (fun j h1 h2 => by rw [f 0 (by decide)]) (f 1 (by decide)), by rw [f 0 (by decide)]; exact a4, ?_, ?_, ?_, ?_, ?_, ?_⟩
  · rw [f 8 (by decide), f 9 (by decide), f 0 (by decide), f 19 (by decide)]
    exact a5.kept (by decide) (e _ (by decide)) (e _ (by decide)) (e _ (by decide)) (e _ (by decide)) (e _ (by decide)) (e _ (by decide)) (e _ (by decide)) (e _ (by decide)) (e _ (by decide)) (fun _ _ => rfl)
  · rw [e 0 (by decide), e 1 (by decide), f 0 (by decide), f 2 (by decide)]
    exact a6
  · rw [e 0 (by decide), f 0 (by decide)]
    exact a7
  · intro i hi
    rw [kst_eq, kst_eq, kup_ap, kup_ap]
    by_cases c : i = j
    · rw [if_pos c, if_pos c]
    · rw [if_neg c, if_neg c]
      exact a8 i hi
  · rw [e 0 (by decide), f 0 (by decide)]
    exact a9
  · rw [f 0 (by decide), f 22 (by decide), f 23 (by decide), f 24 (by decide)]
    intro h
    exact (a10 h).kept (by decide) (e _ (by decide)) (e _ (by decide)) (e _ (by decide)) (e _ (by decide)) (e _ (by decide)) (e _ (by decide)) (e _ (by decide)) (e _ (by decide)) (e _ (by decide)) (fun _ _ => rfl)
theorem RCr.slot {σ1 : kM} {f f' : Nat → Int} {W : Nat} (hW : 6 < W) (h : RCr N M tp L (kst σ W f) W q) (h4 : σ1 4 = σ 4) (h5 : σ1 5 = σ 5) (h6 : σ1 6 = σ 6) (hf : ∀ j : Nat, j < 85 → f' j = f j) : RCr N M tp L (kst σ1 W f') W q := by
  intro k hk ho
  rw [← h k hk ho]
  unfold vC
  rw [kst_ne (show (4 : Nat) ≠ W by omega), kst_ne (show (4 : Nat) ≠ W by omega), kst_ne (show (5 : Nat) ≠ W by omega), kst_ne (show (5 : Nat) ≠ W by omega), kst_ne (show (6 : Nat) ≠ W by omega), kst_ne (show (6 : Nat) ≠ W by omega), h4, h5, h6, kst_eq, kst_eq]
  by_cases c1 : k < 17
  · rw [if_pos c1, if_pos c1, hf k (by omega)]
  rw [if_neg c1, if_neg c1]
  by_cases c2 : k < 29
  · rw [if_pos c2, if_pos c2, hf (k + 32) (by omega)]
  rw [if_neg c2, if_neg c2]
  by_cases c3 : k < 61
  · rw [if_pos c3, if_pos c3, hf (k - 12) (by omega)]
  rw [if_neg c3, if_neg c3]
  by_cases c4 : k < 65
  · rw [if_pos c4, if_pos c4]
  rw [if_neg c4, if_neg c4]
  by_cases c5 : k < 89
  · rw [if_pos c5, if_pos c5]
  rw [if_neg c5, if_neg c5]
  by_cases c6 : k < 113
  · rw [if_pos c6, if_pos c6, hf (k - 28) (by omega)]
  rw [if_neg c6, if_neg c6]
theorem krem40 {x : Nat} (hx : x < 100) : krem ((x : Int)) 40 = ((x % 40 : Nat) : Int) := by
  rw [krem_nn (by omega) ⟨by omega, by omega⟩]
  omega
theorem c_rem1 {o a : Nat} (h3 : σ 29 3 = (o : Int)) (h1 : σ 29 1 = (a : Int)) (ho : o < 40) (ha : a ≤ 40) : krem (w32 (σ 29 3 + σ 29 1)) 40 = (((o + a) % 40 : Nat) : Int) := by
  rw [h3, h1, w32_s (by omega) (by omega), show (o : Int) + (a : Int) = ((o + a : Nat) : Int) by omega]
  exact krem40 (by omega)
theorem c_rem2 {x : Int} {pl : Nat} (hx : x = (pl : Int)) (hp : pl < 40) (t : Option kM) : kchk ((0 : Int) ≤ 0 ∧ (0 : Int) ≤ (w32 (x * 85)) ∧ (0 : Int) ≤ 85 ∧ 0 + 85 ≤ (85 : Int) ∧ (w32 (x * 85)) + 85 ≤ (3400 : Int)) t = t := by
  subst hx
  refine kchk_t ⟨Int.le_refl _, ?_, by decide, by decide, ?_⟩
  · rw [w32_s (by omega) (by omega)]
    omega
  · rw [w32_s (by omega) (by omega)]
    omega
theorem c_rem3 {x : Int} {pl : Nat} (hx : x = (pl : Int)) (hp : pl < 40) : (w32 (x * 85)).toNat = pl * 85 := by
  subst hx
  rw [w32_s (by omega) (by omega)]
  omega
theorem c_remember {o a pl : Nat} (h3 : σ 29 3 = (o : Int)) (h1 : σ 29 1 = (a : Int)) (ho : o < 40) (ha : a ≤ 40) (hpl : (o + a) % 40 = pl) : pf_Chronicle_remember_29 σ = some (kst (kst σ 32 (va_cpy (σ 31) (σ 32) 0 (pl * 85) 85)) 29 (if a = 40 then kup (σ 29) 3 (((o + 1) % 40 : Nat) : Int) else kup (σ 29) 1 ((a : Int) + 1))) := by
  have hp40 : pl < 40 := by omega
  have hplace : krem (w32 (σ 29 3 + σ 29 1)) 40 = (pl : Int) := by
    rw [c_rem1 h3 h1 ho ha, hpl]
  have e1 : krem (w32 (σ 29 3 + 1)) 40 = (((o + 1) % 40 : Nat) : Int) := by
    rw [h3, w32_s (by omega) (by omega), show (o : Int) + 1 = ((o + 1 : Nat) : Int) by omega]
    exact krem40 (by omega)
  have e2 : w32 (σ 29 1 + 1) = (a : Int) + 1 := by
    rw [h1, w32_s (by omega) (by omega)]
  unfold pf_Chronicle_remember_29 klet
  generalize krem (w32 (σ 29 3 + σ 29 1)) 40 = x at hplace
  show kchk ((0 : Int) ≤ 0 ∧ (0 : Int) ≤ (w32 (x * 85)) ∧ (0 : Int) ≤ 85 ∧ 0 + 85 ≤ (85 : Int) ∧ (w32 (x * 85)) + 85 ≤ (3400 : Int)) (if 40 ≤ kst σ 32 (va_cpy (σ 31) (σ 32) 0 (w32 (x * 85)).toNat 85) 29 1 then some (kst (kst σ 32 (va_cpy (σ 31) (σ 32) 0 (w32 (x * 85)).toNat 85)) 29 (kup (kst σ 32 (va_cpy (σ 31) (σ 32) 0 (w32 (x * 85)).toNat 85) 29) 3 (krem (w32 (kst σ 32 (va_cpy (σ 31) (σ 32) 0 (w32 (x * 85)).toNat 85) 29 3 + 1)) 40))) else some (kst (kst σ 32 (va_cpy (σ 31) (σ 32) 0 (w32 (x * 85)).toNat 85)) 29 (kup (kst σ 32 (va_cpy (σ 31) (σ 32) 0 (w32 (x * 85)).toNat 85) 29) 1 (w32 (kst σ 32 (va_cpy (σ 31) (σ 32) 0 (w32 (x * 85)).toNat 85) 29 1 + 1))))) = _
  rw [c_rem2 hplace hp40, c_rem3 hplace hp40, kst_ne (show (29 : Nat) ≠ 32 by decide), e1, e2, h1]
  by_cases h40 : a = 40
  · rw [if_pos (by omega), if_pos h40]
  · rw [if_neg (by omega), if_neg h40]
/-- the ring and the row of rows, behind an act that is kept -/
theorem CR.push {o a pl a' : Nat} {σ1 : kM} {kept g : Nat → Int} {row : Nat → Int} (ho : o < 40) (ha : a ≤ 40) (hpl : (o + a) % 40 = pl) (ha' : a' = if a = 40 then 40 else a + 1)
    (b1 : RCr N M tp L σ 31 row) (b2 : RV M tp L row) (b7 : ∀ i : Nat, (i : Int) < (a : Int) → RCr N M tp L (kst σ 31 (fun j => σ 32 (85 * ((o + i) % 40) + j))) 31 (fun k => kept (145 * i + k)) ∧ RV M tp L (fun k => kept (145 * i + k)))
    (hg : ∀ i k : Nat, i < a' → k < 145 → g (145 * i + k) = if i + 1 = a' then row k else if a = 40 then kept (145 * (i + 1) + k) else kept (145 * i + k))
    (e4 : σ1 4 = σ 4) (e5 : σ1 5 = σ 5) (e6 : σ1 6 = σ 6) (e32 : σ1 32 = va_cpy (σ 31) (σ 32) 0 (pl * 85) 85) :
    ∀ i : Nat, i < a' → RCr N M tp L (kst σ1 31 (fun j => σ1 32 (85 * (((if a = 40 then (o + 1) % 40 else o) + i) % 40) + j))) 31 (fun k => g (145 * i + k)) ∧ RV M tp L (fun k => g (145 * i + k)) := by
  intro i hi
  have hin : ∀ j : Nat, j < 85 → σ1 32 (85 * pl + j) = σ 31 j := by
    intro j hj
    rw [e32]
    unfold va_cpy
    rw [if_pos (by omega), show 0 + (85 * pl + j - pl * 85) = j by omega]
  have hout : ∀ c j : Nat, c ≠ pl → j < 85 → σ1 32 (85 * c + j) = σ 32 (85 * c + j) := by
    intro c j hc hj
    rw [e32]
    unfold va_cpy
    rw [if_neg (by omega)]
  by_cases el : i + 1 = a'
  · have eg : ∀ k : Nat, k < 145 → g (145 * i + k) = row k := fun k hk => by rw [hg i k hi hk, if_pos el]
    have hc : ((if a = 40 then (o + 1) % 40 else o) + i) % 40 = pl := by
      by_cases h40 : a = 40
      · rw [if_pos h40] at ha' ⊢
        omega
      · rw [if_neg h40] at ha' ⊢
        have : i = a := by omega
        rw [this, hpl]
    rw [hc]
    refine ⟨RCr.slot (σ := σ) (f := σ 31) (by decide) (by rw [kst_id]; exact b1.congr eg) e4 e5 e6 hin, b2.congr eg⟩
  · by_cases h40 : a = 40
    · have eg : ∀ k : Nat, k < 145 → g (145 * i + k) = kept (145 * (i + 1) + k) := fun k hk => by rw [hg i k hi hk, if_neg el, if_pos h40]
      rw [if_pos h40] at ha'
      have hb := b7 (i + 1) (by omega)
      rw [if_pos h40, show ((o + 1) % 40 + i) % 40 = (o + (i + 1)) % 40 by omega]
      exact ⟨RCr.slot (by decide) (hb.1.congr eg) e4 e5 e6 (fun j hj => hout _ j (by omega) hj), hb.2.congr eg⟩
    · have eg : ∀ k : Nat, k < 145 → g (145 * i + k) = kept (145 * i + k) := fun k hk => by rw [hg i k hi hk, if_neg el, if_neg h40]
      rw [if_neg h40] at ha'
      have hb := b7 i (by omega)
      rw [if_neg h40]
      exact ⟨RCr.slot (by decide) (hb.1.congr eg) e4 e5 e6 (fun j hj => hout _ j (by omega) hj), hb.2.congr eg⟩
/-- an act is kept -/
theorem act_keep (h : RE N M tp L PH PF PB σ μ) (h0 : μ 0 0 = 0) : ∃ σ1 μ1, pf_Chronicle_remember_29 σ = some σ1 ∧ mm_keeps μ = some μ1 ∧ RE N M tp L PH PF PB σ1 μ1 ∧ μ1 0 0 = 0 ∧ μ1 8 = μ 8 ∧ σ1 31 = σ 31 := by
  obtain ⟨b1, b2, b3, b4, ⟨o, b5, b6, b7⟩, b8, b9, b10⟩ := h.2.2.2.2.1
  obtain ⟨a, ha⟩ : ∃ a : Nat, μ 0 38 = (a : Int) := ⟨(μ 0 38).toNat, by omega⟩
  have ha2 : a ≤ 40 := by omega
  obtain ⟨g, a', hg, ha', hgg⟩ := m_keeps ha ha2
  rw [ha] at b3 b4 b7
  obtain ⟨pl, hpl⟩ : ∃ pl, (o + a) % 40 = pl := ⟨_, rfl⟩
  have hc := c_remember b6 b3 b5 ha2 hpl
  have e : ∀ c : Nat, c ≠ 29 → c ≠ 32 → kst (kst σ 32 (va_cpy (σ 31) (σ 32) 0 (pl * 85) 85)) 29 (if a = 40 then kup (σ 29) 3 (((o + 1) % 40 : Nat) : Int) else kup (σ 29) 1 ((a : Int) + 1)) c = σ c := fun c h1 h2 => by rw [kst_ne h1, kst_ne h2]
  have e29 : kst (kst σ 32 (va_cpy (σ 31) (σ 32) 0 (pl * 85) 85)) 29 (if a = 40 then kup (σ 29) 3 (((o + 1) % 40 : Nat) : Int) else kup (σ 29) 1 ((a : Int) + 1)) 29 = if a = 40 then kup (σ 29) 3 (((o + 1) % 40 : Nat) : Int) else kup (σ 29) 1 ((a : Int) + 1) := kst_eq _ _ _
  have e32 : kst (kst σ 32 (va_cpy (σ 31) (σ 32) 0 (pl * 85) 85)) 29 (if a = 40 then kup (σ 29) 3 (((o + 1) % 40 : Nat) : Int) else kup (σ 29) 1 ((a : Int) + 1)) 32 = va_cpy (σ 31) (σ 32) 0 (pl * 85) 85 := by rw [kst_ne (by decide), kst_eq]
  generalize kst (kst σ 32 (va_cpy (σ 31) (σ 32) 0 (pl * 85) 85)) 29 (if a = 40 then kup (σ 29) 3 (((o + 1) % 40 : Nat) : Int) else kup (σ 29) 1 ((a : Int) + 1)) = σ1 at hc e e29 e32
  have f : ∀ c : Nat, c ≠ 0 → c ≠ 9 → kst (kst μ 9 g) 0 (kup (μ 0) 38 (a' : Int)) c = μ c := fun c h1 h2 => by rw [kst_ne h1, kst_ne h2]
  have f0 : ∀ j : Nat, j ≠ 38 → kst (kst μ 9 g) 0 (kup (μ 0) 38 (a' : Int)) 0 j = μ 0 j := fun j hj => by rw [kst_eq, kup_ne hj]
  have f38 : kst (kst μ 9 g) 0 (kup (μ 0) 38 (a' : Int)) 0 38 = (a' : Int) := by rw [kst_eq, kup_eq]
  have f9 : kst (kst μ 9 g) 0 (kup (μ 0) 38 (a' : Int)) 9 = g := by rw [kst_ne (by decide), kst_eq]
  generalize kst (kst μ 9 g) 0 (kup (μ 0) 38 (a' : Int)) = μ1 at hg f f0 f38 f9
  refine ⟨σ1, μ1, hc, hg, ?_, by rw [f0 0 (by decide)]; exact h0, f 8 (by decide) (by decide), e 31 (by decide) (by decide)⟩
  refine h.chron (fun c hc => e c (by omega) (by omega)) ⟨fun c hc => f c (by omega) (by omega), fun j hj => f0 j (by omega)⟩ ?_
  rw [f 8 (by decide) (by decide), f9, f38, f0 53 (by decide), f 19 (by decide) (by decide)]
  have hring := CR.push (σ1 := σ1) b5 ha2 hpl ha' b1 b2 b7 hgg (e 4 (by decide) (by decide)) (e 5 (by decide) (by decide)) (e 6 (by decide) (by decide)) e32
  refine ⟨b1.kept (e _ (by decide) (by decide)) (e _ (by decide) (by decide)) (e _ (by decide) (by decide)) (e _ (by decide) (by decide)), b2, ?_, ?_, ⟨if a = 40 then (o + 1) % 40 else o, ?_, ?_, fun i hi => hring i (by omega)⟩, ?_, b9, ?_⟩
  · rw [e29, ha']
    by_cases h40 : a = 40
    · rw [if_pos h40, if_pos h40, kup_ne (by decide), b3, h40]
    · rw [if_neg h40, if_neg h40, kup_eq]
      rfl
  · rw [ha']
    split <;> omega
  · split <;> omega
  · rw [e29]
    by_cases h40 : a = 40
    · rw [if_pos h40, if_pos h40, kup_eq]
    · rw [if_neg h40, if_neg h40, kup_ne (by decide), b6]
  · rw [e29]
    by_cases h40 : a = 40
    · rw [if_pos h40, kup_ne (by decide), b8]
    · rw [if_neg h40, kup_ne (by decide), b8]
  · rw [e 33 (by decide) (by decide), e 34 (by decide) (by decide), e 35 (by decide) (by decide)]
    exact b10
end ACT

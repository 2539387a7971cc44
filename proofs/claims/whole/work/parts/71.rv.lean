/-! RULES: a program is the row of the class's steps; what it gives -/
def rv_op (c a b : Int) : Int :=
  if c = (-16) then w32 (a * b) else
  if c = (-15) then w32 (a - b) else
  if c = (-14) then w32 (a + b) else
  if c = (-13) then (if a = b then 1 else 0) else
  if c = (-12) then (if b ≤ a then 0 else 1) else
  if c = (-11) then (if a = 0 then 0 else if b = 0 then 0 else 1) else
  if c = (-10) then (if a = 0 then (if b = 0 then 0 else 1) else 1) else
  if b = 0 then 0 else kdiv a b
theorem rv_c (σ : kM) (c a b : Int) : pf_Rules_combined σ c a b = some (rv_op c a b) := by
  unfold pf_Rules_combined rv_op
  by_cases h1 : c = (-16)
  · rw [if_pos h1, if_pos h1]
  rw [if_neg h1, if_neg h1]
  by_cases h2 : c = (-15)
  · rw [if_pos h2, if_pos h2]
  rw [if_neg h2, if_neg h2]
  by_cases h3 : c = (-14)
  · rw [if_pos h3, if_pos h3]
  rw [if_neg h3, if_neg h3]
  by_cases h4 : c = (-13)
  · rw [if_pos h4, if_pos h4]
    by_cases h : a = b <;> simp [h]
  rw [if_neg h4, if_neg h4]
  by_cases h5 : c = (-12)
  · rw [if_pos h5, if_pos h5]
    by_cases h : b ≤ a <;> simp [h]
  rw [if_neg h5, if_neg h5]
  by_cases h6 : c = (-11)
  · rw [if_pos h6, if_pos h6]
    by_cases h : a = 0 <;> by_cases h' : b = 0 <;> simp [h, h']
  rw [if_neg h6, if_neg h6]
  by_cases h7 : c = (-10)
  · rw [if_pos h7, if_pos h7]
    by_cases h : a = 0 <;> by_cases h' : b = 0 <;> simp [h, h']
  rw [if_neg h7, if_neg h7]
  by_cases h : b = 0
  · simp [h]
  · simp [h, kchk]
def rv_o (c : Int) : Int := if c = (-9) then 3 else if c = (-10) then 5 else if c = (-11) then 4 else -c - 6
def rv_v (c : Int) : Int := if c ≤ (-7) then -1 - c else if c ≤ (-5) then -5 - c else 1 - c
theorem rv_m (σ : kM) {c : Int} (h1 : -17 ≤ c) (h2 : c < -9) (a b : Int) : mm_works σ (rv_o c) a b = some (rv_op c a b) := by
  have h : c = -17 ∨ c = -16 ∨ c = -15 ∨ c = -14 ∨ c = -13 ∨ c = -12 ∨ c = -11 ∨ c = -10 := by omega
  rcases h with rfl | rfl | rfl | rfl | rfl | rfl | rfl | rfl
  · show (if b = 0 then some 0 else kchk (¬ b = 0) (some (kdiv a b))) = some (if b = 0 then 0 else kdiv a b)
    by_cases h : b = 0
    · simp [h]
    · simp [h, kchk]
  · rfl
  · rfl
  · rfl
  · show (if a = b then some 1 else some 0) = some (if a = b then 1 else 0)
    by_cases h : a = b <;> simp [h]
  · show (if b ≤ a then some 0 else some 1) = some (if b ≤ a then 0 else 1)
    by_cases h : b ≤ a <;> simp [h]
  · show (if a = 0 then some 0 else if b = 0 then some 0 else some 1) = some (if a = 0 then 0 else if b = 0 then 0 else 1)
    by_cases h : a = 0 <;> by_cases h' : b = 0 <;> simp [h, h']
  · show (if a = 0 then if b = 0 then some 0 else some 1 else some 1) = some (if a = 0 then (if b = 0 then 0 else 1) else 1)
    by_cases h : a = 0 <;> by_cases h' : b = 0 <;> simp [h, h']
def rv_st (e : Nat → Int) (s : (Nat → Int) × Nat) (c : Int) : (Nat → Int) × Nat :=
  if -9 < c then (kup s.1 s.2 (if 0 ≤ c then c else e (-1 - c).toNat), s.2 + 1)
  else if c = (-9) then (kup s.1 (s.2 - 1) (if s.1 (s.2 - 1) = 0 then 1 else 0), s.2)
  else (kup s.1 (s.2 - 2) (rv_op c (s.1 (s.2 - 2)) (s.1 (s.2 - 1))), s.2 - 1)
def rv_run (e : Nat → Int) (P : List Int) (s : (Nat → Int) × Nat) : (Nat → Int) × Nat := P.foldl (rv_st e) s
def rv_ev (P : List Int) (e : Nat → Int) : Int := (rv_run e P (fun _ => 0, 0)).1 0
def rv_ok : List Int → Nat → Prop
  | [], d => d = 1
  | c :: P, d => d ≤ 40 ∧ (-9 < c → rv_ok P (d + 1)) ∧ (c = (-9) → 1 ≤ d ∧ rv_ok P d) ∧ (c < -9 → -17 ≤ c ∧ 2 ≤ d ∧ rv_ok P (d - 1))
theorem rv_okd (P : List Int) (d : Nat) (h : rv_ok P d) : d ≤ 40 := by
  cases P with
  | nil =>
    have h : d = 1 := h
    omega
  | cons c P => exact h.1
def rv_at (f : Nat → Int) : Nat → List Int → Prop
  | _, [] => True
  | k, c :: P => f k = c ∧ rv_at f (k + 1) P
def rv_mt (f : Nat → Int) : Nat → List Int → Prop
  | k, [] => f k = 0
  | k, c :: P => (0 ≤ c → f k = 1 ∧ f (k + 1) = c ∧ rv_mt f (k + 2) P) ∧ (-9 < c → c < 0 → f k = 2 ∧ f (k + 1) = rv_v c ∧ rv_mt f (k + 2) P) ∧ (c ≤ -9 → f k = rv_o c ∧ rv_mt f (k + 1) P)
theorem rv_v_rng {c : Int} (h1 : -9 < c) (h2 : c < 0) : 0 ≤ rv_v c ∧ rv_v c < 8 := by
  unfold rv_v
  split
  · omega
  · split <;> omega
theorem rv_o_rng {c : Int} (h1 : c ≤ -9) (h2 : -17 ≤ c) : 3 ≤ rv_o c ∧ rv_o c ≤ 11 ∧ (rv_o c = 3 ↔ c = -9) := by
  unfold rv_o
  split
  · omega
  · split
    · omega
    · split <;> omega

theorem rv_cl49 {r : Int} (hr : 0 ≤ r ∧ r < 3) (e : Nat → Int) (P : List Int) : ∀ (σ : kM) (k d : Nat) (F : Nat → Int) (fuel : Nat), P.length < fuel → σ 10 r.toNat = ((k + P.length : Nat) : Int) → k + P.length ≤ 700 → rv_at (σ 8) k P → rv_ok P d → (∀ c ∈ P, -9 < c → c < 0 → σ 49 (-1 - c).toNat = e (-1 - c).toNat) → (∀ i, i < d → σ 11 i = F i) →
    ∃ g, kloop (fun st => pf_Rules_worth_7_49_l10 st.1 r st.2.1 st.2.2) fuel (σ, (d : Int), (k : Int)) = some (kst σ 11 g, 1) ∧ g 0 = (rv_run e P (F, d)).1 0 := by
  induction P with
  | nil =>
    intro σ k d F fuel hf hto hk hat hok hv hs
    obtain ⟨n, rfl⟩ : ∃ n, fuel = n + 1 := ⟨fuel - 1, by omega⟩
    have hd : d = 1 := hok
    subst hd
    refine ⟨σ 11, ?_, hs 0 (by omega)⟩
    have e1 : pf_Rules_worth_7_49_l10 σ r ((1 : Nat) : Int) (k : Int) = some (.inr (σ, 1)) := by
      unfold pf_Rules_worth_7_49_l10
      rw [kchk_t hr, if_pos (by rw [hto]; simp)]
      rfl
    rw [kloop_r e1, kst_id]
  | cons c P ih =>
    intro σ k d F fuel hf hto hk hat hok hv hs
    have hl : (c :: P).length = P.length + 1 := rfl
    obtain ⟨n, rfl⟩ : ∃ n, fuel = n + 1 := ⟨fuel - 1, by omega⟩
    obtain ⟨hc, hat⟩ := hat
    obtain ⟨hd40, ho1, ho2, ho3⟩ := hok
    have hnot : ¬ σ 10 r.toNat ≤ (k : Int) := by rw [hto]; omega
    have hkk : 0 ≤ (k : Int) ∧ (k : Int) < 700 := by omega
    have hvP : ∀ c ∈ P, -9 < c → c < 0 → σ 49 (-1 - c).toNat = e (-1 - c).toNat := fun c h => hv c (List.mem_cons_of_mem _ h)
    have goal : ∀ (d' : Nat) (G : Nat → Int), d' < 100 → pf_Rules_worth_7_49_l10 σ r (d : Int) (k : Int) = some (.inl (kst σ 11 G, (d' : Int), ((k + 1 : Nat) : Int))) → rv_ok P d' → (∀ i, i < d' → G i = (rv_st e (F, d) c).1 i) → (rv_st e (F, d) c).2 = d' →
        ∃ g, kloop (fun st => pf_Rules_worth_7_49_l10 st.1 r st.2.1 st.2.2) (n + 1) (σ, (d : Int), (k : Int)) = some (kst σ 11 g, 1) ∧ g 0 = (rv_run e (c :: P) (F, d)).1 0 := by
      intro d' G hd' hb hok' hG hd2
      obtain ⟨g, h1, h2⟩ := ih (kst σ 11 G) (k + 1) d' (rv_st e (F, d) c).1 n (by omega) (by rw [kst_ne (by decide), hto]; omega) (by omega) (by rw [kst_ne (by decide)]; exact hat) hok' (by rw [kst_ne (by decide)]; exact hvP) (by rw [kst_eq]; exact hG)
      refine ⟨g, ?_, ?_⟩
      · rw [kloop_l hb, h1, kst_st]
      · rw [h2]
        show (rv_run e P _).1 0 = (rv_run e P (rv_st e (F, d) c)).1 0
        rw [← hd2]
    by_cases h1 : -9 < c
    · have hokP := ho1 h1
      refine goal (d + 1) (kup (σ 11) d (if 0 ≤ c then c else e (-1 - c).toNat)) (by omega) ?_ hokP ?_ (by unfold rv_st; rw [if_pos h1])
      · unfold pf_Rules_worth_7_49_l10
        rw [kchk_t hr, if_neg hnot, kchk_t hkk]
        simp only [klet, Int.toNat_natCast, hc]
        rw [if_neg (by omega), if_neg (by omega)]
        by_cases h2 : c < 0
        · rw [if_pos h2, w32_s (by omega) (by omega), kchk_t (by omega), hv c List.mem_cons_self h1 h2]
          unfold pf_Rules_worth_7_49_l10_j64 pf_Rules_worth_7_49_l10_j144
          rw [kchk_t (by omega)]
          simp only [klet, Int.toNat_natCast]
          rw [w32_s (by omega) (by omega), w32_s (by omega) (by omega), if_neg (show ¬ 0 ≤ c by omega)]
          rfl
        · rw [if_neg h2]
          unfold pf_Rules_worth_7_49_l10_j64 pf_Rules_worth_7_49_l10_j144
          rw [kchk_t (by omega)]
          simp only [klet, Int.toNat_natCast]
          rw [w32_s (by omega) (by omega), w32_s (by omega) (by omega), if_pos (show 0 ≤ c by omega)]
          rfl
      · intro i hi
        unfold rv_st
        rw [if_pos h1]
        dsimp only
        by_cases hid : i = d
        · subst hid
          rw [kup_eq, kup_eq]
        · rw [kup_ne hid, kup_ne hid]
          exact hs i (by omega)
    · by_cases h2 : c = (-9)
      · obtain ⟨hd1, hokP⟩ := ho2 h2
        have hd2 : d < 100 := by omega
        refine goal d (kup (σ 11) (d - 1) (if F (d - 1) = 0 then 1 else 0)) hd2 ?_ hokP ?_ (by unfold rv_st; rw [if_neg h1, if_pos h2])
        · unfold pf_Rules_worth_7_49_l10
          rw [kchk_t hr, if_neg hnot, kchk_t hkk]
          simp only [klet, Int.toNat_natCast, hc]
          rw [if_pos (by omega), if_pos (by omega), if_neg (by omega), w32_s (by omega) (by omega), kchk_t (by omega), show ((d : Int) - 1).toNat = d - 1 by omega, hs (d - 1) (by omega)]
          by_cases hz : F (d - 1) = 0
          · rw [if_pos hz, if_pos hz]
            unfold pf_Rules_worth_7_49_l10_j105 pf_Rules_worth_7_49_l10_j144
            rw [kchk_t (by omega)]
            simp only [klet]
            rw [show ((d : Int) - 1).toNat = d - 1 by omega, w32_s (by omega) (by omega)]
            rfl
          · rw [if_neg hz, if_neg hz]
            unfold pf_Rules_worth_7_49_l10_j105 pf_Rules_worth_7_49_l10_j144
            rw [kchk_t (by omega)]
            simp only [klet]
            rw [show ((d : Int) - 1).toNat = d - 1 by omega, w32_s (by omega) (by omega)]
            rfl
        · intro i hi
          unfold rv_st
          rw [if_neg h1, if_pos h2]
          dsimp only
          by_cases hid : i = d - 1
          · subst hid
            rw [kup_eq, kup_eq]
          · rw [kup_ne hid, kup_ne hid]
            exact hs i (by omega)
      · obtain ⟨hc17, hd2, hokP⟩ := ho3 (by omega)
        refine goal (d - 1) (kup (σ 11) (d - 2) (rv_op c (F (d - 2)) (F (d - 1)))) (by omega) ?_ hokP ?_ (by unfold rv_st; rw [if_neg h1, if_neg h2])
        · unfold pf_Rules_worth_7_49_l10
          rw [kchk_t hr, if_neg hnot, kchk_t hkk]
          simp only [klet, Int.toNat_natCast, hc]
          rw [if_pos (by omega), if_neg h2, if_neg (by omega), show w32 ((d : Int) + (-1)) = ((d - 1 : Nat) : Int) by rw [w32_s (by omega) (by omega)]; omega]
          rw [show w32 (((d - 1 : Nat) : Int) - 1) = ((d - 2 : Nat) : Int) by rw [w32_s (by omega) (by omega)]; omega]
          rw [kchk_t (by omega), kchk_t (by omega), rv_c]
          simp only [Option.bind, Int.toNat_natCast]
          rw [kchk_t (by omega), hs (d - 2) (by omega), hs (d - 1) (by omega)]
          unfold pf_Rules_worth_7_49_l10_j144
          simp only [klet]
          rw [w32_s (by omega) (by omega)]
          rfl
        · intro i hi
          unfold rv_st
          rw [if_neg h1, if_neg h2]
          dsimp only
          by_cases hid : i = d - 2
          · subst hid
            rw [kup_eq, kup_eq]
          · rw [kup_ne hid, kup_ne hid]
            exact hs i (by omega)

theorem rv_cl70 {r : Int} (hr : 0 ≤ r ∧ r < 3) (e : Nat → Int) (P : List Int) : ∀ (σ : kM) (k d : Nat) (F : Nat → Int) (fuel : Nat), P.length < fuel → σ 10 r.toNat = ((k + P.length : Nat) : Int) → k + P.length ≤ 700 → rv_at (σ 8) k P → rv_ok P d → (∀ c ∈ P, -9 < c → c < 0 → σ 70 (-1 - c).toNat = e (-1 - c).toNat) → (∀ i, i < d → σ 11 i = F i) →
    ∃ g, kloop (fun st => pf_Rules_worth_7_70_l10 st.1 r st.2.1 st.2.2) fuel (σ, (d : Int), (k : Int)) = some (kst σ 11 g, 1) ∧ g 0 = (rv_run e P (F, d)).1 0 := by
  induction P with
  | nil =>
    intro σ k d F fuel hf hto hk hat hok hv hs
    obtain ⟨n, rfl⟩ : ∃ n, fuel = n + 1 := ⟨fuel - 1, by omega⟩
    have hd : d = 1 := hok
    subst hd
    refine ⟨σ 11, ?_, hs 0 (by omega)⟩
    have e1 : pf_Rules_worth_7_70_l10 σ r ((1 : Nat) : Int) (k : Int) = some (.inr (σ, 1)) := by
      unfold pf_Rules_worth_7_70_l10
      rw [kchk_t hr, if_pos (by rw [hto]; simp)]
      rfl
    rw [kloop_r e1, kst_id]
  | cons c P ih =>
    intro σ k d F fuel hf hto hk hat hok hv hs
    have hl : (c :: P).length = P.length + 1 := rfl
    obtain ⟨n, rfl⟩ : ∃ n, fuel = n + 1 := ⟨fuel - 1, by omega⟩
    obtain ⟨hc, hat⟩ := hat
    obtain ⟨hd40, ho1, ho2, ho3⟩ := hok
    have hnot : ¬ σ 10 r.toNat ≤ (k : Int) := by rw [hto]; omega
    have hkk : 0 ≤ (k : Int) ∧ (k : Int) < 700 := by omega
    have hvP : ∀ c ∈ P, -9 < c → c < 0 → σ 70 (-1 - c).toNat = e (-1 - c).toNat := fun c h => hv c (List.mem_cons_of_mem _ h)
    have goal : ∀ (d' : Nat) (G : Nat → Int), d' < 100 → pf_Rules_worth_7_70_l10 σ r (d : Int) (k : Int) = some (.inl (kst σ 11 G, (d' : Int), ((k + 1 : Nat) : Int))) → rv_ok P d' → (∀ i, i < d' → G i = (rv_st e (F, d) c).1 i) → (rv_st e (F, d) c).2 = d' →
        ∃ g, kloop (fun st => pf_Rules_worth_7_70_l10 st.1 r st.2.1 st.2.2) (n + 1) (σ, (d : Int), (k : Int)) = some (kst σ 11 g, 1) ∧ g 0 = (rv_run e (c :: P) (F, d)).1 0 := by
      intro d' G hd' hb hok' hG hd2
      obtain ⟨g, h1, h2⟩ := ih (kst σ 11 G) (k + 1) d' (rv_st e (F, d) c).1 n (by omega) (by rw [kst_ne (by decide), hto]; omega) (by omega) (by rw [kst_ne (by decide)]; exact hat) hok' (by rw [kst_ne (by decide)]; exact hvP) (by rw [kst_eq]; exact hG)
      refine ⟨g, ?_, ?_⟩
      · rw [kloop_l hb, h1, kst_st]
      · rw [h2]
        show (rv_run e P _).1 0 = (rv_run e P (rv_st e (F, d) c)).1 0
        rw [← hd2]
    by_cases h1 : -9 < c
    · have hokP := ho1 h1
      refine goal (d + 1) (kup (σ 11) d (if 0 ≤ c then c else e (-1 - c).toNat)) (by omega) ?_ hokP ?_ (by unfold rv_st; rw [if_pos h1])
      · unfold pf_Rules_worth_7_70_l10
        rw [kchk_t hr, if_neg hnot, kchk_t hkk]
        simp only [klet, Int.toNat_natCast, hc]
        rw [if_neg (by omega), if_neg (by omega)]
        by_cases h2 : c < 0
        · rw [if_pos h2, w32_s (by omega) (by omega), kchk_t (by omega), hv c List.mem_cons_self h1 h2]
          unfold pf_Rules_worth_7_70_l10_j64 pf_Rules_worth_7_70_l10_j144
          rw [kchk_t (by omega)]
          simp only [klet, Int.toNat_natCast]
          rw [w32_s (by omega) (by omega), w32_s (by omega) (by omega), if_neg (show ¬ 0 ≤ c by omega)]
          rfl
        · rw [if_neg h2]
          unfold pf_Rules_worth_7_70_l10_j64 pf_Rules_worth_7_70_l10_j144
          rw [kchk_t (by omega)]
          simp only [klet, Int.toNat_natCast]
          rw [w32_s (by omega) (by omega), w32_s (by omega) (by omega), if_pos (show 0 ≤ c by omega)]
          rfl
      · intro i hi
        unfold rv_st
        rw [if_pos h1]
        dsimp only
        by_cases hid : i = d
        · subst hid
          rw [kup_eq, kup_eq]
        · rw [kup_ne hid, kup_ne hid]
          exact hs i (by omega)
    · by_cases h2 : c = (-9)
      · obtain ⟨hd1, hokP⟩ := ho2 h2
        have hd2 : d < 100 := by omega
        refine goal d (kup (σ 11) (d - 1) (if F (d - 1) = 0 then 1 else 0)) hd2 ?_ hokP ?_ (by unfold rv_st; rw [if_neg h1, if_pos h2])
        · unfold pf_Rules_worth_7_70_l10
          rw [kchk_t hr, if_neg hnot, kchk_t hkk]
          simp only [klet, Int.toNat_natCast, hc]
          rw [if_pos (by omega), if_pos (by omega), if_neg (by omega), w32_s (by omega) (by omega), kchk_t (by omega), show ((d : Int) - 1).toNat = d - 1 by omega, hs (d - 1) (by omega)]
          by_cases hz : F (d - 1) = 0
          · rw [if_pos hz, if_pos hz]
            unfold pf_Rules_worth_7_70_l10_j105 pf_Rules_worth_7_70_l10_j144
            rw [kchk_t (by omega)]
            simp only [klet]
            rw [show ((d : Int) - 1).toNat = d - 1 by omega, w32_s (by omega) (by omega)]
            rfl
          · rw [if_neg hz, if_neg hz]
            unfold pf_Rules_worth_7_70_l10_j105 pf_Rules_worth_7_70_l10_j144
            rw [kchk_t (by omega)]
            simp only [klet]
            rw [show ((d : Int) - 1).toNat = d - 1 by omega, w32_s (by omega) (by omega)]
            rfl
        · intro i hi
          unfold rv_st
          rw [if_neg h1, if_pos h2]
          dsimp only
          by_cases hid : i = d - 1
          · subst hid
            rw [kup_eq, kup_eq]
          · rw [kup_ne hid, kup_ne hid]
            exact hs i (by omega)
      · obtain ⟨hc17, hd2, hokP⟩ := ho3 (by omega)
        refine goal (d - 1) (kup (σ 11) (d - 2) (rv_op c (F (d - 2)) (F (d - 1)))) (by omega) ?_ hokP ?_ (by unfold rv_st; rw [if_neg h1, if_neg h2])
        · unfold pf_Rules_worth_7_70_l10
          rw [kchk_t hr, if_neg hnot, kchk_t hkk]
          simp only [klet, Int.toNat_natCast, hc]
          rw [if_pos (by omega), if_neg h2, if_neg (by omega), show w32 ((d : Int) + (-1)) = ((d - 1 : Nat) : Int) by rw [w32_s (by omega) (by omega)]; omega]
          rw [show w32 (((d - 1 : Nat) : Int) - 1) = ((d - 2 : Nat) : Int) by rw [w32_s (by omega) (by omega)]; omega]
          rw [kchk_t (by omega), kchk_t (by omega), rv_c]
          simp only [Option.bind, Int.toNat_natCast]
          rw [kchk_t (by omega), hs (d - 2) (by omega), hs (d - 1) (by omega)]
          unfold pf_Rules_worth_7_70_l10_j144
          simp only [klet]
          rw [w32_s (by omega) (by omega)]
          rfl
        · intro i hi
          unfold rv_st
          rw [if_neg h1, if_neg h2]
          dsimp only
          by_cases hid : i = d - 2
          · subst hid
            rw [kup_eq, kup_eq]
          · rw [kup_ne hid, kup_ne hid]
            exact hs i (by omega)

theorem rv_ml (e : Nat → Int) (P : List Int) : ∀ (σ : kM) (k d : Nat) (F : Nat → Int) (fuel : Nat), P.length < fuel → k + 2 * P.length + 1 ≤ 1400 → rv_mt (σ 1) k P → rv_ok P d → (∀ c ∈ P, -9 < c → c < 0 → σ 15 (rv_v c).toNat = e (-1 - c).toNat) → (∀ i, i < d → σ 16 i = F i) →
    ∃ g, kloop (fun st => mm_reckons_l4 st.1 st.2.1 st.2.2) fuel (σ, (d : Int), (k : Int)) = some (kst σ 16 g) ∧ g 0 = (rv_run e P (F, d)).1 0 := by
  induction P with
  | nil =>
    intro σ k d F fuel hf hk hat hok hv hs
    have hl : ([] : List Int).length = 0 := rfl
    obtain ⟨n, rfl⟩ : ∃ n, fuel = n + 1 := ⟨fuel - 1, by omega⟩
    have hd : d = 1 := hok
    subst hd
    refine ⟨σ 16, ?_, hs 0 (by omega)⟩
    have hat : σ 1 k = 0 := hat
    have e1 : mm_reckons_l4 σ ((1 : Nat) : Int) (k : Int) = some (.inr σ) := by
      unfold mm_reckons_l4
      rw [kchk_t (by omega), Int.toNat_natCast, if_pos hat]
    rw [kloop_r (body := fun st => mm_reckons_l4 st.1 st.2.1 st.2.2) (a := (σ, ((1 : Nat) : Int), (k : Int))) e1, kst_id]
  | cons c P ih =>
    intro σ k d F fuel hf hk hat hok hv hs
    have hl : (c :: P).length = P.length + 1 := rfl
    obtain ⟨n, rfl⟩ : ∃ n, fuel = n + 1 := ⟨fuel - 1, by omega⟩
    obtain ⟨ha1, ha2, ha3⟩ := hat
    obtain ⟨hd40, ho1, ho2, ho3⟩ := hok
    have hvP : ∀ c ∈ P, -9 < c → c < 0 → σ 15 (rv_v c).toNat = e (-1 - c).toNat := fun c h => hv c (List.mem_cons_of_mem _ h)
    have goal : ∀ (d' k' : Nat) (G : Nat → Int), k' + 2 * P.length + 1 ≤ 1400 → mm_reckons_l4 σ (d : Int) (k : Int) = some (.inl (kst σ 16 G, (d' : Int), (k' : Int))) → rv_mt (σ 1) k' P → rv_ok P d' → (∀ i, i < d' → G i = (rv_st e (F, d) c).1 i) → (rv_st e (F, d) c).2 = d' →
        ∃ g, kloop (fun st => mm_reckons_l4 st.1 st.2.1 st.2.2) (n + 1) (σ, (d : Int), (k : Int)) = some (kst σ 16 g) ∧ g 0 = (rv_run e (c :: P) (F, d)).1 0 := by
      intro d' k' G hk' hb hat' hok' hG hd2
      obtain ⟨g, h1, h2⟩ := ih (kst σ 16 G) k' d' (rv_st e (F, d) c).1 n (by omega) hk' (by rw [kst_ne (by decide)]; exact hat') hok' (by rw [kst_ne (by decide)]; exact hvP) (by rw [kst_eq]; exact hG)
      refine ⟨g, ?_, ?_⟩
      · rw [kloop_l (body := fun st => mm_reckons_l4 st.1 st.2.1 st.2.2) (a := (σ, (d : Int), (k : Int))) hb, h1, kst_st]
      · rw [h2]
        show (rv_run e P _).1 0 = (rv_run e P (rv_st e (F, d) c)).1 0
        rw [← hd2]
    by_cases h1 : -9 < c
    · have hokP := ho1 h1
      by_cases h2 : c < 0
      · obtain ⟨hk1, hk2, hat⟩ := ha2 h1 h2
        have hr := rv_v_rng h1 h2
        refine goal (d + 1) (k + 2) (kup (σ 16) d (if 0 ≤ c then c else e (-1 - c).toNat)) (by omega) ?_ hat hokP ?_ (by unfold rv_st; rw [if_pos h1])
        · unfold mm_reckons_l4
          rw [kchk_t (by omega), kchk_t (by omega)]
          simp only [klet, Int.toNat_natCast, hk1]
          rw [if_neg (show ¬ (2 : Int) = 1 by decide), if_pos trivial]
          unfold mm_reckons_l4_j36
          rw [if_neg (show ¬ (2 : Int) = 1 by decide), show w32 ((k : Int) + 1) = ((k + 1 : Nat) : Int) by rw [w32_s (by omega) (by omega)]; omega, kchk_t (by omega)]
          simp only [Int.toNat_natCast, hk2]
          rw [kchk_t (by omega), hv c List.mem_cons_self h1 h2]
          unfold mm_reckons_l4_j67 mm_reckons_l4_j140
          rw [kchk_t (by omega)]
          simp only [klet, Int.toNat_natCast]
          rw [w32_s (by omega) (by omega), w32_s (by omega) (by omega), if_neg (show ¬ 0 ≤ c by omega)]
          rfl
        · intro i hi
          unfold rv_st
          rw [if_pos h1]
          dsimp only
          by_cases hid : i = d
          · subst hid
            rw [kup_eq, kup_eq]
          · rw [kup_ne hid, kup_ne hid]
            exact hs i (by omega)
      · obtain ⟨hk1, hk2, hat⟩ := ha1 (by omega)
        refine goal (d + 1) (k + 2) (kup (σ 16) d (if 0 ≤ c then c else e (-1 - c).toNat)) (by omega) ?_ hat hokP ?_ (by unfold rv_st; rw [if_pos h1])
        · unfold mm_reckons_l4
          rw [kchk_t (by omega), kchk_t (by omega)]
          simp only [klet, Int.toNat_natCast, hk1]
          rw [if_neg (show ¬ (1 : Int) = 0 by decide), if_pos trivial]
          unfold mm_reckons_l4_j36
          rw [if_pos rfl, show w32 ((k : Int) + 1) = ((k + 1 : Nat) : Int) by rw [w32_s (by omega) (by omega)]; omega, kchk_t (by omega)]
          simp only [Int.toNat_natCast, hk2]
          unfold mm_reckons_l4_j67 mm_reckons_l4_j140
          rw [kchk_t (by omega)]
          simp only [klet, Int.toNat_natCast]
          rw [w32_s (by omega) (by omega), w32_s (by omega) (by omega), if_pos (show 0 ≤ c by omega)]
          rfl
        · intro i hi
          unfold rv_st
          rw [if_pos h1]
          dsimp only
          by_cases hid : i = d
          · subst hid
            rw [kup_eq, kup_eq]
          · rw [kup_ne hid, kup_ne hid]
            exact hs i (by omega)
    · by_cases h2 : c = (-9)
      · obtain ⟨hd1, hokP⟩ := ho2 h2
        obtain ⟨hk1, hat⟩ := ha3 (by omega)
        have hk1 : σ 1 k = 3 := by rw [hk1, h2]; rfl
        refine goal d (k + 1) (kup (σ 16) (d - 1) (if F (d - 1) = 0 then 1 else 0)) (by omega) ?_ hat hokP ?_ (by unfold rv_st; rw [if_neg h1, if_pos h2])
        · unfold mm_reckons_l4
          rw [kchk_t (by omega), kchk_t (by omega)]
          simp only [klet, Int.toNat_natCast, hk1]
          rw [w32_s (v := (d : Int) - 1) (by omega) (by omega), kchk_t (by omega), show ((d : Int) - 1).toNat = d - 1 by omega, hs (d - 1) (by omega)]
          by_cases hz : F (d - 1) = 0
          · rw [if_pos hz, if_pos hz]
            unfold mm_reckons_l4_j106 mm_reckons_l4_j140
            rw [kchk_t (by omega)]
            simp only [klet]
            rw [show ((d : Int) - 1).toNat = d - 1 by omega, w32_s (by omega) (by omega)]
            rfl
          · rw [if_neg hz, if_neg hz]
            unfold mm_reckons_l4_j106 mm_reckons_l4_j140
            rw [kchk_t (by omega)]
            simp only [klet]
            rw [show ((d : Int) - 1).toNat = d - 1 by omega, w32_s (by omega) (by omega)]
            rfl
        · intro i hi
          unfold rv_st
          rw [if_neg h1, if_pos h2]
          dsimp only
          by_cases hid : i = d - 1
          · subst hid
            rw [kup_eq, kup_eq]
          · rw [kup_ne hid, kup_ne hid]
            exact hs i (by omega)
      · obtain ⟨hc17, hd2, hokP⟩ := ho3 (by omega)
        obtain ⟨hk1, hat⟩ := ha3 (by omega)
        have hro := rv_o_rng (c := c) (by omega) hc17
        refine goal (d - 1) (k + 1) (kup (σ 16) (d - 2) (rv_op c (F (d - 2)) (F (d - 1)))) (by omega) ?_ hat hokP ?_ (by unfold rv_st; rw [if_neg h1, if_neg h2])
        · unfold mm_reckons_l4
          rw [kchk_t (by omega), kchk_t (by omega)]
          simp only [klet, Int.toNat_natCast, hk1]
          rw [if_neg (by omega), if_neg (by omega), if_neg (by omega), if_neg (by omega), show w32 ((d : Int) + (-1)) = ((d - 1 : Nat) : Int) by rw [w32_s (by omega) (by omega)]; omega]
          rw [show w32 (((d - 1 : Nat) : Int) - 1) = ((d - 2 : Nat) : Int) by rw [w32_s (by omega) (by omega)]; omega]
          rw [kchk_t (by omega), kchk_t (by omega), rv_m σ hc17 (by omega)]
          simp only [Option.bind, Int.toNat_natCast]
          rw [kchk_t (by omega), hs (d - 2) (by omega), hs (d - 1) (by omega)]
          unfold mm_reckons_l4_j140
          rw [w32_s (by omega) (by omega)]
          rfl
        · intro i hi
          unfold rv_st
          rw [if_neg h1, if_neg h2]
          dsimp only
          by_cases hid : i = d - 2
          · subst hid
            rw [kup_eq, kup_eq]
          · rw [kup_ne hid, kup_ne hid]
            exact hs i (by omega)
/-- a rule's program in the class, in the reference; '[]' where there is none -/
def rv_pC (σ : kM) (r : Nat) (P : List Int) : Prop := ∃ k : Nat, σ 9 r = (k : Int) ∧ σ 10 r = ((k + P.length : Nat) : Int) ∧ k + P.length ≤ 700 ∧ rv_at (σ 8) k P
def rv_pM (σ : kM) (a : Int) (P : List Int) : Prop := (P = [] ∧ a = (-1)) ∨ (P ≠ [] ∧ ∃ k : Nat, a = (k : Int) ∧ k + 2 * P.length + 1 ≤ 1400 ∧ rv_mt (σ 1) k P)
theorem rv_pC.kept {σ σ' : kM} {r : Nat} {P : List Int} (h : rv_pC σ r P) (h8 : σ' 8 = σ 8) (h9 : σ' 9 = σ 9) (h10 : σ' 10 = σ 10) : rv_pC σ' r P := by
  obtain ⟨k, h1, h2, h3, h4⟩ := h
  exact ⟨k, by rw [h9]; exact h1, by rw [h10]; exact h2, h3, by rw [h8]; exact h4⟩
theorem rv_pM.kept {σ σ' : kM} {a : Int} {P : List Int} (h : rv_pM σ a P) (h1 : σ' 1 = σ 1) : rv_pM σ' a P := by
  unfold rv_pM at *
  rw [h1]
  exact h
theorem rv_has {σ : kM} {r : Int} {P : List Int} (hr : 0 ≤ r ∧ r < 3) (h : rv_pC σ r.toNat P) : pf_Rules_has_7 σ r = some (if P = [] then 0 else 1) := by
  obtain ⟨k, h1, h2, h3, h4⟩ := h
  unfold pf_Rules_has_7
  rw [kchk_t hr, kchk_t hr, h1, h2]
  cases P with
  | nil => rw [if_pos (by simp), if_pos rfl]
  | cons c P => rw [if_neg (by simp only [List.length_cons]; omega), if_neg (by simp)]
theorem rv_M {σ : kM} {a : Int} {P : List Int} {e : Nat → Int} (hne : P ≠ []) (h : rv_pM σ a P) (hok : rv_ok P 0) (hv : ∀ c ∈ P, -9 < c → c < 0 → σ 15 (rv_v c).toNat = e (-1 - c).toNat) : ∃ g, mm_reckons σ a = some (rv_ev P e, kst σ 16 g) := by
  rcases h with ⟨h, _⟩ | ⟨_, k, rfl, h3, h4⟩
  · exact absurd h hne
  · obtain ⟨g, h5, h6⟩ := rv_ml e P σ k 0 (fun _ => 0) kFuel (kFuel_lt (by omega)) h3 h4 hok hv (fun i hi => absurd hi (Nat.not_lt_zero _))
    refine ⟨g, ?_⟩
    have h5 : kloop (fun st => mm_reckons_l4 st.1 st.2.1 st.2.2) kFuel (σ, 0, (k : Int)) = some (kst σ 16 g) := h5
    unfold mm_reckons
    rw [h5]
    show some (kst σ 16 g 16 0, kst σ 16 g) = _
    rw [kst_eq, h6]
    rfl

theorem rv_C49 {σ : kM} {r : Int} {P : List Int} {e : Nat → Int} (hr : 0 ≤ r ∧ r < 3) (h : rv_pC σ r.toNat P) (hok : rv_ok P 0) (hv : ∀ c ∈ P, -9 < c → c < 0 → σ 49 (-1 - c).toNat = e (-1 - c).toNat) : ∃ g, pf_Rules_worth_7_49 σ r = some (rv_ev P e, kst σ 11 g) := by
  obtain ⟨k, h1, h2, h3, h4⟩ := h
  obtain ⟨g, h5, h6⟩ := rv_cl49 hr e P σ k 0 (fun _ => 0) kFuel (kFuel_lt (by omega)) h2 h3 h4 hok hv (fun i hi => absurd hi (Nat.not_lt_zero _))
  refine ⟨g, ?_⟩
  have h5 : kloop (fun st => pf_Rules_worth_7_49_l10 st.1 r st.2.1 st.2.2) kFuel (σ, 0, (k : Int)) = some (kst σ 11 g, 1) := h5
  unfold pf_Rules_worth_7_49
  rw [kchk_t hr, h1]
  simp only [klet]
  rw [h5]
  show (if (1 : Int) ≤ 0 then some ((0 : Int), kst σ 11 g) else kchk (0 ≤ w32 (1 - 1) ∧ w32 (1 - 1) < 64) (some (kst σ 11 g 11 (w32 (1 - 1)).toNat, kst σ 11 g))) = _
  rw [if_neg (by omega), kchk_t (by decide), kst_eq, show (w32 (1 - 1)).toNat = 0 by decide, h6]
  rfl

theorem rv_C70 {σ : kM} {r : Int} {P : List Int} {e : Nat → Int} (hr : 0 ≤ r ∧ r < 3) (h : rv_pC σ r.toNat P) (hok : rv_ok P 0) (hv : ∀ c ∈ P, -9 < c → c < 0 → σ 70 (-1 - c).toNat = e (-1 - c).toNat) : ∃ g, pf_Rules_worth_7_70 σ r = some (rv_ev P e, kst σ 11 g) := by
  obtain ⟨k, h1, h2, h3, h4⟩ := h
  obtain ⟨g, h5, h6⟩ := rv_cl70 hr e P σ k 0 (fun _ => 0) kFuel (kFuel_lt (by omega)) h2 h3 h4 hok hv (fun i hi => absurd hi (Nat.not_lt_zero _))
  refine ⟨g, ?_⟩
  have h5 : kloop (fun st => pf_Rules_worth_7_70_l10 st.1 r st.2.1 st.2.2) kFuel (σ, 0, (k : Int)) = some (kst σ 11 g, 1) := h5
  unfold pf_Rules_worth_7_70
  rw [kchk_t hr, h1]
  simp only [klet]
  rw [h5]
  show (if (1 : Int) ≤ 0 then some ((0 : Int), kst σ 11 g) else kchk (0 ≤ w32 (1 - 1) ∧ w32 (1 - 1) < 64) (some (kst σ 11 g 11 (w32 (1 - 1)).toNat, kst σ 11 g))) = _
  rw [if_neg (by omega), kchk_t (by decide), kst_eq, show (w32 (1 - 1)).toNat = 0 by decide, h6]
  rfl

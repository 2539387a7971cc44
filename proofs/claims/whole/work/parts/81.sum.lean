/-! sums and bits over a row -/
def sSum (q : Nat → Int) (a : Int) : Nat → Int := fun n => kit (fun i v => w32 (v + q (a + (i : Int)).toNat)) n 0
def sWh (q : Nat → Int) : Nat → Int := fun n => kit (fun i v => kor v (if q (9 + (i : Int)).toNat = 0 then kshl 1 (i : Int) else 0)) n 0
def sSi (q : Nat → Int) : Nat → Int := fun n => kit (fun i v => kor v (if q (25 + (i : Int)).toNat ≤ 0 then 0 else kshl 1 (i : Int))) n 0
def sHi (q : Nat → Int) (p : Int) : Nat → Int := fun n => kit (fun i v => w32 (v + q (29 + 8 * (i : Int) + p).toNat)) n 0
section SUM
variable {N M tp b : Int} {L : Nat → Int} {PH PF PB : List Int} {σ μ : kM} {q : Nat → Int}
theorem c_total30 {a a' n : Int} (hn0 : 0 ≤ n) (ha : 0 ≤ a) (han : a + n ≤ 85) (hq : ∀ i : Int, 0 ≤ i → i < n → σ 31 (a + i).toNat = q (a' + i).toNat) : pf_World_total_30 σ a n = some (sSum q a' n.toNat) := by
  unfold pf_World_total_30
  rw [kl_V (fun i => (sSum q a' i, (i : Int))) n.toNat (sSum q a' n.toNat) (by omega) (fun i hi => by
    show pf_World_total_30_l5 σ a n (sSum q a' i) (i : Int) = _
    unfold pf_World_total_30_l5
    rw [if_neg (by omega), w32_s (v := a + (i : Int)) (by omega) (by omega), kchk_t (by omega), hq _ (by omega) (by omega)]
    simp only [klet]
    rw [w32_s (v := (i : Int) + 1) (by omega) (by omega)]
    rfl) (by
    show pf_World_total_30_l5 σ a n _ ((n.toNat : Nat) : Int) = _
    unfold pf_World_total_30_l5
    rw [if_pos (by omega)]) (b0 := (0, 0)) rfl]
  rfl
theorem c_unscarred30 {n : Int} (hR : RCr N M tp L σ 31 q) (hn0 : 0 ≤ n) (hn : n ≤ 8) : pf_World_unscarred_30 σ n = some (sWh q n.toNat) := by
  unfold pf_World_unscarred_30
  rw [kl_V (fun i => (sWh q i, (i : Int))) n.toNat (sWh q n.toNat) (by omega) (fun i hi => by
    show pf_World_unscarred_30_l4 σ n (sWh q i) (i : Int) = _
    unfold pf_World_unscarred_30_l4 pf_World_unscarred_30_l4_j29
    rw [if_neg (by omega), w32_s (v := 9 + (i : Int)) (by omega) (by omega), kchk_t (by omega), hR.scars (by omega) (by omega)]
    simp only [klet]
    rw [w32_s (v := (i : Int) + 1) (by omega) (by omega)]
    show _ = some (Sum.inl (kor (sWh q i) (if q (9 + (i : Int)).toNat = 0 then kshl 1 (i : Int) else 0), ((i + 1 : Nat) : Int)))
    by_cases h : q (9 + (i : Int)).toNat = 0
    · rw [if_pos h, if_pos h]
      rfl
    · rw [if_neg h, if_neg h]
      rfl) (by
    show pf_World_unscarred_30_l4 σ n _ ((n.toNat : Nat) : Int) = _
    unfold pf_World_unscarred_30_l4
    rw [if_pos (by omega)]) (b0 := (0, 0)) rfl]
  rfl
theorem c_sitting30 {n : Int} (hR : RCr N M tp L σ 31 q) (hn0 : 0 ≤ n) (hn : n ≤ 4) : pf_World_sitting_30 σ n = some (sSi q n.toNat) := by
  unfold pf_World_sitting_30
  rw [kl_V (fun i => (sSi q i, (i : Int))) n.toNat (sSi q n.toNat) (by omega) (fun i hi => by
    show pf_World_sitting_30_l4 σ n (sSi q i) (i : Int) = _
    unfold pf_World_sitting_30_l4 pf_World_sitting_30_l4_j29
    rw [if_neg (by omega), w32_s (v := 57 + (i : Int)) (by omega) (by omega), kchk_t (by omega), hR.sits (by omega) (by omega)]
    simp only [klet]
    rw [w32_s (v := (i : Int) + 1) (by omega) (by omega)]
    show _ = some (Sum.inl (kor (sSi q i) (if q (25 + (i : Int)).toNat ≤ 0 then 0 else kshl 1 (i : Int)), ((i + 1 : Nat) : Int)))
    by_cases h : q (25 + (i : Int)).toNat ≤ 0
    · rw [if_pos h, if_pos h]
      rfl
    · rw [if_neg h, if_neg h]
      rfl) (by
    show pf_World_sitting_30_l4 σ n _ ((n.toNat : Nat) : Int) = _
    unfold pf_World_sitting_30_l4
    rw [if_pos (by omega)]) (b0 := (0, 0)) rfl]
  rfl
theorem c_ofPerson30 {p x n : Int} (hR : RCr N M tp L σ 31 q) (hn0 : 0 ≤ n) (hn : n ≤ 4) (hp0 : 0 ≤ p) (hp : p < 8) : pf_World_ofPerson_30 σ p x n = some (if x = 0 then q (1 + p).toNat else if x = 1 then q (9 + p).toNat else sHi q p n.toNat) := by
  unfold pf_World_ofPerson_30
  rw [w32_s (v := 1 + p) (by omega) (by omega), kchk_t (by omega), hR.money hp0 hp, w32_s (v := 9 + p) (by omega) (by omega), kchk_t (by omega), hR.scars hp0 hp, kl_V (fun i => (sHi q p i, (i : Int))) n.toNat (sHi q p n.toNat) (by omega) (fun i hi => by
    show pf_World_ofPerson_30_l34 σ p n (sHi q p i) (i : Int) = _
    unfold pf_World_ofPerson_30_l34 pf_World_hitsBy_30
    rw [if_neg (by omega), w32_s (v := (i : Int) * 8) (by omega) (by omega), w32_s (v := 17 + (i : Int) * 8) (by omega) (by omega), w32_s (v := 17 + (i : Int) * 8 + p) (by omega) (by omega), kchk_t (by omega), hR.hits (by omega) (by omega) hp0 hp]
    simp only [Option.bind, klet]
    rw [w32_s (v := (i : Int) + 1) (by omega) (by omega)]
    rfl) (by
    show pf_World_ofPerson_30_l34 σ p n _ ((n.toNat : Nat) : Int) = _
    unfold pf_World_ofPerson_30_l34
    rw [if_pos (by omega)]) (b0 := (0, 0)) rfl]
  by_cases h0 : x = 0
  · rw [if_pos h0, if_pos h0]
  · rw [if_neg h0, if_neg h0]
    by_cases h1 : x = 1
    · rw [if_pos h1, if_pos h1]
    · rw [if_neg h1, if_neg h1]
      rfl
theorem c_total58 {a a' n : Int} (hn0 : 0 ≤ n) (ha : 0 ≤ a) (han : a + n ≤ 85) (hq : ∀ i : Int, 0 ≤ i → i < n → σ 59 (a + i).toNat = q (a' + i).toNat) : pf_World_total_58 σ a n = some (sSum q a' n.toNat) := by
  unfold pf_World_total_58
  rw [kl_V (fun i => (sSum q a' i, (i : Int))) n.toNat (sSum q a' n.toNat) (by omega) (fun i hi => by
    show pf_World_total_58_l5 σ a n (sSum q a' i) (i : Int) = _
    unfold pf_World_total_58_l5
    rw [if_neg (by omega), w32_s (v := a + (i : Int)) (by omega) (by omega), kchk_t (by omega), hq _ (by omega) (by omega)]
    simp only [klet]
    rw [w32_s (v := (i : Int) + 1) (by omega) (by omega)]
    rfl) (by
    show pf_World_total_58_l5 σ a n _ ((n.toNat : Nat) : Int) = _
    unfold pf_World_total_58_l5
    rw [if_pos (by omega)]) (b0 := (0, 0)) rfl]
  rfl
theorem c_unscarred58 {n : Int} (hR : RCr N M tp L σ 59 q) (hn0 : 0 ≤ n) (hn : n ≤ 8) : pf_World_unscarred_58 σ n = some (sWh q n.toNat) := by
  unfold pf_World_unscarred_58
  rw [kl_V (fun i => (sWh q i, (i : Int))) n.toNat (sWh q n.toNat) (by omega) (fun i hi => by
    show pf_World_unscarred_58_l4 σ n (sWh q i) (i : Int) = _
    unfold pf_World_unscarred_58_l4 pf_World_unscarred_58_l4_j29
    rw [if_neg (by omega), w32_s (v := 9 + (i : Int)) (by omega) (by omega), kchk_t (by omega), hR.scars (by omega) (by omega)]
    simp only [klet]
    rw [w32_s (v := (i : Int) + 1) (by omega) (by omega)]
    show _ = some (Sum.inl (kor (sWh q i) (if q (9 + (i : Int)).toNat = 0 then kshl 1 (i : Int) else 0), ((i + 1 : Nat) : Int)))
    by_cases h : q (9 + (i : Int)).toNat = 0
    · rw [if_pos h, if_pos h]
      rfl
    · rw [if_neg h, if_neg h]
      rfl) (by
    show pf_World_unscarred_58_l4 σ n _ ((n.toNat : Nat) : Int) = _
    unfold pf_World_unscarred_58_l4
    rw [if_pos (by omega)]) (b0 := (0, 0)) rfl]
  rfl
theorem c_sitting58 {n : Int} (hR : RCr N M tp L σ 59 q) (hn0 : 0 ≤ n) (hn : n ≤ 4) : pf_World_sitting_58 σ n = some (sSi q n.toNat) := by
  unfold pf_World_sitting_58
  rw [kl_V (fun i => (sSi q i, (i : Int))) n.toNat (sSi q n.toNat) (by omega) (fun i hi => by
    show pf_World_sitting_58_l4 σ n (sSi q i) (i : Int) = _
    unfold pf_World_sitting_58_l4 pf_World_sitting_58_l4_j29
    rw [if_neg (by omega), w32_s (v := 57 + (i : Int)) (by omega) (by omega), kchk_t (by omega), hR.sits (by omega) (by omega)]
    simp only [klet]
    rw [w32_s (v := (i : Int) + 1) (by omega) (by omega)]
    show _ = some (Sum.inl (kor (sSi q i) (if q (25 + (i : Int)).toNat ≤ 0 then 0 else kshl 1 (i : Int)), ((i + 1 : Nat) : Int)))
    by_cases h : q (25 + (i : Int)).toNat ≤ 0
    · rw [if_pos h, if_pos h]
      rfl
    · rw [if_neg h, if_neg h]
      rfl) (by
    show pf_World_sitting_58_l4 σ n _ ((n.toNat : Nat) : Int) = _
    unfold pf_World_sitting_58_l4
    rw [if_pos (by omega)]) (b0 := (0, 0)) rfl]
  rfl
theorem c_ofPerson58 {p x n : Int} (hR : RCr N M tp L σ 59 q) (hn0 : 0 ≤ n) (hn : n ≤ 4) (hp0 : 0 ≤ p) (hp : p < 8) : pf_World_ofPerson_58 σ p x n = some (if x = 0 then q (1 + p).toNat else if x = 1 then q (9 + p).toNat else sHi q p n.toNat) := by
  unfold pf_World_ofPerson_58
  rw [w32_s (v := 1 + p) (by omega) (by omega), kchk_t (by omega), hR.money hp0 hp, w32_s (v := 9 + p) (by omega) (by omega), kchk_t (by omega), hR.scars hp0 hp, kl_V (fun i => (sHi q p i, (i : Int))) n.toNat (sHi q p n.toNat) (by omega) (fun i hi => by
    show pf_World_ofPerson_58_l34 σ p n (sHi q p i) (i : Int) = _
    unfold pf_World_ofPerson_58_l34 pf_World_hitsBy_58
    rw [if_neg (by omega), w32_s (v := (i : Int) * 8) (by omega) (by omega), w32_s (v := 17 + (i : Int) * 8) (by omega) (by omega), w32_s (v := 17 + (i : Int) * 8 + p) (by omega) (by omega), kchk_t (by omega), hR.hits (by omega) (by omega) hp0 hp]
    simp only [Option.bind, klet]
    rw [w32_s (v := (i : Int) + 1) (by omega) (by omega)]
    rfl) (by
    show pf_World_ofPerson_58_l34 σ p n _ ((n.toNat : Nat) : Int) = _
    unfold pf_World_ofPerson_58_l34
    rw [if_pos (by omega)]) (b0 := (0, 0)) rfl]
  by_cases h0 : x = 0
  · rw [if_pos h0, if_pos h0]
  · rw [if_neg h0, if_neg h0]
    by_cases h1 : x = 1
    · rw [if_pos h1, if_pos h1]
    · rw [if_neg h1, if_neg h1]
      rfl
theorem m_sumOf {a n : Int} (hR : RMr μ b q) (hb0 : 0 ≤ b) (hb : b ≤ 145) (hn0 : 0 ≤ n) (ha : 0 ≤ a) (han : a + n ≤ 145) : mm_sumOf μ b a n = some (sSum q a n.toNat) := by
  unfold mm_sumOf
  rw [kl_V (fun i => (sSum q a i, (i : Int))) n.toNat (sSum q a n.toNat) (by omega) (fun i hi => by
    show mm_sumOf_l6 μ b a n (sSum q a i) (i : Int) = _
    unfold mm_sumOf_l6
    rw [if_neg (by omega), w32_s (v := b + a) (by omega) (by omega), w32_s (v := b + a + (i : Int)) (by omega) (by omega), kchk_t (by omega), hR.at (i := a + (i : Int)) (by omega) (by omega) hb0 (by omega)]
    simp only [klet]
    rw [w32_s (v := (i : Int) + 1) (by omega) (by omega)]
    rfl) (by
    show mm_sumOf_l6 μ b a n _ ((n.toNat : Nat) : Int) = _
    unfold mm_sumOf_l6
    rw [if_pos (by omega)]) (b0 := (0, 0)) rfl]
  rfl
theorem m_wholeOnes {n : Int} (hR : RMr μ b q) (hb0 : 0 ≤ b) (hb : b ≤ 145) (h2 : μ 0 2 = n) (hn0 : 0 ≤ n) (hn : n ≤ 8) : mm_wholeOnes μ b = some (sWh q n.toNat) := by
  unfold mm_wholeOnes
  rw [kl_V (fun i => (sWh q i, (i : Int))) n.toNat (sWh q n.toNat) (by omega) (fun i hi => by
    show mm_wholeOnes_l4 μ b (sWh q i) (i : Int) = _
    unfold mm_wholeOnes_l4 mm_wholeOnes_l4_j34
    rw [h2, if_neg (by omega), w32_s (v := b + 9) (by omega) (by omega), w32_s (v := b + 9 + (i : Int)) (by omega) (by omega), kchk_t (by omega), hR.at (i := 9 + (i : Int)) (by omega) (by omega) hb0 (by omega)]
    simp only [klet]
    rw [w32_s (v := (i : Int) + 1) (by omega) (by omega)]
    show _ = some (Sum.inl (kor (sWh q i) (if q (9 + (i : Int)).toNat = 0 then kshl 1 (i : Int) else 0), ((i + 1 : Nat) : Int)))
    by_cases h : q (9 + (i : Int)).toNat = 0
    · rw [if_pos h, if_pos h]
      rfl
    · rw [if_neg h, if_neg h]
      rfl) (by
    show mm_wholeOnes_l4 μ b _ ((n.toNat : Nat) : Int) = _
    unfold mm_wholeOnes_l4
    rw [h2, if_pos (by omega)]) (b0 := (0, 0)) rfl]
  rfl
theorem m_sitting {n : Int} (hR : RMr μ b q) (hb0 : 0 ≤ b) (hb : b ≤ 145) (h3 : μ 0 3 = n) (hn0 : 0 ≤ n) (hn : n ≤ 4) : mm_sitting μ b = some (sSi q n.toNat) := by
  unfold mm_sitting
  rw [kl_V (fun i => (sSi q i, (i : Int))) n.toNat (sSi q n.toNat) (by omega) (fun i hi => by
    show mm_sitting_l4 μ b (sSi q i) (i : Int) = _
    unfold mm_sitting_l4 mm_sitting_l4_j34
    rw [h3, if_neg (by omega), w32_s (v := b + 25) (by omega) (by omega), w32_s (v := b + 25 + (i : Int)) (by omega) (by omega), kchk_t (by omega), hR.at (i := 25 + (i : Int)) (by omega) (by omega) hb0 (by omega)]
    simp only [klet]
    rw [w32_s (v := (i : Int) + 1) (by omega) (by omega)]
    show _ = some (Sum.inl (kor (sSi q i) (if q (25 + (i : Int)).toNat ≤ 0 then 0 else kshl 1 (i : Int)), ((i + 1 : Nat) : Int)))
    by_cases h : q (25 + (i : Int)).toNat ≤ 0
    · rw [if_pos h, if_pos h]
      rfl
    · rw [if_neg h, if_neg h]
      rfl) (by
    show mm_sitting_l4 μ b _ ((n.toNat : Nat) : Int) = _
    unfold mm_sitting_l4
    rw [h3, if_pos (by omega)]) (b0 := (0, 0)) rfl]
  rfl
theorem m_hitsOf {p n : Int} (hR : RMr μ b q) (hb0 : 0 ≤ b) (hb : b ≤ 145) (h3 : μ 0 3 = n) (hn0 : 0 ≤ n) (hn : n ≤ 4) (hp0 : 0 ≤ p) (hp : p < 8) : mm_hitsOf μ b p = some (sHi q p n.toNat) := by
  unfold mm_hitsOf
  rw [kl_V (fun i => (sHi q p i, (i : Int))) n.toNat (sHi q p n.toNat) (by omega) (fun i hi => by
    show mm_hitsOf_l5 μ b p (sHi q p i) (i : Int) = _
    unfold mm_hitsOf_l5
    rw [h3, if_neg (by omega), w32_s (v := b + 29) (by omega) (by omega), w32_s (v := 8 * (i : Int)) (by omega) (by omega), w32_s (v := b + 29 + 8 * (i : Int)) (by omega) (by omega), w32_s (v := b + 29 + 8 * (i : Int) + p) (by omega) (by omega), kchk_t (by omega), hR.at (i := 29 + 8 * (i : Int) + p) (by omega) (by omega) hb0 (by omega)]
    simp only [klet]
    rw [w32_s (v := (i : Int) + 1) (by omega) (by omega)]
    rfl) (by
    show mm_hitsOf_l5 μ b p _ ((n.toNat : Nat) : Int) = _
    unfold mm_hitsOf_l5
    rw [h3, if_pos (by omega)]) (b0 := (0, 0)) rfl]
  rfl
end SUM

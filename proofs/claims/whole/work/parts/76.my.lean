/-! the reference's years: readings -/
section MY
variable {N M tp b : Int} {L : Nat → Int} {PH PF PB : List Int} {μ μ' : kM} {q : Nat → Int}
theorem sp_hq_M {w p i y : Int} (hw0 : 0 ≤ w) (hw : w < 4) (hp0 : 0 ≤ p) (hp : p < 8) : ∀ k : Nat, k < 201 → sp_hq q w p i y k =
    kup (kup (kup (kup (kup (kup (kup (kup (kup (kup (kup q (9 + p).toNat (min (w32 (q (9 + p).toNat + i)) 99)) (17 + w).toNat (w32 (q (17 + w).toNat - y))) (1 + p).toNat (min (w32 (q (1 + p).toNat + y)) 999)) (29 + 8 * w + p).toNat (w32 (q (29 + 8 * w + p).toNat + 1))) (145 + w.toNat) (w32 (q (145 + w).toNat + y)))
      193 (w32 (q 193 + i))) (161 + (8 * w + p)).toNat (w32 (q (161 + 8 * w + p).toNat + i))) 194 (max (q 194) i)) 195 (kor (q 195) (kshl 1 p))) (197 + w.toNat) (kor (q (197 + w).toNat) (kshl 1 p))) 196 (w32 (q 196 + 1)) k := by
  intro k hk
  rw [show (161 + (8 * w + p)).toNat = (161 + 8 * w + p).toNat by omega, show 145 + w.toNat = (145 + w).toNat by omega, show 197 + w.toNat = (197 + w).toNat by omega]
  unfold sp_hq
  by_cases h1 : k = (9 + p).toNat
  · subst h1
    simp (disch := omega) only [kup_eq, kup_ne]
  by_cases h2 : k = (17 + w).toNat
  · subst h2
    simp (disch := omega) only [kup_eq, kup_ne]
  by_cases h3 : k = (1 + p).toNat
  · subst h3
    simp (disch := omega) only [kup_eq, kup_ne]
  by_cases h4 : k = (29 + 8 * w + p).toNat
  · subst h4
    simp (disch := omega) only [kup_eq, kup_ne]
  by_cases h5 : k = (145 + w).toNat
  · subst h5
    simp (disch := omega) only [kup_eq, kup_ne]
  by_cases h6 : k = 193
  · subst h6
    simp (disch := omega) only [kup_eq, kup_ne]
  by_cases h7 : k = (161 + 8 * w + p).toNat
  · subst h7
    simp (disch := omega) only [kup_eq, kup_ne]
  by_cases h8 : k = 194
  · subst h8
    simp (disch := omega) only [kup_eq, kup_ne]
  by_cases h9 : k = 195
  · subst h9
    simp (disch := omega) only [kup_eq, kup_ne]
  by_cases h10 : k = (197 + w).toNat
  · subst h10
    simp (disch := omega) only [kup_eq, kup_ne]
  by_cases h11 : k = 196
  · subst h11
    simp (disch := omega) only [kup_eq, kup_ne]
  simp (disch := omega) only [kup_eq, kup_ne]
theorem ms_hit (hE : EM N M tp PH PF PB μ) (hN : EN N M tp L PH PF PB) (hR : RM μ b q) (hI : IV M tp L q) (hb0 : 0 ≤ b) (hb : b ≤ 145) {w p l lk : Int} (hw0 : 0 ≤ w) (hw : w < M) (hp0 : 0 ≤ p) (hp : p < N) (hl0 : 0 ≤ l) (hl : l < L w.toNat) {t d : Int} (ht : t = q (65 + 6 * w + l).toNat) (hd : d = if μ 0 48 = 0 then q (89 + 6 * w + l).toNat else 9) :
    kOk (mm_reads_l28 μ b w l lk p) (fun o => ∃ μ', o = .inl (μ', (sp_hit PH PF L w l t d p (q, lk)).2, p + 1) ∧ RM μ' b (sp_hit PH PF L w l t d p (q, lk)).1 ∧ frM b μ μ') := by
  have hn1 := hN.1
  have hn2 := hN.2.1
  have hn3 := hN.2.2.1
  have hL := hN.2.2.2.1 w hw0 hw
  have htp := hI.topic hw0 (by omega) hl0 (by omega)
  have hdp := hI.depth hw0 (by omega) hl0 (by omega)
  unfold mm_reads_l28
  rw [hE.2.1, if_neg (by omega)]
  obtain ⟨μ1, hb1, hs⟩ := ms_inOf hE hN hR.1 hI hb0 hb hw0 hw hp0 hp hl0 hl
  rw [hb1, ← ht, ← hd]
  have hrg := sp_in_rng (PH := PH) (w := w) (d := d) hI (p := p) (t := t) hp0 (by omega) (by omega) (by omega) (by rw [hd]; split <;> omega)
  have hR1 := hR.scr hs
  have hF1 : frM b μ μ1 := hs.fr
  simp only [Option.bind]
  unfold sp_hit
  have hdone : ∀ (μ2 : kM) (x : Int), mm_reads_l28_j306 μ2 b w l x p = some (.inl (μ2, x, p + 1)) := by
    intro μ2 x
    unfold mm_reads_l28_j306
    simp only [klet]
    rw [w32_s (by omega) (by omega)]
  by_cases h1 : sp_in PH q w p t d ≤ 0
  · rw [if_pos (show sp_in PH q w p t d = 0 by omega), if_pos h1, hdone]
    exact ⟨_, rfl, μ1, rfl, hR1, hF1⟩
  rw [if_neg (show ¬ sp_in PH q w p t d = 0 by omega), if_neg h1]
  generalize hii : sp_in PH q w p t d = ii at h1 hrg
  obtain ⟨μ2, hb2, hs2⟩ := ms_fi (i := ii) (hE.fr hF1) hN hR1.1 hI hb0 hb hw0 hw hp0 hp hl0 hl
  rw [hb2]
  have hR2 := hR1.scr hs2
  have hF2 : frM b μ μ2 := hF1.trans hs2.fr
  simp only [Option.bind]
  generalize hff : sp_fi PF L q w p l ii = ff
  have hless : ∀ (σ : kM) (x y : Int), mm_lesser σ x y = some (min y x) := by
    intro σ x y
    unfold mm_lesser
    rw [Int.min_def]
    split <;> rfl
  rw [w32_s (v := b + 17) (by omega) (by omega), w32_s (v := b + 17 + w) (by omega) (by omega), kchk_t (by omega), hR2.1.at (j := (b + 17 + w).toNat) (i := 17 + w) (by omega) (by omega) hb0 (by omega), hless]
  simp only [Option.bind]
  rw [Int.min_comm]
  generalize hyy : min ff (q (17 + w).toNat) = yy
  rw [w32_s (v := b + 9) (by omega) (by omega), w32_s (v := b + 9 + p) (by omega) (by omega), kchk_t (by omega), hR2.1.at (j := (b + 9 + p).toNat) (i := 9 + p) (by omega) (by omega) hb0 (by omega), hless]
  simp only [Option.bind, klet]
  rw [kchk_t (by omega), kchk_t (by omega), kchk_t (by omega)]
  have a1 := hR2.put8 (i := 9 + p) (j := (b + 9 + p).toNat) (min (w32 (q (9 + p).toNat + ii)) 99) (by omega) (by omega) hb0 (by omega)
  have f1 : frM b μ (kst μ2 8 (kup (μ2 8) (b + 9 + p).toNat (min (w32 (q (9 + p).toNat + ii)) 99))) := hF2.put8 (by omega)
  generalize kst μ2 8 (kup (μ2 8) (b + 9 + p).toNat (min (w32 (q (9 + p).toNat + ii)) 99)) = μ3 at a1 f1
  rw [a1.1.at (j := (b + 17 + w).toNat) (i := 17 + w) (by omega) (by omega) hb0 (by omega), kup_ne (show (17 + w).toNat ≠ (9 + p).toNat by omega)]
  have a2 := a1.put8 (i := 17 + w) (j := (b + 17 + w).toNat) (w32 (q (17 + w).toNat - yy)) (by omega) (by omega) hb0 (by omega)
  have f2 : frM b μ (kst μ3 8 (kup (μ3 8) (b + 17 + w).toNat (w32 (q (17 + w).toNat - yy)))) := f1.put8 (by omega)
  generalize kst μ3 8 (kup (μ3 8) (b + 17 + w).toNat (w32 (q (17 + w).toNat - yy))) = μ4 at a2 f2
  rw [w32_s (v := b + 1) (by omega) (by omega), w32_s (v := b + 1 + p) (by omega) (by omega), kchk_t (by omega), a2.1.at (j := (b + 1 + p).toNat) (i := 1 + p) (by omega) (by omega) hb0 (by omega), kup_ne (show (1 + p).toNat ≠ (17 + w).toNat by omega), kup_ne (show (1 + p).toNat ≠ (9 + p).toNat by omega), hless]
  simp only [Option.bind]
  rw [kchk_t (by omega)]
  have a3 := a2.put8 (i := 1 + p) (j := (b + 1 + p).toNat) (min (w32 (q (1 + p).toNat + yy)) 999) (by omega) (by omega) hb0 (by omega)
  have f3 : frM b μ (kst μ4 8 (kup (μ4 8) (b + 1 + p).toNat (min (w32 (q (1 + p).toNat + yy)) 999))) := f2.put8 (by omega)
  generalize kst μ4 8 (kup (μ4 8) (b + 1 + p).toNat (min (w32 (q (1 + p).toNat + yy)) 999)) = μ5 at a3 f3
  rw [w32_s (v := b + 29) (by omega) (by omega), w32_s (v := 8 * w) (by omega) (by omega), w32_s (v := b + 29 + 8 * w) (by omega) (by omega), w32_s (v := b + 29 + 8 * w + p) (by omega) (by omega), kchk_t (by omega), kchk_t (by omega), a3.1.at (j := (b + 29 + 8 * w + p).toNat) (i := 29 + 8 * w + p) (by omega) (by omega) hb0 (by omega), kup_ne (show (29 + 8 * w + p).toNat ≠ (1 + p).toNat by omega), kup_ne (show (29 + 8 * w + p).toNat ≠ (17 + w).toNat by omega), kup_ne (show (29 + 8 * w + p).toNat ≠ (9 + p).toNat by omega)]
  have a4 := a3.put8 (i := 29 + 8 * w + p) (j := (b + 29 + 8 * w + p).toNat) (w32 (q (29 + 8 * w + p).toNat + 1)) (by omega) (by omega) hb0 (by omega)
  have f4 : frM b μ (kst μ5 8 (kup (μ5 8) (b + 29 + 8 * w + p).toNat (w32 (q (29 + 8 * w + p).toNat + 1)))) := f3.put8 (by omega)
  generalize kst μ5 8 (kup (μ5 8) (b + 29 + 8 * w + p).toNat (w32 (q (29 + 8 * w + p).toNat + 1))) = μ6 at a4 f4
  rw [kchk_t (by omega), kchk_t (by omega)]
  have g5 : μ6 10 w.toNat = q (145 + w).toNat := by
    rw [(a4.2.1 w.toNat (by omega)).1]
    simp (disch := omega) only [kup_ne]
    congr 1
    omega
  rw [g5]
  have a5 := a4.putc (c := 10) (j := 145) (by decide) hw0 (by omega) (w32 (q (145 + w).toNat + yy))
  have f5 : frM b μ (kst μ6 10 (kup (μ6 10) w.toNat (w32 (q (145 + w).toNat + yy)))) := f4.put (by decide)
  generalize kst μ6 10 (kup (μ6 10) w.toNat (w32 (q (145 + w).toNat + yy))) = μ7 at a5 f5
  have g6 : μ7 0 44 = q 193 := by
    rw [a5.2.2.2.1]
    simp (disch := omega) only [kup_ne]
  rw [g6]
  have a6 := a5.put0 (i := 44) (j := 193) (by decide) (w32 (q 193 + ii))
  have f6 : frM b μ (kst μ7 0 (kup (μ7 0) 44 (w32 (q 193 + ii)))) := f5.put0 (by decide)
  generalize kst μ7 0 (kup (μ7 0) 44 (w32 (q 193 + ii))) = μ8 at a6 f6
  rw [w32_s (v := 8 * w + p) (by omega) (by omega), kchk_t (by omega), kchk_t (by omega)]
  have g7 : μ8 14 (8 * w + p).toNat = q (161 + 8 * w + p).toNat := by
    rw [a6.2.2.1 (8 * w + p).toNat (by omega)]
    simp (disch := omega) only [kup_ne]
    congr 1
    omega
  rw [g7]
  have a7 := a6.puti (w := 8 * w + p) (by omega) (by omega) (w32 (q (161 + 8 * w + p).toNat + ii))
  have f7 : frM b μ (kst μ8 14 (kup (μ8 14) (8 * w + p).toNat (w32 (q (161 + 8 * w + p).toNat + ii)))) := f6.put (by decide)
  generalize kst μ8 14 (kup (μ8 14) (8 * w + p).toNat (w32 (q (161 + 8 * w + p).toNat + ii))) = μ9 at a7 f7
  have g8 : μ9 0 45 = q 194 := by
    rw [a7.2.2.2.2.1]
    simp (disch := omega) only [kup_ne]
  have g9 : μ9 0 49 = q 195 := by
    rw [a7.2.2.2.2.2.1]
    simp (disch := omega) only [kup_ne]
  have g10 : μ9 17 w.toNat = q (197 + w).toNat := by
    rw [(a7.2.1 w.toNat (by omega)).2.2.2.2]
    simp (disch := omega) only [kup_ne]
    congr 1
    omega
  have g11 : μ9 0 50 = q 196 := by
    rw [a7.2.2.2.2.2.2]
    simp (disch := omega) only [kup_ne]
  rw [g8]
  have key : ∀ x : Int, x = max (q 194) ii → kOk (mm_reads_l28_j245 μ9 b w l lk p ff yy x) (fun o => ∃ μ', o = .inl (μ', max lk (w32 (ff - yy)), p + 1) ∧ RM μ' b (sp_hq q w p ii yy) ∧ frM b μ μ') := by
    intro x hx
    subst hx
    unfold mm_reads_l28_j245
    simp only [klet]
    have a8 := a7.put0 (i := 45) (j := 194) (by decide) (max (q 194) ii)
    have f8 : frM b μ (kst μ9 0 (kup (μ9 0) 45 (max (q 194) ii))) := f7.put0 (by decide)
    have g9' : kst μ9 0 (kup (μ9 0) 45 (max (q 194) ii)) 0 49 = q 195 := by
      rw [kst_eq, kup_ne (by decide), g9]
    have g10' : kst μ9 0 (kup (μ9 0) 45 (max (q 194) ii)) 17 w.toNat = q (197 + w).toNat := by
      rw [kst_ne (by decide), g10]
    have g11' : kst μ9 0 (kup (μ9 0) 45 (max (q 194) ii)) 0 50 = q 196 := by
      rw [kst_eq, kup_ne (by decide), g11]
    generalize kst μ9 0 (kup (μ9 0) 45 (max (q 194) ii)) = μa at a8 f8 g9' g10' g11'
    have key2 : ∀ z : Int, z = max lk (w32 (ff - yy)) → kOk (mm_reads_l28_j268 μa b w l p z) (fun o => ∃ μ', o = .inl (μ', max lk (w32 (ff - yy)), p + 1) ∧ RM μ' b (sp_hq q w p ii yy) ∧ frM b μ μ') := by
      intro z hz
      subst hz
      unfold mm_reads_l28_j268
      simp only [klet]
      rw [kchk_t (by omega), kchk_t (by omega), hdone, g9']
      have a9 := a8.put0 (i := 49) (j := 195) (by decide) (kor (q 195) (kshl 1 p))
      have f9 : frM b μ (kst μa 0 (kup (μa 0) 49 (kor (q 195) (kshl 1 p)))) := f8.put0 (by decide)
      rw [kst_ne (show (17 : Nat) ≠ 0 by decide), g10']
      have a10 := a9.putc (c := 17) (j := 197) (by decide) hw0 (by omega) (kor (q (197 + w).toNat) (kshl 1 p))
      rw [kst_ne (show (17 : Nat) ≠ 0 by decide)] at a10
      have f10 : frM b μ (kst (kst μa 0 (kup (μa 0) 49 (kor (q 195) (kshl 1 p)))) 17 (kup (μa 17) w.toNat (kor (q (197 + w).toNat) (kshl 1 p)))) := f9.put (by decide)
      have g12 : kst (kst μa 0 (kup (μa 0) 49 (kor (q 195) (kshl 1 p)))) 17 (kup (μa 17) w.toNat (kor (q (197 + w).toNat) (kshl 1 p))) 0 50 = q 196 := by
        rw [kst_ne (by decide), kst_eq, kup_ne (by decide), g11']
      rw [g12]
      have a11 := a10.put0 (i := 50) (j := 196) (by decide) (w32 (q 196 + 1))
      refine ⟨_, rfl, _, rfl, a11.congr ?_, f10.put0 (by decide)⟩
      exact sp_hq_M hw0 (by omega) hp0 (by omega)
    split
    · exact key2 _ (by omega)
    · exact key2 _ (by omega)
  split
  · exact key _ (by omega)
  · exact key _ (by omega)
theorem sp_in_up {w p t d v : Int} {j : Nat} (hj : 145 ≤ j) (hw0 : 0 ≤ w) (hw : w < 4) (hp0 : 0 ≤ p) (hp : p < 8) (ht : t < 4) : sp_in PH (kup q j v) w p t d = sp_in PH q w p t d := by
  unfold sp_in sp_tv
  simp (disch := omega) only [kup_ne]
theorem sp_fi_up {w p l i v : Int} {j : Nat} (hj : 145 ≤ j) (hw0 : 0 ≤ w) (hw : w < 4) (hp0 : 0 ≤ p) (hp : p < 8) (hl : l < 6) (hL : L w.toNat ≤ 6) : sp_fi PF L (kup q j v) w p l i = sp_fi PF L q w p l i := by
  unfold sp_fi sp_tv sp_rh
  have h1 : (if l = 0 then L w.toNat - 1 else l - 1) < 6 := by split <;> omega
  simp (disch := omega) only [kup_ne]
theorem sp_hq_up {w p i y v : Int} {j : Nat} (hj : 153 ≤ j ∧ j < 157) (hw0 : 0 ≤ w) (hw : w < 4) (hp0 : 0 ≤ p) (hp : p < 8) : sp_hq (kup q j v) w p i y = kup (sp_hq q w p i y) j v := by
  unfold sp_hq
  simp (disch := omega) only [kup_ne]
  rw [kup_comm (f := q) (a := j) (b := (17 + w).toNat) (by omega), kup_comm (a := j) (b := (1 + p).toNat) (by omega), kup_comm (a := j) (b := (145 + w).toNat) (by omega), kup_comm (a := j) (b := (9 + p).toNat) (by omega), kup_comm (a := j) (b := (29 + 8 * w + p).toNat) (by omega), kup_comm (a := j) (b := (161 + 8 * w + p).toNat) (by omega), kup_comm (a := j) (b := 193) (by omega), kup_comm (a := j) (b := 203) (by omega), kup_comm (a := j) (b := 195) (by omega), kup_comm (a := j) (b := 194) (by omega), kup_comm (a := j) (b := 196) (by omega), kup_comm (a := j) (b := (197 + w).toNat) (by omega)]
theorem sp_hits_up {w l t d v : Int} {j : Nat} (hj : 153 ≤ j ∧ j < 157) (hw0 : 0 ≤ w) (hw : w < 4) (hN : N ≤ 8) (ht : t < 4) (hl : l < 6) (hL : L w.toNat ≤ 6) : sp_hits N PH PF L w l t d (kup q j v) = (kup (sp_hits N PH PF L w l t d q).1 j v, (sp_hits N PH PF L w l t d q).2) := by
  unfold sp_hits
  have key : ∀ n : Nat, n ≤ N.toNat → kit (fun i s => sp_hit PH PF L w l t d (i : Int) s) n (kup q j v, 0) = (kup (kit (fun i s => sp_hit PH PF L w l t d (i : Int) s) n (q, 0)).1 j v, (kit (fun i s => sp_hit PH PF L w l t d (i : Int) s) n (q, 0)).2) := by
    intro n
    induction n with
    | zero => intro _; rfl
    | succ n ih =>
      intro hn
      show sp_hit PH PF L w l t d (n : Int) (kit _ n (kup q j v, 0)) = _
      rw [ih (by omega)]
      show _ = (kup (sp_hit PH PF L w l t d (n : Int) (kit (fun i s => sp_hit PH PF L w l t d (i : Int) s) n (q, 0))).1 j v, (sp_hit PH PF L w l t d (n : Int) (kit (fun i s => sp_hit PH PF L w l t d (i : Int) s) n (q, 0))).2)
      generalize kit (fun i s => sp_hit PH PF L w l t d (i : Int) s) n (q, 0) = s
      unfold sp_hit
      simp only [sp_in_up (PH := PH) (q := s.1) (v := v) (d := d) (j := j) (by omega) hw0 hw (show 0 ≤ (n : Int) by omega) (show (n : Int) < 8 by omega) ht]
      by_cases h : sp_in PH s.1 w (n : Int) t d ≤ 0
      · rw [if_pos h, if_pos h]
      · rw [if_neg h, if_neg h]
        simp only [sp_fi_up (PF := PF) (q := s.1) (v := v) (j := j) (L := L) (by omega) hw0 hw (show 0 ≤ (n : Int) by omega) (show (n : Int) < 8 by omega) hl hL, sp_hq_up hj hw0 hw (show 0 ≤ (n : Int) by omega) (show (n : Int) < 8 by omega)]
        rw [kup_ne (show (17 + w).toNat ≠ j by omega)]
  exact key N.toNat (Nat.le_refl _)
theorem ms_read (hE : EM N M tp PH PF PB μ) (hN : EN N M tp L PH PF PB) (hR : RM μ b q) (hI : IV M tp L q) (hb0 : 0 ≤ b) (hb : b ≤ 145) {w acc : Int} (hw0 : 0 ≤ w) (hw : w < M) (hacc : μ 0 48 = acc) :
    kOk (mm_reads μ b w) (fun μ' => RM μ' b (sp_read N PH PF L acc w q) ∧ frM b μ μ') := by
  have hn1 := hN.1
  have hn2 := hN.2.1
  have hn3 := hN.2.2.1
  have hL := hN.2.2.2.1 w hw0 hw
  have hnx := hI.next hw0 (by omega) hw
  have htp := hI.topic hw0 (by omega) hnx.1 (by omega)
  have hdp := hI.depth hw0 (by omega) hnx.1 (by omega)
  unfold mm_reads sp_read
  rw [w32_s (v := b + 21) (by omega) (by omega), w32_s (v := b + 21 + w) (by omega) (by omega), kchk_t (by omega)]
  simp only [klet]
  rw [kchk_t (by omega), kchk_t (by omega), hR.1.at (j := (b + 21 + w).toNat) (i := 21 + w) (by omega) (by omega) hb0 (by omega)]
  generalize hl : q (21 + w).toNat = l at *
  generalize ht : q (65 + 6 * w + l).toNat = t at *
  have hd : (if acc = 0 then q (89 + 6 * w + l).toNat else 9) = (if acc = 0 then q (89 + 6 * w + l).toNat else 9) := rfl
  generalize hdd : (if acc = 0 then q (89 + 6 * w + l).toNat else 9) = d at hd ⊢
  have hdr : 0 ≤ d ∧ d ≤ 9 := by
    rw [← hdd]
    split <;> omega
  have g1 : μ 12 w.toNat = q (153 + w).toNat := by
    rw [(hR.2.1 w.toNat (by omega)).2.2.1]
    congr 1
    omega
  rw [g1]
  have a1 := hR.putc (c := 12) (j := 153) (by decide) hw0 (by omega) (w32 (q (153 + w).toNat + 1))
  rw [show 153 + w.toNat = (153 + w).toNat by omega] at a1
  have f1 : frM b μ (kst μ 12 (kup (μ 12) w.toNat (w32 (q (153 + w).toNat + 1)))) := frM.rfl.put (by decide)
  have i1 : IV M tp L (kup q (153 + w).toNat (w32 (q (153 + w).toNat + 1))) := hI.hi (by omega)
  have hup := sp_hits_up (q := q) (N := N) (PH := PH) (PF := PF) (L := L) (w := w) (l := l) (t := t) (d := d) (v := w32 (q (153 + w).toNat + 1)) (j := (153 + w).toNat) (by omega) hw0 (by omega) hn1.2 (by omega) (by omega) hL.2
  have ht1 : kup q (153 + w).toNat (w32 (q (153 + w).toNat + 1)) (65 + 6 * w + l).toNat = t := by
    rw [kup_ne (by omega), ht]
  have hd1 : (if acc = 0 then kup q (153 + w).toNat (w32 (q (153 + w).toNat + 1)) (89 + 6 * w + l).toNat else 9) = d := by
    rw [kup_ne (by omega), hdd]
  have hs1 : (sp_hits N PH PF L w l t d q).1 (153 + w).toNat = q (153 + w).toNat := sp_hits_ne (by omega)
  have hm1 : (sp_hits N PH PF L w l t d q).1 (61 + w).toNat = L w.toNat := by
    rw [sp_hits_ne (by omega), hI.many hw0 (by omega)]
  generalize kst μ 12 (kup (μ 12) w.toNat (w32 (q (153 + w).toNat + 1))) = μ1 at a1 f1
  generalize hqq : kup q (153 + w).toNat (w32 (q (153 + w).toNat + 1)) = q1 at a1 i1 ht1 hd1 hup
  refine kOk.then (kOk_for (P := fun r => RM r.1 b (sp_hits N PH PF L w l t d q1).1 ∧ r.2 = (sp_hits N PH PF L w l t d q1).2 ∧ frM b μ r.1) N.toNat (fun i st => st.2.2 = (i : Int) ∧ RM st.1 b (kit (fun i s => sp_hit PH PF L w l t d (i : Int) s) i (q1, 0)).1 ∧ IV M tp L (kit (fun i s => sp_hit PH PF L w l t d (i : Int) s) i (q1, 0)).1 ∧ st.2.1 = (kit (fun i s => sp_hit PH PF L w l t d (i : Int) s) i (q1, 0)).2 ∧ (∀ k : Nat, 61 ≤ k → k < 145 → (kit (fun i s => sp_hit PH PF L w l t d (i : Int) s) i (q1, 0)).1 k = q1 k) ∧ frM b μ st.1) ?_ ?_ (kFuel_lt (by omega)) _ ⟨rfl, a1, i1, rfl, fun _ _ _ => rfl, f1⟩) ?_
  · intro i st hi hI
    obtain ⟨μ2, lk, x⟩ := st
    obtain ⟨rfl, h1, h3, h4, h6, h2⟩ := hI
    have h4 : lk = _ := h4
    subst h4
    refine (ms_hit (hE.fr h2) hN h1 h3 hb0 hb hw0 hw (p := (i : Int)) (by omega) (by omega) hnx.1 hnx.2 (t := t) (d := d) (by rw [h6 _ (by omega) (by omega), ht1]) (by rw [h2.2.1 48 (by decide) (by decide) (by decide) (by decide), hacc, h6 _ (by omega) (by omega), hd1])).mono ?_
    rintro o ⟨μ3, rfl, h7, h8⟩
    refine ⟨by simp, h7, ?_, rfl, fun k hk1 hk2 => ?_, h2.trans h8⟩
    · show IV M tp L (sp_hit PH PF L w l t d (i : Int) (kit (fun i s => sp_hit PH PF L w l t d (i : Int) s) i (q1, 0))).1
      generalize kit (fun i s => sp_hit PH PF L w l t d (i : Int) s) i (q1, 0) = s at h3
      unfold sp_hit
      have hr := sp_in_rng (PH := PH) (w := w) (d := d) h3 (p := (i : Int)) (t := t) (by omega) (by omega) (by omega) (by omega) hdr
      have hf := sp_fi_rng (PF := PF) (L := L) (q := s.1) (w := w) (p := (i : Int)) (l := l) (i := sp_in PH s.1 w (i : Int) t d) (by omega)
      have hp := h3.pence hw0 (by omega)
      split
      · exact h3
      · exact h3.hq hw0 (by omega) (by omega) (by omega) hr ⟨by omega, by omega⟩
    · show (sp_hit PH PF L w l t d (i : Int) (kit (fun i s => sp_hit PH PF L w l t d (i : Int) s) i (q1, 0))).1 k = q1 k
      rw [← h6 k hk1 hk2]
      generalize kit (fun i s => sp_hit PH PF L w l t d (i : Int) s) i (q1, 0) = s
      unfold sp_hit
      split
      · rfl
      · exact sp_hq_ne (by omega) (by omega) (by omega) (by omega) (by omega) (by omega) (by omega) (by omega) (by omega)
  · intro st hI
    obtain ⟨μ2, lk, x⟩ := st
    obtain ⟨rfl, h1, h3, h4, h6, h2⟩ := hI
    have h5 : EM N M tp PH PF PB μ2 := hE.fr h2
    refine ⟨.inr (μ2, lk), ?_, h1, h4, h2⟩
    show mm_reads_l28 μ2 b w l lk ((N.toNat : Nat) : Int) = _
    unfold mm_reads_l28
    rw [h5.2.1, if_pos (by omega)]
  · rintro ⟨μ2, lk⟩ ⟨b1, b2, b3⟩
    rw [hup] at b1 b2
    have h2 : lk = (sp_hits N PH PF L w l t d q).2 := b2
    have h1 : RM μ2 b (kup (sp_hits N PH PF L w l t d q).1 (153 + w).toNat (w32 (q (153 + w).toNat + 1))) := b1
    have h3 : frM b μ μ2 := b3
    clear b1 b2 b3 hup
    show kOk ((mm_lesser μ2 9 lk).bind _) _
    generalize sp_hits N PH PF L w l t d q = s at h1 h2 hs1 hm1
    subst h2
    have hless : mm_lesser μ2 9 s.2 = some (min s.2 9) := by
      unfold mm_lesser
      rw [Int.min_def]
      split <;> rfl
    rw [hless]
    simp only [Option.bind]
    rw [w32_s (v := b + 25) (by omega) (by omega), w32_s (v := b + 25 + w) (by omega) (by omega), kchk_t (by omega), w32_s (v := b + 61) (by omega) (by omega), w32_s (v := b + 61 + w) (by omega) (by omega), kchk_t (by omega)]
    have a2 := h1.put8 (i := 25 + w) (j := (b + 25 + w).toNat) (min s.2 9) (by omega) (by omega) hb0 (by omega)
    have f2 : frM b μ (kst μ2 8 (kup (μ2 8) (b + 25 + w).toNat (min s.2 9))) := h3.put8 (by omega)
    generalize kst μ2 8 (kup (μ2 8) (b + 25 + w).toNat (min s.2 9)) = μ3 at a2 f2
    rw [a2.1.at (j := (b + 61 + w).toNat) (i := 61 + w) (by omega) (by omega) hb0 (by omega), kup_ne (show (61 + w).toNat ≠ (25 + w).toNat by omega), kup_ne (show (61 + w).toNat ≠ (153 + w).toNat by omega), hm1, kchk_t (by omega), kchk_t (by omega)]
    have hrem : krem (w32 (l + 1)) (L w.toNat) = if L w.toNat ≤ w32 (l + 1) then 0 else w32 (l + 1) := by
      rw [w32_s (by omega) (by omega)]
      exact krem_next hnx.1 hnx.2 hL.2
    rw [hrem]
    have a3 := a2.put8 (i := 21 + w) (j := (b + 21 + w).toNat) (if L w.toNat ≤ w32 (l + 1) then 0 else w32 (l + 1)) (by omega) (by omega) hb0 (by omega)
    refine ⟨_, rfl, ?_, f2.put8 (by omega)⟩
    unfold sp_rd2
    rw [hs1]
    rw [kup_comm (f := s.1) (a := (25 + w).toNat) (b := (153 + w).toNat) (by omega)]
    exact a3
theorem ms_poet (hE : EM N M tp PH PF PB μ) (hN : EN N M tp L PH PF PB) (hR : RM μ b q) (hI : IV M tp L q) (hb0 : 0 ≤ b) (hb : b ≤ 145) {w acc : Int} (hw0 : 0 ≤ w) (hw : w < M) (hacc : μ 0 48 = acc) :
    kOk (mm_yearGoes_l12 μ b w) (fun o => ∃ μ', o = .inl (μ', w + 1) ∧ RM μ' b (sp_poet N PH PF PB L acc w q) ∧ frM b μ μ') := by
  have hn1 := hN.1
  have hn2 := hN.2.1
  unfold mm_yearGoes_l12 sp_poet
  rw [hE.2.2.1, if_neg (by omega), kchk_t (by omega)]
  simp only [klet]
  rw [w32_s (v := b + 25) (by omega) (by omega), w32_s (v := b + 25 + w) (by omega) (by omega), kchk_t (by omega)]
  have a1 := hR.putc (c := 17) (j := 197) (by decide) hw0 (by omega) 0
  rw [show 197 + w.toNat = (197 + w).toNat by omega] at a1
  have f1 : frM b μ (kst μ 17 (kup (μ 17) w.toNat 0)) := frM.rfl.put (by decide)
  have hI0 : IV M tp L (kup q (197 + w).toNat 0) := hI.hi (by omega)
  have hq1 : kup q (197 + w).toNat 0 (25 + w).toNat = q (25 + w).toNat := kup_ne (by omega)
  generalize kst μ 17 (kup (μ 17) w.toNat 0) = μ1 at a1 f1
  generalize kup q (197 + w).toNat 0 = q0 at a1 hI0 hq1
  rw [a1.1.at (j := (b + 25 + w).toNat) (i := 25 + w) (by omega) (by omega) hb0 (by omega), hq1]
  by_cases h1 : q (25 + w).toNat ≤ 0
  · rw [if_pos h1, if_pos h1]
    refine (ms_sells (hE.fr f1) hN a1 hI0 hb0 hb hw0 hw).then ?_
    rintro μ2 ⟨h2, h3⟩
    refine (ms_read ((hE.fr f1).fr h3) hN h2 (IV.sells hI0 hw0 (by omega) hn1.2) hb0 hb hw0 hw (acc := acc) (by rw [h3.2.1 48 (by decide) (by decide) (by decide) (by decide), f1.2.1 48 (by decide) (by decide) (by decide) (by decide), hacc])).then ?_
    rintro μ3 ⟨h4, h5⟩
    unfold mm_yearGoes_l12_j81
    simp only [klet]
    rw [w32_s (by omega) (by omega)]
    exact ⟨_, rfl, μ3, rfl, h4, f1.trans (h3.trans h5)⟩
  · rw [if_neg h1, if_neg h1, kchk_t (by omega), kchk_t (by omega), kchk_t (by omega), kchk_t (by omega)]
    unfold mm_yearGoes_l12_j81 sp_sit
    rw [hq1]
    have a2 := a1.put8 (i := 25 + w) (j := (b + 25 + w).toNat) (w32 (q (25 + w).toNat - 1)) (by omega) (by omega) hb0 (by omega)
    have f2 : frM b μ (kst μ1 8 (kup (μ1 8) (b + 25 + w).toNat (w32 (q (25 + w).toNat - 1)))) := f1.put8 (by omega)
    have g1 : μ1 13 w.toNat = q0 (157 + w).toNat := by
      rw [(a1.2.1 w.toNat (by omega)).2.2.2.1]
      congr 1
      omega
    rw [kst_ne (show (13 : Nat) ≠ 8 by decide), g1]
    have a3 := a2.putc (c := 13) (j := 157) (by decide) hw0 (by omega) (w32 (q0 (157 + w).toNat + 1))
    rw [kst_ne (show (13 : Nat) ≠ 8 by decide), show 157 + w.toNat = (157 + w).toNat by omega] at a3
    simp only [klet]
    rw [w32_s (v := w + 1) (by omega) (by omega)]
    exact ⟨_, rfl, _, rfl, a3, f2.put (by decide)⟩
theorem ms_year (hE : EM N M tp PH PF PB μ) (hN : EN N M tp L PH PF PB) (hR : RM μ b q) (hI : IV M tp L q) (hb0 : 0 ≤ b) (hb : b ≤ 145) {acc : Int} (hacc : μ 0 48 = acc) :
    kOk (mm_yearGoes μ b) (fun μ' => RM μ' b (sp_year N M PH PF PB L acc q) ∧ frM b μ μ') := by
  have hn1 := hN.1
  have hn2 := hN.2.1
  unfold mm_yearGoes sp_year
  simp only [klet]
  have a1 := (hR.put0 (i := 49) (j := 195) (by decide) 0).put0 (i := 50) (j := 196) (by decide) 0
  have f1 : frM b μ (kst (kst μ 0 (kup (μ 0) 49 0)) 0 (kup (kst μ 0 (kup (μ 0) 49 0) 0) 50 0)) := (frM.rfl.put0 (by decide)).put0 (by decide)
  have i1 : IV M tp L (kup (kup q 195 0) 196 0) := IV.hi (IV.hi hI (by omega)) (by omega)
  generalize kst (kst μ 0 (kup (μ 0) 49 0)) 0 (kup (kst μ 0 (kup (μ 0) 49 0) 0) 50 0) = μ1 at a1 f1
  generalize kup (kup q 195 0) 196 0 = q1 at a1 i1
  refine kOk.then (kOk_for (P := fun r => RM r b (kit (fun i q => sp_poet N PH PF PB L acc (i : Int) q) M.toNat q1) ∧ frM b μ r) M.toNat (fun i st => st.2 = (i : Int) ∧ RM st.1 b (kit (fun i q => sp_poet N PH PF PB L acc (i : Int) q) i q1) ∧ IV M tp L (kit (fun i q => sp_poet N PH PF PB L acc (i : Int) q) i q1) ∧ frM b μ st.1) ?_ ?_ (kFuel_lt (by omega)) _ ⟨rfl, a1, i1, f1⟩) ?_
  · intro i st hi hI
    obtain ⟨μ2, x⟩ := st
    obtain ⟨rfl, h1, h3, h2⟩ := hI
    refine (ms_poet (hE.fr h2) hN h1 h3 hb0 hb (w := (i : Int)) (by omega) (by omega) (acc := acc) (by rw [h2.2.1 48 (by decide) (by decide) (by decide) (by decide), hacc])).mono ?_
    rintro o ⟨μ3, rfl, h4, h5⟩
    exact ⟨by simp, h4, IV.poet h3 (by omega) (by omega) hn2.2 hn1.2 hN.2.2.1.2 (hN.2.2.2.1 _ (by omega) (by omega)), h2.trans h5⟩
  · intro st hI
    obtain ⟨μ2, x⟩ := st
    obtain ⟨rfl, h1, h3, h2⟩ := hI
    have h5 : EM N M tp PH PF PB μ2 := hE.fr h2
    refine ⟨.inr μ2, ?_, h1, h2⟩
    show mm_yearGoes_l12 μ2 b ((M.toNat : Nat) : Int) = _
    unfold mm_yearGoes_l12
    rw [h5.2.2.1, if_pos (by omega)]
  · rintro μ2 ⟨h1, h2⟩
    generalize kit (fun i q => sp_poet N PH PF PB L acc (i : Int) q) M.toNat q1 = q2 at h1
    rw [w32_s (v := b + 0) (by omega) (by omega), kchk_t (by omega), kchk_t (by omega), h1.1.at (j := (b + 0).toNat) (i := 0) (by omega) (by omega) hb0 rfl]
    have a2 := h1.put8 (i := 0) (j := (b + 0).toNat) (w32 (q2 0 + 1)) (by omega) (by omega) hb0 rfl
    refine ⟨_, rfl, a2.congr (fun k hk => ?_), h2.put8 (by omega)⟩
    unfold sp_end
    rw [kup_ne (by omega), kup_ne (by omega)]
    rfl
end MY

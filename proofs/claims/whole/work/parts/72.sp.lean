/-! THE STATE: a row of numbers by the reference's places (0 to 144), counters behind it: paid 145, earned 149, read 153, sat 157, into 161, all inches 193, deepest 194, hit this year 195 (bits), how often 196, by whom 197 (bits), injured 201, quiet 202, hits 203 -/
def vC (σ : kM) (W : Nat) (k : Nat) : Int :=
  if k < 17 then σ W k else if k < 29 then σ W (k + 32) else if k < 61 then σ W (k - 12) else if k < 65 then σ 4 (k - 61) else if k < 89 then σ 6 (k - 65) else if k < 113 then σ W (k - 28) else σ 5 (k - 113)
def rok (N M tp : Int) (L : Nat → Int) (k : Nat) : Prop :=
  (65 ≤ k → k < 89 → (((k - 65) / 6 : Nat) : Int) < M ∧ (((k - 65) % 6 : Nat) : Int) < L ((k - 65) / 6)) ∧ (113 ≤ k → (((k - 113) / 4 : Nat) : Int) < N ∧ (((k - 113) % 4 : Nat) : Int) < tp)
def RCr (N M tp : Int) (L : Nat → Int) (σ : kM) (W : Nat) (q : Nat → Int) : Prop := ∀ k : Nat, k < 145 → rok N M tp L k → vC σ W k = q k
def RT (σ : kM) (T A B C D : Nat) (q : Nat → Int) : Prop :=
  (∀ k : Nat, k < 4 → σ A k = q (145 + k) ∧ σ B k = q (149 + k) ∧ σ C k = q (153 + k)) ∧ (∀ k : Nat, k < 32 → σ D k = q (161 + k)) ∧ σ T 4 = q 193 ∧ σ T 8 = q 194 ∧ σ T 6 = q 195 ∧ σ T 7 = q 201 ∧ σ T 9 = q 202 ∧ σ T 5 = q 203
section RCS
variable {N M tp : Int} {L : Nat → Int} {σ σ' : kM} {W : Nat} {q : Nat → Int}
theorem RCr.kept (h : RCr N M tp L σ W q) (hW : σ' W = σ W) (h4 : σ' 4 = σ 4) (h5 : σ' 5 = σ 5) (h6 : σ' 6 = σ 6) : RCr N M tp L σ' W q := by
  intro k hk ho
  rw [← h k hk ho]
  unfold vC
  rw [hW, h4, h5, h6]
theorem RCr.other (h : RCr N M tp L σ W q) {j : Nat} {v : Int} (hj : 145 ≤ j) : RCr N M tp L σ W (kup q j v) := by
  intro k hk ho
  rw [kup_ne (by omega)]
  exact h k hk ho
theorem RCr.set (h : RCr N M tp L σ W q) (hW : 6 < W) {i j : Nat} (v : Int) (hij : (i < 17 ∧ j = i) ∨ (17 ≤ i ∧ i < 29 ∧ j = i + 32) ∨ (29 ≤ i ∧ i < 61 ∧ j = i - 12) ∨ (89 ≤ i ∧ i < 113 ∧ j = i - 28)) : RCr N M tp L (kst σ W (kup (σ W) j v)) W (kup q i v) := by
  intro k hk ho
  have h1 := h k hk ho
  unfold vC at *
  rw [kst_eq, kst_ne (show (4 : Nat) ≠ W by omega), kst_ne (show (5 : Nat) ≠ W by omega), kst_ne (show (6 : Nat) ≠ W by omega)]
  simp only [kup_ap]
  by_cases e : k = i
  · rw [if_pos e]
    subst e
    rcases hij with ⟨a, b⟩ | ⟨a, a', b⟩ | ⟨a, a', b⟩ | ⟨a, a', b⟩
    · rw [if_pos a, if_pos b.symm]
    · rw [if_neg (by omega), if_pos a', if_pos b.symm]
    · rw [if_neg (by omega), if_neg (by omega), if_pos a', if_pos b.symm]
    · rw [if_neg (by omega), if_neg (by omega), if_neg (by omega), if_neg (by omega), if_neg (by omega), if_pos a', if_pos b.symm]
  · rw [if_neg e]
    by_cases c1 : k < 17
    · rw [if_pos c1] at h1 ⊢
      rw [if_neg (by omega)]
      exact h1
    rw [if_neg c1] at h1 ⊢
    by_cases c2 : k < 29
    · rw [if_pos c2] at h1 ⊢
      rw [if_neg (by omega)]
      exact h1
    rw [if_neg c2] at h1 ⊢
    by_cases c3 : k < 61
    · rw [if_pos c3] at h1 ⊢
      rw [if_neg (by omega)]
      exact h1
    rw [if_neg c3] at h1 ⊢
    by_cases c4 : k < 65
    · rw [if_pos c4] at h1 ⊢
      exact h1
    rw [if_neg c4] at h1 ⊢
    by_cases c5 : k < 89
    · rw [if_pos c5] at h1 ⊢
      exact h1
    rw [if_neg c5] at h1 ⊢
    by_cases c6 : k < 113
    · rw [if_pos c6] at h1 ⊢
      rw [if_neg (by omega)]
      exact h1
    rw [if_neg c6] at h1 ⊢
    exact h1
theorem RCr.lo (h : RCr N M tp L σ W q) {i : Int} (h0 : 0 ≤ i) (h1 : i < 17) : σ W i.toNat = q i.toNat := by
  have h2 := h i.toNat (by omega) ⟨fun _ _ => by omega, fun _ => by omega⟩
  unfold vC at h2
  rw [if_pos (by omega)] at h2
  exact h2
theorem RCr.mid (h : RCr N M tp L σ W q) {i : Int} (h0 : 17 ≤ i) (h1 : i < 29) : σ W (i + 32).toNat = q i.toNat := by
  have h2 := h i.toNat (by omega) ⟨fun _ _ => by omega, fun _ => by omega⟩
  unfold vC at h2
  rw [if_neg (by omega), if_pos (by omega)] at h2
  rw [← h2]
  congr 1
  omega
theorem RCr.year (h : RCr N M tp L σ W q) : σ W 0 = q 0 := h.lo (i := 0) (by omega) (by omega)
theorem RCr.money (h : RCr N M tp L σ W q) {p : Int} (h0 : 0 ≤ p) (h1 : p < 8) : σ W (1 + p).toNat = q (1 + p).toNat := h.lo (by omega) (by omega)
theorem RCr.scars (h : RCr N M tp L σ W q) {p : Int} (h0 : 0 ≤ p) (h1 : p < 8) : σ W (9 + p).toNat = q (9 + p).toNat := h.lo (by omega) (by omega)
theorem RCr.pence (h : RCr N M tp L σ W q) {w : Int} (h0 : 0 ≤ w) (h1 : w < 4) : σ W (49 + w).toNat = q (17 + w).toNat := by
  rw [← h.mid (i := 17 + w) (by omega) (by omega)]
  congr 1
  omega
theorem RCr.next (h : RCr N M tp L σ W q) {w : Int} (h0 : 0 ≤ w) (h1 : w < 4) : σ W (53 + w).toNat = q (21 + w).toNat := by
  rw [← h.mid (i := 21 + w) (by omega) (by omega)]
  congr 1
  omega
theorem RCr.sits (h : RCr N M tp L σ W q) {w : Int} (h0 : 0 ≤ w) (h1 : w < 4) : σ W (57 + w).toNat = q (25 + w).toNat := by
  rw [← h.mid (i := 25 + w) (by omega) (by omega)]
  congr 1
  omega
theorem RCr.hits (h : RCr N M tp L σ W q) {w p : Int} (h0 : 0 ≤ w) (h1 : w < 4) (h2 : 0 ≤ p) (h3 : p < 8) : σ W (17 + w * 8 + p).toNat = q (29 + 8 * w + p).toNat := by
  have h2 := h (29 + 8 * w + p).toNat (by omega) ⟨fun _ _ => by omega, fun _ => by omega⟩
  unfold vC at h2
  rw [if_neg (by omega), if_neg (by omega), if_pos (by omega)] at h2
  rw [← h2]
  congr 1
  omega
theorem RCr.depth (h : RCr N M tp L σ W q) {w l : Int} (h0 : 0 ≤ w) (h1 : w < 4) (h2 : 0 ≤ l) (h3 : l < 6) : σ W (61 + w * 6 + l).toNat = q (89 + 6 * w + l).toNat := by
  have h2 := h (89 + 6 * w + l).toNat (by omega) ⟨fun _ _ => by omega, fun _ => by omega⟩
  unfold vC at h2
  rw [if_neg (by omega), if_neg (by omega), if_neg (by omega), if_neg (by omega), if_neg (by omega), if_pos (by omega)] at h2
  rw [← h2]
  congr 1
  omega
theorem RCr.many (h : RCr N M tp L σ W q) {w : Int} (h0 : 0 ≤ w) (h1 : w < 4) : σ 4 w.toNat = q (61 + w).toNat := by
  have h2 := h (61 + w).toNat (by omega) ⟨fun _ _ => by omega, fun _ => by omega⟩
  unfold vC at h2
  rw [if_neg (by omega), if_neg (by omega), if_neg (by omega), if_pos (by omega)] at h2
  rw [← h2]
  congr 1
  omega
theorem RCr.topic (h : RCr N M tp L σ W q) {w l : Int} (h0 : 0 ≤ w) (h1 : w < M) (hM : M ≤ 4) (h2 : 0 ≤ l) (h3 : l < L w.toNat) (h4 : L w.toNat ≤ 6) : σ 6 (w * 6 + l).toNat = q (65 + 6 * w + l).toNat := by
  have e1 : ((65 + 6 * w + l).toNat - 65) / 6 = w.toNat := by omega
  have e2 : ((65 + 6 * w + l).toNat - 65) % 6 = l.toNat := by omega
  have h5 := h (65 + 6 * w + l).toNat (by omega) ⟨fun _ _ => by rw [e1, e2]; omega, fun _ => by omega⟩
  unfold vC at h5
  rw [if_neg (by omega), if_neg (by omega), if_neg (by omega), if_neg (by omega), if_pos (by omega)] at h5
  rw [← h5]
  congr 1
  omega
theorem RCr.truth (h : RCr N M tp L σ W q) {p t : Int} (h0 : 0 ≤ p) (h1 : p < N) (hN : N ≤ 8) (h2 : 0 ≤ t) (h3 : t < tp) (h4 : tp ≤ 4) : σ 5 (p * 4 + t).toNat = q (113 + 4 * p + t).toNat := by
  have e1 : ((113 + 4 * p + t).toNat - 113) / 4 = p.toNat := by omega
  have e2 : ((113 + 4 * p + t).toNat - 113) % 4 = t.toNat := by omega
  have h5 := h (113 + 4 * p + t).toNat (by omega) ⟨fun _ _ => by omega, fun _ => by rw [e1, e2]; omega⟩
  unfold vC at h5
  rw [if_neg (by omega), if_neg (by omega), if_neg (by omega), if_neg (by omega), if_neg (by omega), if_neg (by omega)] at h5
  rw [← h5]
  congr 1
  omega
end RCS
/-- what holds of a state's law: people, poets, topics, lines, rules -/
def rv_gd (P : List Int) (ok : Int → Prop) : Prop := P = [] ∨ rv_ok P 0 ∧ ∀ c ∈ P, -9 < c → c < 0 → ok c
def EN (N M tp : Int) (L : Nat → Int) (PH PF PB : List Int) : Prop :=
  (0 ≤ N ∧ N ≤ 8) ∧ (0 ≤ M ∧ M ≤ 4) ∧ (2 ≤ tp ∧ tp ≤ 4) ∧ (∀ w : Int, 0 ≤ w → w < M → 1 ≤ L w.toNat ∧ L w.toNat ≤ 6) ∧ rv_gd PH (fun c => -6 ≤ c) ∧ rv_gd PF (fun c => -4 ≤ c ∨ c ≤ -7) ∧ rv_gd PB (fun c => -4 ≤ c)
def EC (N M tp : Int) (L : Nat → Int) (PH PF PB : List Int) (σ : kM) : Prop :=
  σ 3 0 = tp ∧ σ 3 1 = N ∧ σ 3 2 = M ∧ (∀ w : Int, 0 ≤ w → w < M → σ 4 w.toNat = L w.toNat) ∧ rv_pC σ 0 PH ∧ rv_pC σ 1 PF ∧ rv_pC σ 2 PB
def EM (N M tp : Int) (PH PF PB : List Int) (μ : kM) : Prop :=
  μ 0 1 = tp ∧ μ 0 2 = N ∧ μ 0 3 = M ∧ rv_pM μ (μ 0 4) PH ∧ rv_pM μ (μ 0 5) PF ∧ rv_pM μ (μ 0 6) PB
theorem EC.kept {N M tp : Int} {L : Nat → Int} {PH PF PB : List Int} {σ σ' : kM} (h : EC N M tp L PH PF PB σ) (h3 : σ' 3 = σ 3) (h4 : σ' 4 = σ 4) (h8 : σ' 8 = σ 8) (h9 : σ' 9 = σ 9) (h10 : σ' 10 = σ 10) : EC N M tp L PH PF PB σ' := by
  obtain ⟨a, b, c, d, e, f, g⟩ := h
  exact ⟨by rw [h3]; exact a, by rw [h3]; exact b, by rw [h3]; exact c, by rw [h4]; exact d, e.kept h8 h9 h10, f.kept h8 h9 h10, g.kept h8 h9 h10⟩
theorem EM.kept {N M tp : Int} {PH PF PB : List Int} {μ μ' : kM} (h : EM N M tp PH PF PB μ) (h0 : ∀ j : Nat, j < 7 → 0 < j → μ' 0 j = μ 0 j) (h1 : μ' 1 = μ 1) : EM N M tp PH PF PB μ' := by
  obtain ⟨a, b, c, e, f, g⟩ := h
  refine ⟨by rw [h0 1 (by omega) (by omega)]; exact a, by rw [h0 2 (by omega) (by omega)]; exact b, by rw [h0 3 (by omega) (by omega)]; exact c, ?_, ?_, ?_⟩
  · rw [h0 4 (by omega) (by omega)]
    exact e.kept h1
  · rw [h0 5 (by omega) (by omega)]
    exact f.kept h1
  · rw [h0 6 (by omega) (by omega)]
    exact g.kept h1
/-- what values are, ahead of a rule -/
def sp_tv (q : Nat → Int) (w p v d t i y : Int) : Nat → Int := fun k =>
  if k = 0 then q (9 + p).toNat else if k = 1 then v else if k = 2 then q (29 + 8 * w + p).toNat else if k = 3 then q 0 else if k = 4 then d else if k = 5 then t else if k = 6 then i else y
def rv_cl (m v : Int) : Int := if 0 ≤ v then (if v ≤ m then v else m) else 0
def sp_in (PH : List Int) (q : Nat → Int) (w p t d : Int) : Int :=
  if PH = [] then min d (q (113 + 4 * p + t).toNat) else rv_cl 9 (rv_ev PH (sp_tv q w p (q (17 + w).toNat) d (q (113 + 4 * p + t).toNat) 0 0))
def sp_rh (L : Nat → Int) (q : Nat → Int) (w l : Int) : Int :=
  if q (65 + 6 * w + l).toNat = q (65 + 6 * w + (if l = 0 then L w.toNat - 1 else l - 1)).toNat then 1 else 0
def sp_fi (PF : List Int) (L : Nat → Int) (q : Nat → Int) (w p l i : Int) : Int :=
  if PF = [] then i else rv_cl 20 (rv_ev PF (sp_tv q w p (q (17 + w).toNat) 0 0 i (sp_rh L q w l)))
def sp_bv (PB : List Int) (q : Nat → Int) (w p : Int) : Int :=
  if PB = [] then 1 else rv_ev PB (sp_tv q w p (q (1 + p).toNat) 0 0 0 0)
def sp_s2 (q : Nat → Int) (w : Int) : Nat → Int :=
  if 999 ≤ q (17 + w).toNat then q else kup (kup q (17 + w).toNat (w32 (q (17 + w).toNat + 1))) (149 + w).toNat (w32 (q (149 + w).toNat + 1))
def sp_sell (PB : List Int) (w : Int) (p : Int) (q : Nat → Int) : Nat → Int :=
  if q (1 + p).toNat ≤ 0 then q else if sp_bv PB q w p ≤ 0 then q else sp_s2 (kup q (1 + p).toNat (w32 (q (1 + p).toNat - 1))) w
def sp_sells (N : Int) (PB : List Int) (w : Int) (q : Nat → Int) : Nat → Int := kit (fun i q => sp_sell PB w (i : Int) q) N.toNat q
def sp_hq (q : Nat → Int) (w p i y : Int) : Nat → Int :=
  kup (kup (kup (kup (kup (kup (kup (kup (kup (kup (kup (kup q (17 + w).toNat (w32 (q (17 + w).toNat - y))) (1 + p).toNat (min (w32 (q (1 + p).toNat + y)) 999)) (145 + w).toNat (w32 (q (145 + w).toNat + y)))
    (9 + p).toNat (min (w32 (q (9 + p).toNat + i)) 99)) (29 + 8 * w + p).toNat (w32 (q (29 + 8 * w + p).toNat + 1))) (161 + 8 * w + p).toNat (w32 (q (161 + 8 * w + p).toNat + i)))
    193 (w32 (q 193 + i))) 203 (w32 (q 203 + 1))) 195 (kor (q 195) (kshl 1 p))) 194 (max (q 194) i)) 196 (w32 (q 196 + 1))) (197 + w).toNat (kor (q (197 + w).toNat) (kshl 1 p))
def sp_hit (PH PF : List Int) (L : Nat → Int) (w l t d : Int) (p : Int) (s : (Nat → Int) × Int) : (Nat → Int) × Int :=
  if sp_in PH s.1 w p t d ≤ 0 then s else
    (sp_hq s.1 w p (sp_in PH s.1 w p t d) (min (sp_fi PF L s.1 w p l (sp_in PH s.1 w p t d)) (s.1 (17 + w).toNat)),
     max s.2 (w32 (sp_fi PF L s.1 w p l (sp_in PH s.1 w p t d) - min (sp_fi PF L s.1 w p l (sp_in PH s.1 w p t d)) (s.1 (17 + w).toNat))))
def sp_hits (N : Int) (PH PF : List Int) (L : Nat → Int) (w l t d : Int) (q : Nat → Int) : (Nat → Int) × Int := kit (fun i s => sp_hit PH PF L w l t d (i : Int) s) N.toNat (q, 0)
def sp_rd2 (L : Nat → Int) (w l : Int) (s : (Nat → Int) × Int) : Nat → Int :=
  kup (kup (kup s.1 (25 + w).toNat (min s.2 9)) (153 + w).toNat (w32 (s.1 (153 + w).toNat + 1))) (21 + w).toNat (if L w.toNat ≤ w32 (l + 1) then 0 else w32 (l + 1))
def sp_read (N : Int) (PH PF : List Int) (L : Nat → Int) (acc : Int) (w : Int) (q : Nat → Int) : Nat → Int :=
  sp_rd2 L w (q (21 + w).toNat) (sp_hits N PH PF L w (q (21 + w).toNat) (q (65 + 6 * w + q (21 + w).toNat).toNat) (if acc = 0 then q (89 + 6 * w + q (21 + w).toNat).toNat else 9) q)
def sp_sit (w : Int) (q : Nat → Int) : Nat → Int := kup (kup q (25 + w).toNat (w32 (q (25 + w).toNat - 1))) (157 + w).toNat (w32 (q (157 + w).toNat + 1))
def sp_poet (N : Int) (PH PF PB : List Int) (L : Nat → Int) (acc : Int) (w : Int) (q : Nat → Int) : Nat → Int :=
  if q (25 + w).toNat ≤ 0 then sp_read N PH PF L acc w (sp_sells N PB w (kup q (197 + w).toNat 0)) else sp_sit w (kup q (197 + w).toNat 0)
def sp_end (q : Nat → Int) : Nat → Int :=
  kup (kup (kup q 0 (w32 (q 0 + 1))) 201 (kor (q 201) (q 195))) 202 (w32 (q 202 + (if q 195 = 0 then 1 else 0)))
def sp_year (N M : Int) (PH PF PB : List Int) (L : Nat → Int) (acc : Int) (q : Nat → Int) : Nat → Int :=
  sp_end (kit (fun i q => sp_poet N PH PF PB L acc (i : Int) q) M.toNat (kup (kup q 195 0) 196 0))

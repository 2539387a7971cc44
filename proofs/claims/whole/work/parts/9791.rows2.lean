/-! CALLS: listen, rows laid out -/
section LISTEN2
variable {N M tp : Int} {L : Nat → Int} {PH PF PB : List Int} {σ σ' σb μ μ' : kM} {q q' : Nat → Int} {f n : Int} {F : Nat → Int} {p t : Nat}
theorem m_lay {w : Nat} {x y : Int} (hN2 : μ 0 2 = N) (hn1 : 0 ≤ N ∧ N ≤ 8) (hw : w < 288) : ∃ μ', kloop (fun st => mm_listen_l45 st.1 x (w : Int) y st.2) kFuel (μ, 0) = some μ' ∧ (∀ c : Nat, c ≠ 21 → μ' c = μ c) ∧ (∀ j : Nat, μ' 21 j = if 8 * w ≤ j ∧ j < 8 * w + N.toNat then μ 20 (j - 8 * w) else μ 21 j) := by
  obtain ⟨μ3, u1, u2, u3⟩ := kl_M (body := fun st => mm_listen_l45 st.1 x (w : Int) y st.2) (fun k μ3 => (∀ c : Nat, c ≠ 21 → μ3 c = μ c) ∧ (∀ j : Nat, μ3 21 j = if 8 * w ≤ j ∧ j < 8 * w + k then μ 20 (j - 8 * w) else μ 21 j)) (fun k => (k : Int)) N.toNat (by omega) (fun k μ3 hk hs3 => by
    have ewk := kw_inc (i := k) (by omega)
    have x1 : w32 (w32 (8 * (w : Int)) + (k : Int)) = ((8 * w + k : Nat) : Int) := by
      rw [w32_s (v := 8 * (w : Int)) (by omega) (by omega), w32_s (by omega) (by omega)]
      omega
    have x2 : ¬ N ≤ (k : Int) := by omega
    have x3 : 0 ≤ (k : Int) ∧ (k : Int) < 8 := by omega
    have x4 : 0 ≤ ((8 * w + k : Nat) : Int) ∧ ((8 * w + k : Nat) : Int) < 2304 := by omega
    obtain ⟨s1, s2⟩ := hs3
    have s1 : ∀ c : Nat, c ≠ 21 → μ3 c = μ c := s1
    refine ⟨kst μ3 21 (kup (μ3 21) (8 * w + k) (μ3 20 k)), ?_, fun c hc => by rw [kst_ne hc]; exact s1 c hc, fun j => ?_⟩
    · show mm_listen_l45 μ3 x (w : Int) y (k : Int) = _
      unfold mm_listen_l45
      rw [s1 0 (by decide), hN2, if_neg x2, kchk_t x3, x1, kchk_t x4, klet_eq, klet_eq, ewk, Int.toNat_natCast, Int.toNat_natCast]
    · rw [kst_eq]
      by_cases e : j = 8 * w + k
      · subst e
        rw [kup_eq, if_pos (by omega), s1 20 (by decide), show 8 * w + k - 8 * w = k by omega]
      · rw [kup_ne e, s2 j]
        by_cases c : 8 * w ≤ j ∧ j < 8 * w + k
        · rw [if_pos c, if_pos (by omega)]
        · rw [if_neg c, if_neg (by omega)]) (fun μ3 hs3 => by
    refine ⟨μ3, ?_, hs3⟩
    have x2 : N ≤ ((N.toNat : Nat) : Int) := by omega
    show mm_listen_l45 μ3 x (w : Int) y ((N.toNat : Nat) : Int) = _
    unfold mm_listen_l45
    rw [hs3.1 0 (by decide), hN2, if_pos x2]) (σ := μ) ⟨fun _ _ => rfl, fun j => by rw [if_neg (by omega)]⟩ (b0 := 0) rfl
  exact ⟨μ3, u1, u2, u3⟩
/-- of one person, with so many rows -/
def LPr (G : Nat → Bool) (sc : Nat → Nat → Int) (p g w : Nat) (r : Nat → Int) : Prop := (∀ v : Int, (∃ a : Nat, a < w ∧ r (8 * a + p) = v) ↔ sN G sc p g v) ∧ eC (fun a => r (8 * a + p)) w = dC G sc p g
theorem LPr_f {G : Nat → Bool} {sc : Nat → Nat → Int} {g w : Nat} {r : Nat → Int} (h : LPr G sc p g w r) (gf : G g = false) : LPr G sc p (g + 1) w r := by
  refine ⟨fun v => (h.1 v).trans ?_, ?_⟩
  · rw [sN_s]
    exact ⟨Or.inl, fun hh => hh.elim id (fun h2 => absurd h2.1 (by rw [gf]; decide))⟩
  · rw [dC_0 (fun hh => absurd hh.1 (by rw [gf]; decide))]
    exact h.2
theorem LPr_t {G : Nat → Bool} {sc : Nat → Nat → Int} {g w : Nat} {r r' : Nat → Int} (h : LPr G sc p g w r) (gt : G g = true) (hold : ∀ a : Nat, a < w → r' (8 * a + p) = r (8 * a + p)) (hnew : r' (8 * w + p) = sc g p) : LPr G sc p (g + 1) (w + 1) r' := by
  obtain ⟨l1, l2⟩ := h
  have ll : ∀ v : Int, (∃ a : Nat, a < w ∧ r' (8 * a + p) = v) ↔ sN G sc p g v := fun v => by
    rw [← l1 v]
    constructor
    · rintro ⟨a, a1, a2⟩
      exact ⟨a, a1, by rw [← hold a a1]; exact a2⟩
    · rintro ⟨a, a1, a2⟩
      exact ⟨a, a1, by rw [hold a a1]; exact a2⟩
  refine ⟨fun v => ?_, ?_⟩
  · rw [sN_s, ← ll v]
    constructor
    · rintro ⟨a, a1, a2⟩
      by_cases e : a = w
      · subst e
        exact Or.inr ⟨gt, by rw [← hnew]; exact a2⟩
      · exact Or.inl ⟨a, Nat.lt_of_le_of_ne (Nat.le_of_lt_succ a1) e, a2⟩
    · rintro (⟨a, a1, a2⟩ | ⟨-, a2⟩)
      · exact ⟨a, Nat.lt_succ_of_lt a1, a2⟩
      · exact ⟨w, Nat.lt_succ_self w, by rw [hnew]; exact a2⟩
  · have hec : eC (fun a => r' (8 * a + p)) w = dC G sc p g := by
      rw [← l2]
      exact eC_congr w (fun a ha => hold a ha)
    by_cases c : sN G sc p g (sc g p)
    · rw [dC_0 (fun hh => hh.2 c), eC_0 (fun hh => ?_), hec]
      obtain ⟨a, a1, a2⟩ := (ll (sc g p)).mpr c
      exact hh a a1 (hnew.trans a2.symm)
    · rw [dC_1 gt c, eC_1 (fun b hb hh => c ((ll (sc g p)).mp ⟨b, hb, hh.symm.trans hnew⟩)), hec]
/-- how many are found, as a whole number -/
def tC (G : Nat → Bool) : Nat → Nat
  | 0 => 0
  | i + 1 => if G i = true then tC G i + 1 else tC G i
theorem tC_t {G : Nat → Bool} {i : Nat} (h : G i = true) : tC G (i + 1) = tC G i + 1 := by
  show (if G i = true then _ else _) = _
  rw [if_pos h]
theorem tC_f {G : Nat → Bool} {i : Nat} (h : G i = false) : tC G (i + 1) = tC G i := by
  show (if G i = true then _ else _) = _
  rw [if_neg (by rw [h]; decide)]
theorem tC_tF (G : Nat → Bool) (i : Nat) : (tF G i).1 = (tC G i : Int) := by
  induction i with
  | zero => rfl
  | succ i ih =>
    cases e : G i with
    | true =>
      rw [tF_t e, tC_t e]
      show (tF G i).1 + 1 = _
      rw [ih]
      rfl
    | false => rw [tF_f e, tC_f e, ih]
theorem tC_mono {G : Nat → Bool} {g : Nat} (k : Nat) : tC G g ≤ tC G (g + k) := by
  have h := (tF_mono (G := G) (g := g) k).1
  rw [tC_tF, tC_tF] at h
  exact Int.ofNat_le.mp h
theorem tC_288 (hE : EN N M tp L PH PF PB) (hI : IV M tp L q) : tC (tB N M tp PH PF PB L f F q) (100 * N.toNat) ≤ 288 := by
  have h := tF_288 (f := f) (F := F) hE hI
  rw [tC_tF] at h
  exact Int.ofNat_le.mp h
theorem tC_lt {G : Nat → Bool} {i m : Nat} (hi : i < m) (gt : G i = true) (h : tC G m ≤ 288) : tC G i < 288 := by
  have h1 := tC_mono (G := G) (g := i + 1) (m - (i + 1))
  rw [Nat.add_sub_cancel' hi, tC_t gt] at h1
  exact Nat.lt_of_lt_of_le h1 h
theorem m_rowStep (h : MN N M tp L PH PF PB μ q) (hf : μ 0 53 = f) (hf8 : 0 ≤ f ∧ f ≤ 8) (hF : μ 19 = F) {x : Int} {i w : Nat} (hi : i < 100 * N.toNat) (hw : tB N M tp PH PF PB L f F q i = true → w < 288) (hL : ∀ p : Nat, (p : Int) < N → LPr (tB N M tp PH PF PB L f F q) (scG N M PH PF PB L q) p i w (μ 21)) :
    ∃ μ' w', mm_listen_l20 μ x (w : Int) (i : Int) = some (Sum.inl (μ', ((w' : Nat) : Int), ((i + 1 : Nat) : Int))) ∧ kpT μ μ' ∧ w' = (if tB N M tp PH PF PB L f F q i = true then w + 1 else w) ∧ ∀ p : Nat, (p : Int) < N → LPr (tB N M tp PH PF PB L f F q) (scG N M PH PF PB L q) p (i + 1) w' (μ' 21) := by
  have hn1 := h.1.1
  have e100 : w32 (100 * N) = ((100 * N.toNat : Nat) : Int) := by
    rw [w32_s (by omega) (by omega)]
    omega
  have ew := kw_inc (i := i) (by omega)
  have c0 : ¬ ((100 * N.toNat : Nat) : Int) ≤ (i : Int) := by omega
  have hg : (i : Int) < 100 * N := by omega
  obtain ⟨r, μ2, t1, t2, t3⟩ := m_isGuess h hf hf8 hF hg
  unfold mm_listen_l20 mm_listen_l20_j82
  rw [h.2.1.2.1, e100, if_neg c0, kbind_eq t1]
  dsimp only
  rw [klet_eq, ew]
  rcases t3 with ⟨rfl, t4⟩ | ⟨rfl, t4, t5⟩
  · have gf := tB_f t4
    rw [if_pos rfl, if_neg (by rw [gf]; decide)]
    refine ⟨μ2, w, rfl, t2.1, rfl, fun p hp => ?_⟩
    rw [t2.2]
    exact LPr_f (hL p hp) gf
  · have gt := tB_t t4
    have hw2 := hw gt
    have ew2 := kw_inc (i := w) (by omega)
    obtain ⟨μ3, u1, u2, u3⟩ := m_lay (w := w) (x := x) (y := (i : Int)) (h.kp t2.1.1).2.1.2.1 hn1 hw2
    rw [if_neg (by decide), kbind_eq u1, klet_eq, ew2, klet_eq, if_pos gt]
    have hk3 : kpT μ2 μ3 := ⟨⟨fun c hc => u2 c (by omega), fun j _ => by rw [u2 0 (by decide)], fun k _ => by rw [u2 8 (by decide)]⟩, by rw [u2 0 (by decide)]⟩
    refine ⟨μ3, w + 1, rfl, t2.1.trans hk3, rfl, fun p hp => ?_⟩
    have p8 : p < 8 := by omega
    have pN : p < N.toNat := by omega
    refine LPr_t (hL p hp) gt (fun a ha => ?_) ?_
    · rw [u3, if_neg (by omega), t2.2]
    · rw [u3, if_pos (by omega), show 8 * w + p - 8 * w = p by omega]
      exact t5 p hp
theorem m_rows (h : MN N M tp L PH PF PB μ q) (hf : μ 0 53 = f) (hf8 : 0 ≤ f ∧ f ≤ 8) (hF : μ 19 = F) {x : Int} : ∃ μ', kloop (fun st => mm_listen_l20 st.1 x st.2.1 st.2.2) kFuel (μ, 0, 0) = some (μ', (tC (tB N M tp PH PF PB L f F q) (100 * N.toNat) : Int)) ∧ kpT μ μ' ∧ ∀ p : Nat, (p : Int) < N → LPr (tB N M tp PH PF PB L f F q) (scG N M PH PF PB L q) p (100 * N.toNat) (tC (tB N M tp PH PF PB L f F q) (100 * N.toNat)) (μ' 21) := by
  have hn1 := h.1.1
  have hm : 100 * N.toNat < 100000000 := by omega
  have e100 : w32 (100 * N) = ((100 * N.toNat : Nat) : Int) := by
    rw [w32_s (by omega) (by omega)]
    omega
  generalize hmm : 100 * N.toNat = m at *
  obtain ⟨μ1, b1, b2, b3⟩ := kl_G (body := fun st => mm_listen_l20 st.1 x st.2.1 st.2.2) (fun g μ1 => kpT μ μ1 ∧ ∀ p : Nat, (p : Int) < N → LPr (tB N M tp PH PF PB L f F q) (scG N M PH PF PB L q) p g (tC (tB N M tp PH PF PB L f F q) g) (μ1 21)) (fun i => ((tC (tB N M tp PH PF PB L f F q) i : Int), (i : Int))) m ((tC (tB N M tp PH PF PB L f F q) m : Int)) hm (fun i μ1 hi hs => by
    obtain ⟨hs1, hs2⟩ := hs
    have hs1 : kpT μ μ1 := hs1
    obtain ⟨μ2, w', t1, t2, t3, t4⟩ := m_rowStep (h.kp hs1.1) ((hs1.1.2.1 53 (by decide)).trans hf) hf8 ((hs1.1.1 19 (by decide)).trans hF) (x := x) (i := i) (by rw [hmm]; exact hi) (fun gt => tC_lt (m := m) hi gt (by rw [← hmm]; exact tC_288 h.1 h.2.2.2.1)) hs2
    have e : tC (tB N M tp PH PF PB L f F q) (i + 1) = w' := t3.symm
    rw [← e] at t1 t4
    exact ⟨μ2, t1, hs1.trans t2, t4⟩) (fun μ1 hs => by
    refine ⟨μ1, ?_, hs⟩
    have hMN1 : MN N M tp L PH PF PB μ1 q := h.kp hs.1.1
    show mm_listen_l20 μ1 x (tC (tB N M tp PH PF PB L f F q) m : Int) (m : Int) = _
    unfold mm_listen_l20
    rw [hMN1.2.1.2.1, e100, if_pos (Int.le_refl _)]) (σ := μ) ⟨⟨kpM.rfl, rfl⟩, fun p hp => ⟨fun v => ⟨fun ⟨a, a1, _⟩ => absurd a1 (Nat.not_lt_zero _), fun ⟨g', g1, _⟩ => absurd g1 (Nat.not_lt_zero _)⟩, rfl⟩⟩ (b0 := (0, 0)) rfl
  exact ⟨μ1, b1, b2, b3⟩
end LISTEN2

/-! CALLS: listen, the answer -/
theorem dC_le (G : Nat → Bool) (sc : Nat → Nat → Int) (p g : Nat) : dC G sc p g ≤ tC G g := by
  induction g with
  | zero => exact Nat.le_refl _
  | succ g ih =>
    cases e : G g with
    | true =>
      rw [tC_t e]
      by_cases c : ∃ g' : Nat, g' < g ∧ G g' = true ∧ sc g' p = sc g p
      · rw [dC_0 (fun hh => hh.2 c)]
        exact Nat.le_succ_of_le ih
      · rw [dC_1 e c]
        exact Nat.succ_le_succ ih
    | false =>
      rw [tC_f e, dC_0 (fun hh => absurd hh.1 (by rw [e]; decide))]
      exact ih
theorem WI_upto {G : Nat → Bool} {sc : Nat → Nat → Int} {n m : Nat} (hs : ∀ g p : Nat, p < n → g < m → 0 ≤ sc g p ∧ sc g p < 128) (g : Nat) (hg : g ≤ m) : WI n (tW G sc n g) (fun p v => sN G sc p g v) (fun p => dC G sc p g) := by
  induction g with
  | zero =>
    intro p hp
    refine ⟨0, 0, by decide, by decide, rfl, rfl, fun j hj => ?_, fun j hj => ?_, rfl⟩
    · rw [Nat.zero_testBit]
      exact ⟨fun h => absurd h (by decide), fun ⟨g', h1, _⟩ => absurd h1 (Nat.not_lt_zero _)⟩
    · rw [Nat.zero_testBit]
      exact ⟨fun h => absurd h (by decide), fun ⟨g', h1, _⟩ => absurd h1 (Nat.not_lt_zero _)⟩
  | succ g ih => exact WI_step (ih (Nat.le_of_succ_le hg)) (fun p hp => hs g p hp hg)
section LISTEN3
variable {N M tp : Int} {L : Nat → Int} {PH PF PB : List Int} {σ σ' σb μ μ' : kM} {q q' : Nat → Int} {f n : Int} {F : Nat → Int} {p t : Nat}
theorem m_is {x m x3 x4 x6 : Int} {a : Nat} (ha : a < 288) (hp : p < 8) : ∃ r : Int, kloop (fun st => mm_listen_l123 μ x m x3 x4 (p : Int) x6 (a : Int) st.1 st.2) kFuel (1, 0) = some r ∧ (r = 1 ∧ (∀ b : Nat, b < a → μ 21 (8 * a + p) ≠ μ 21 (8 * b + p)) ∨ r = 0 ∧ ¬ (∀ b : Nat, b < a → μ 21 (8 * a + p) ≠ μ 21 (8 * b + p))) := by
  have xa : w32 (w32 (8 * (a : Int)) + (p : Int)) = ((8 * a + p : Nat) : Int) := by
    rw [w32_s (v := 8 * (a : Int)) (by omega) (by omega), w32_s (by omega) (by omega)]
    omega
  have xa2 : 0 ≤ ((8 * a + p : Nat) : Int) ∧ ((8 * a + p : Nat) : Int) < 2304 := by omega
  obtain ⟨r, g1, g2⟩ := kOk_for (body := fun st => mm_listen_l123 μ x m x3 x4 (p : Int) x6 (a : Int) st.1 st.2) (P := fun r => r = 1 ∧ (∀ b : Nat, b < a → μ 21 (8 * a + p) ≠ μ 21 (8 * b + p)) ∨ r = 0 ∧ ¬ (∀ b : Nat, b < a → μ 21 (8 * a + p) ≠ μ 21 (8 * b + p))) a (fun b st => st.2 = (b : Int) ∧ (st.1 = 1 ∧ (∀ b' : Nat, b' < b → μ 21 (8 * a + p) ≠ μ 21 (8 * b' + p)) ∨ st.1 = 0 ∧ ¬ (∀ b : Nat, b < a → μ 21 (8 * a + p) ≠ μ 21 (8 * b + p)))) (fun b st hb hI => by
    have ew := kw_inc (i := b) (by omega)
    have xb : w32 (w32 (8 * (b : Int)) + (p : Int)) = ((8 * b + p : Nat) : Int) := by
      rw [w32_s (v := 8 * (b : Int)) (by omega) (by omega), w32_s (by omega) (by omega)]
      omega
    have xb2 : 0 ≤ ((8 * b + p : Nat) : Int) ∧ ((8 * b + p : Nat) : Int) < 2304 := by omega
    have c0 : ¬ (a : Int) ≤ (b : Int) := by omega
    obtain ⟨y, z⟩ := st
    obtain ⟨i1, i2⟩ := hI
    have i1 : z = (b : Int) := i1
    subst i1
    have i2 : y = 1 ∧ (∀ b' : Nat, b' < b → μ 21 (8 * a + p) ≠ μ 21 (8 * b' + p)) ∨ y = 0 ∧ ¬ (∀ b : Nat, b < a → μ 21 (8 * a + p) ≠ μ 21 (8 * b + p)) := i2
    show kOk (mm_listen_l123 μ x m x3 x4 (p : Int) x6 (a : Int) y (b : Int)) _
    unfold mm_listen_l123 mm_listen_l123_j169
    rw [if_neg c0, xa, xb, kchk_t xa2, kchk_t xb2, Int.toNat_natCast, Int.toNat_natCast, klet_eq, klet_eq, ew]
    rcases i2 with ⟨rfl, i3⟩ | ⟨rfl, i3⟩
    · rw [if_neg (by decide)]
      by_cases c : μ 21 (8 * a + p) = μ 21 (8 * b + p)
      · rw [if_pos c]
        exact ⟨_, rfl, rfl, Or.inr ⟨rfl, fun hh => hh b hb c⟩⟩
      · rw [if_neg c]
        refine ⟨_, rfl, rfl, Or.inl ⟨rfl, fun b' hb' => ?_⟩⟩
        by_cases e : b' = b
        · subst e
          exact c
        · exact i3 b' (Nat.lt_of_le_of_ne (Nat.le_of_lt_succ hb') e)
    · rw [if_pos rfl]
      exact ⟨_, rfl, Or.inr ⟨rfl, i3⟩⟩) (fun st hI => by
    obtain ⟨y, z⟩ := st
    obtain ⟨i1, i2⟩ := hI
    have i1 : z = (a : Int) := i1
    subst i1
    refine ⟨.inr y, ?_, i2⟩
    show mm_listen_l123 μ x m x3 x4 (p : Int) x6 (a : Int) y (a : Int) = _
    unfold mm_listen_l123
    rw [if_pos (Int.le_refl _)]) (kFuel_lt (by omega)) (1, 0) ⟨rfl, Or.inl ⟨rfl, fun b hb => absurd hb (Nat.not_lt_zero _)⟩⟩
  exact ⟨r, g1, g2⟩
theorem m_cnt {x x3 x4 : Int} {m : Nat} (hm : m ≤ 288) (hp : p < 8) : kloop (fun st => mm_listen_l111 μ x (m : Int) x3 x4 (p : Int) st.1 st.2) kFuel (0, 0) = some (eC (fun a => μ 21 (8 * a + p)) m : Int) :=
  kl_V (body := fun st => mm_listen_l111 μ x (m : Int) x3 x4 (p : Int) st.1 st.2) (fun a => ((eC (fun a => μ 21 (8 * a + p)) a : Int), (a : Int))) m (eC (fun a => μ 21 (8 * a + p)) m : Int) (by omega) (fun a ha => by
    have ew := kw_inc (i := a) (by omega)
    have c0 : ¬ (m : Int) ≤ (a : Int) := by omega
    have a288 : a < 288 := by omega
    have hle := eC_le (fun a => μ 21 (8 * a + p)) a
    obtain ⟨r, g1, g2⟩ := m_is (μ := μ) (x := x) (m := (m : Int)) (x3 := x3) (x4 := x4) (x6 := (eC (fun a => μ 21 (8 * a + p)) a : Int)) a288 hp
    show mm_listen_l111 μ x (m : Int) x3 x4 (p : Int) (eC (fun a => μ 21 (8 * a + p)) a : Int) (a : Int) = some (Sum.inl ((eC (fun a => μ 21 (8 * a + p)) (a + 1) : Int), ((a + 1 : Nat) : Int)))
    unfold mm_listen_l111 mm_listen_l111_j189
    rw [if_neg c0, kbind_eq g1, klet_eq, klet_eq, klet_eq, klet_eq, ew]
    rcases g2 with ⟨rfl, g3⟩ | ⟨rfl, g3⟩
    · rw [if_neg (by decide), eC_1 (r := fun a => μ 21 (8 * a + p)) g3]
      generalize eC (fun a => μ 21 (8 * a + p)) a = z at *
      rw [w32_s (by omega) (by omega)]
      rfl
    · rw [if_pos rfl, eC_0 (r := fun a => μ 21 (8 * a + p)) g3]
      generalize eC (fun a => μ 21 (8 * a + p)) a = z at *
      rw [w32_s (by omega) (by omega), Int.add_zero]) (by
    show mm_listen_l111 μ x (m : Int) x3 x4 (p : Int) (eC (fun a => μ 21 (8 * a + p)) m : Int) (m : Int) = _
    unfold mm_listen_l111
    rw [if_pos (Int.le_refl _)]) rfl
theorem m_best9 {x : Int} {m : Nat} {D : Nat → Nat} (hN : μ 0 2 = N) (hn : 0 ≤ N ∧ N ≤ 8) (hm : m ≤ 288) (hD : ∀ p : Nat, (p : Int) < N → eC (fun a => μ 21 (8 * a + p)) m = D p) : kloop (fun st => mm_listen_l96 μ x (m : Int) st.1 st.2.1 st.2.2) kFuel (-1, 0, 0) = some ((bU D N.toNat).1, (bU D N.toNat).2) :=
  kl_V (body := fun st => mm_listen_l96 μ x (m : Int) st.1 st.2.1 st.2.2) (fun i => ((bU D i).1, (bU D i).2, (i : Int))) N.toNat ((bU D N.toNat).1, (bU D N.toNat).2) (by omega) (fun i hi => by
    have ew := kw_inc (i := i) (by omega)
    have c0 : ¬ N ≤ (i : Int) := by omega
    have i8 : i < 8 := by omega
    have iN : (i : Int) < N := by omega
    have hu := m_cnt (μ := μ) (x := x) (x3 := (bU D i).1) (x4 := (bU D i).2) (p := i) hm i8
    rw [hD i iN] at hu
    have e : bU D (i + 1) = if (bU D i).2 < (D i : Int) then ((i : Int), (D i : Int)) else bU D i := rfl
    show mm_listen_l96 μ x (m : Int) (bU D i).1 (bU D i).2 (i : Int) = some (Sum.inl ((bU D (i + 1)).1, (bU D (i + 1)).2, ((i + 1 : Nat) : Int)))
    unfold mm_listen_l96 mm_listen_l96_j215
    rw [hN, if_neg c0, kbind_eq hu, klet_eq, ew, e]
    by_cases c : (bU D i).2 < (D i : Int)
    · rw [if_pos c, if_pos c]
    · rw [if_neg c, if_neg c, klet_eq]) (by
    have c0 : N ≤ ((N.toNat : Nat) : Int) := by omega
    show mm_listen_l96 μ x (m : Int) (bU D N.toNat).1 (bU D N.toNat).2 ((N.toNat : Nat) : Int) = _
    unfold mm_listen_l96
    rw [hN, if_pos c0]) rfl
theorem op_listen (h : RE N M tp L PH PF PB σ μ) (x : Int) : OC N M tp L PH PF PB thN (pf_P_listen_0 σ x) (mm_listen μ x) := by
  have hn1 := h.1.1
  have hn2 := h.1.2.1
  have hn3 := h.1.2.2.1
  have hCN := h.cn
  have hMN := h.mn
  obtain ⟨hN, hE, hR, hI⟩ := h.cn
  obtain ⟨-, hEM, hRM, -, -⟩ := h.mn
  unfold pf_P_listen_0 mm_listen
  rw [klet_eq]
  by_cases k1 : 0 ≤ x ∧ x ≤ 1
  · rw [kbind_eq (c_what1 k1), kbind_eq (m_isWhat1 (μ := mT μ) mT0 k1)]
    dsimp only
    rw [if_neg (show ¬ (1 : Int) = 0 by decide)]
    have hCF := h.cf
    have hf8 := hCF.2.1
    obtain ⟨r, l1, l2, l3⟩ := c_lastFelt hCF
    have m53 : mT μ 0 53 = μ 0 53 := mTj (by decide)
    have m19 : mT μ 19 = μ 19 := kst_ne (by decide)
    have r5 : 0 ≤ max r 5 ∧ max r 5 ≤ 20 := by omega
    have r6 : 5 ≤ max r 5 := by omega
    have r7 : r ≤ max r 5 := by omega
    obtain ⟨σ1, a1, a2, -, -, a5⟩ := c_tryTruths hCN hCF r5 (fun i hi => Int.le_trans (l3 i hi) r7)
    obtain ⟨μ1, b1, b2, b3⟩ := m_rows hMN m53 hf8 m19 (x := x)
    have z0 : μ1 0 0 = 0 := b2.2.trans mT0
    have hN2 : μ1 0 2 = N := (hMN.kp b2.1).2.1.2.1
    have hN1 : σ1 3 1 = N := (hCN.kp a2).2.1.2.1
    have hm := tC_288 (f := μ 0 53) (F := μ 19) hN hI
    have hW := WI.congr (WI_upto (G := tB N M tp PH PF PB L (μ 0 53) (μ 19) (μ 8)) (sc := scG N M PH PF PB L (μ 8)) (n := N.toNat) (m := 100 * N.toNat) (fun g p hp hg => scG_rng hN hI g p hp hg) (100 * N.toNat) (Nat.le_refl _)) (by omega) (a5 r6)
    have hD : ∀ p : Nat, dC (tB N M tp PH PF PB L (μ 0 53) (μ 19) (μ 8)) (scG N M PH PF PB L (μ 8)) p (100 * N.toNat) < 1000 := fun p => Nat.lt_of_le_of_lt (dC_le _ _ _ _) (Nat.lt_of_le_of_lt hm (by decide))
    have hmost := c_most hW hn1 hD hN1
    have hbest := m_best9 (x := x) (D := fun p => dC (tB N M tp PH PF PB L (μ 0 53) (μ 19) (μ 8)) (scG N M PH PF PB L (μ 8)) p (100 * N.toNat)) hN2 hn1 hm (fun p hp => (b3 p hp).2)
    have hun := fun p hp => c_unlike (p := p) hW hn1 hD hp
    have hbi := bU_inv (fun p => dC (tB N M tp PH PF PB L (μ 0 53) (μ 19) (μ 8)) (scG N M PH PF PB L (μ 8)) p (100 * N.toNat)) N.toNat
    rw [kbind_eq l1, kbind_eq a1, kbind_eq b1]
    dsimp only
    rw [kbind_eq hmost, klet_eq, kbind_eq hbest]
    dsimp only
    clear hbest hmost a5 hm hD hW b3 a1 b1
    generalize bU (fun p => dC (tB N M tp PH PF PB L (μ 0 53) (μ 19) (μ 8)) (scG N M PH PF PB L (μ 8)) p (100 * N.toNat)) N.toNat = B at *
    by_cases c : x = 0
    · rw [if_pos c, if_pos c]
      exact OC.ok h rfl rfl a2 (kpM.th.trans b2.1) z0
    · rw [if_neg c, if_neg c]
      rcases hbi.2 with ⟨e1, e2⟩ | ⟨p, p1, e1, e2⟩
      · rw [if_pos e1, e2]
        exact OC.ok h rfl rfl a2 (kpM.th.trans b2.1) z0
      · have pN : (p : Int) < N := by
          clear hun hbi e2 e1
          omega
        have ne : ¬ B.1 = -1 := by
          rw [e1]
          exact fun hh => absurd hh (by clear hh hun hbi e2 e1; omega)
        rw [if_neg ne, e1, kbind_eq (hun p pN), e2]
        exact OC.ok h rfl rfl a2 (kpM.th.trans b2.1) z0
  · rw [kbind_eq (c_what0 k1), kbind_eq (m_isWhat0 (μ := mT μ) mT0 k1)]
    exact OC.no h (b := 0) (μ' := mR (mT μ) 1) rfl rfl kpC.rfl (kpM.th.trans kpM.th) ⟨rfl, mR0⟩
end LISTEN3

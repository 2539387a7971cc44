/-! CALLS: truths, listen. The numbers of a topic of a person -/
theorem gn {p t v : Nat} (hp : p < 8) (ht : t < 4) (hv : v < 10) : gAt (100 * p + 10 * t + v) = 113 + (4 * p + t) ∧ (100 * p + 10 * t + v) % 10 = v ∧ (100 * p + 10 * t + v) / 10 % 10 = t := by
  unfold gAt
  omega
section TRY3
variable {N M tp : Int} {L : Nat → Int} {PH PF PB : List Int} {σ σ' σb μ μ' : kM} {q q' : Nat → Int} {f n : Int} {F : Nat → Int} {p t : Nat}
theorem gOK_iff {v : Nat} (hp : p < 8) (ht : t < 4) (htp : (t : Int) < tp) (hv : v < 10) : gOK N M tp PH PF PB L f F q (100 * p + 10 * t + v) ↔ (q (113 + (4 * p + t)) ≠ (v : Int) ∧ tH N M PH PF PB L f F 20 (kup (trow q) (113 + (4 * p + t)) (v : Int))) := by
  unfold gOK gRow
  rw [(gn hp ht hv).1, (gn hp ht hv).2.1, (gn hp ht hv).2.2]
  exact ⟨fun h => ⟨h.2.1, h.2.2⟩, fun h => ⟨htp, h.1, h.2⟩⟩
def scG (N M : Int) (PH PF PB : List Int) (L : Nat → Int) (q : Nat → Int) (g p : Nat) : Int := yrs N M PH PF PB L 5 (gRow q g) (9 + p)
theorem scG_at {v : Nat} (hp : p < 8) (ht : t < 4) (hv : v < 10) (p' : Nat) : scG N M PH PF PB L q (100 * p + 10 * t + v) p' = yrs N M PH PF PB L 5 (kup (trow q) (113 + (4 * p + t)) (v : Int)) (9 + p') := by
  unfold scG gRow
  rw [(gn hp ht hv).1, (gn hp ht hv).2.1]
theorem up_agr {k0 : Nat} {r : Nat → Int} {u v : Int} : agr (fun k => k ≠ k0) (kup r k0 u) (kup r k0 v) := fun k hk => by
  have hk : k ≠ k0 := hk
  rw [kup_ne hk, kup_ne hk]
/-- one number is supposed -/
theorem in_ask (hC : CN N M tp L PH PF PB σb q) (hF : CF σb f F) (hn : 0 ≤ n ∧ n ≤ 20) (hm : ∀ i : Nat, (i : Int) < f → F (3 * i + 1) ≤ n) (hp : p < 8) (ht : t < 4) (htp : (t : Int) < tp) {v : Nat} (hv : v < 10) (hne : q (113 + (4 * p + t)) ≠ (v : Int)) (hfr : frG σb σ) {u : Int} (h5 : σ 5 = kup (σb 5) (4 * p + t) u) :
    ∃ (r r18 : Int) (σ1 σ2 : kM), pf_Law_suppose_3 σ (p : Int) (t : Int) (v : Int) = some σ1 ∧ pf_Oracle_allFelt_57 σ1 n = some (r, σ2) ∧ pf_Law_matters_3 σ2 (t : Int) = some r18 ∧ frG σ σ2 ∧ σ2 57 = σ 57 ∧ σ2 61 = σ 61 ∧ σ2 5 = kup (σb 5) (4 * p + t) (v : Int) ∧
      (r = 0 ∧ tB N M tp PH PF PB L f F q (100 * p + 10 * t + v) = false ∨ r = 1 ∧ tB N M tp PH PF PB L f F q (100 * p + 10 * t + v) = true ∧ (5 ≤ n → ∀ p' : Nat, p' < 8 → σ2 60 p' = scG N M PH PF PB L q (100 * p + 10 * t + v) p')) ∧
      (r18 = 1 ∨ r18 = 0 ∧ (r = 0 ∧ (∀ v' : Nat, v' < 10 → tB N M tp PH PF PB L f F q (100 * p + 10 * t + v') = false) ∨ r = 1 ∧ ∀ v' : Nat, v' < 10 → q (113 + (4 * p + t)) ≠ (v' : Int) → tB N M tp PH PF PB L f F q (100 * p + 10 * t + v') = true ∧ (5 ≤ n → ∀ p' : Nat, p' < 8 → σ2 60 p' = scG N M PH PF PB L q (100 * p + 10 * t + v') p'))) := by
  have b1 : 4 * p + t < 32 := by omega
  have b2 : (4 * (p : Int) + (t : Int)).toNat = 4 * p + t := by omega
  have b3 : 0 ≤ (v : Int) ∧ (v : Int) ≤ 9 := by omega
  have b4 : 113 ≤ 113 + (4 * p + t) ∧ 113 + (4 * p + t) < 145 := by omega
  have b5 : (113 + 4 * (p : Int) + (t : Int)).toNat = 113 + (4 * p + t) := by omega
  have bp : 0 ≤ (p : Int) ∧ (p : Int) < 8 := by omega
  have bt : 0 ≤ (t : Int) ∧ (t : Int) < 4 := by omega
  have bn : n.toNat ≤ 20 := by omega
  have bn2 : ((n.toNat : Nat) : Int) = n := by omega
  have b9 : ∀ p' : Nat, p' < 8 → 9 + p' < 113 := fun p' hp' => by omega
  have s1 := c_suppose (σ := σ) (v := (v : Int)) bp bt
  rw [b2] at s1
  have e5 : kst σ 5 (kup (σ 5) (4 * p + t) (v : Int)) 5 = kup (σb 5) (4 * p + t) (v : Int) := by rw [kst_eq, h5, kup_up]
  have f1 : frG σb (kst σ 5 (kup (σ 5) (4 * p + t) (v : Int))) := hfr.trans frG.put5
  have hC1 := f1.cn e5 hC b1 b3
  obtain ⟨r, σ2, a1, a2, a3⟩ := c_allFelt hC1 (hF.frG f1) hn
  have g57 : σ2 57 = σ 57 := by rw [a2 57 (by decide), kst_ne (by decide)]
  have g61 : σ2 61 = σ 61 := by rw [a2 61 (by decide), kst_ne (by decide)]
  have g5 : σ2 5 = kup (σb 5) (4 * p + t) (v : Int) := by rw [a2 5 (by decide), e5]
  have f2 : frG σb σ2 := f1.trans (frG.frF a2)
  have hC2 := f2.cn g5 hC b1 b3
  obtain ⟨r18, m1, m2⟩ := c_matters hC2.1 hC2.2.1 hC2.2.2.1 hC2.2.2.2 bt
  rw [trow_up b4.2] at a3
  have e20 : ∀ w : Nat → Int, tH N M PH PF PB L f F n.toNat w ↔ tH N M PH PF PB L f F 20 w := fun w => (tH_ge (by rw [bn2]; exact hm) bn).symm
  rw [e20] at a3
  have hIr : IV M tp L (kup (trow q) (113 + (4 * p + t)) (v : Int)) := by
    rw [← trow_up b4.2]
    exact trow_IV hC2.2.2.2
  refine ⟨r, r18, _, σ2, s1, a1, m1, frG.put5.trans (frG.frF a2), g57, g61, g5, ?_, ?_⟩
  · rcases a3 with ⟨r0, a4⟩ | ⟨r1, a4, a5⟩
    · exact Or.inl ⟨r0, tB_f (fun hh => a4 ((gOK_iff hp ht htp hv).mp hh).2)⟩
    · refine Or.inr ⟨r1, tB_t ((gOK_iff hp ht htp hv).mpr ⟨hne, a4⟩), fun h5' p' hp' => ?_⟩
      rw [scG_at hp ht hv]
      exact a5 h5' p' hp'
  · rcases m2 with m2 | ⟨m2, m3⟩
    · exact Or.inl m2
    · refine Or.inr ⟨m2, ?_⟩
      have hA0 := m3 (p : Int) bp.1 bp.2
      rw [b5] at hA0
      have hA : nmA M L PH (113 + (4 * p + t)) (kup (trow q) (113 + (4 * p + t)) (v : Int)) := by
        rw [← trow_up b4.2]
        exact hA0.congr hC.1.2.1.2 hC.1.2.2.2.1 (fun k _ k2 => if_pos (Nat.lt_trans k2 (by decide)))
      have hi := fun v' : Nat => tH_indep (f := f) (F := F) (n := 20) (up_agr (k0 := 113 + (4 * p + t)) (r := trow q) (u := (v : Int)) (v := (v' : Int))) b4.1 b4.2 hIr hA hC.1
      rcases a3 with ⟨r0, a4⟩ | ⟨r1, a4, a5⟩
      · exact Or.inl ⟨r0, fun v' hv' => tB_f (fun hh => a4 ((hi v').1.mpr ((gOK_iff hp ht htp hv').mp hh).2))⟩
      · refine Or.inr ⟨r1, fun v' hv' hne' => ⟨tB_t ((gOK_iff hp ht htp hv').mpr ⟨hne', (hi v').1.mp a4⟩), fun h5' p' hp' => ?_⟩⟩
        rw [scG_at hp ht hv', ← (hi v').2 _ (b9 p' hp')]
        exact a5 h5' p' hp'
abbrev TIs (N M tp : Int) (PH PF PB : List Int) (L : Nat → Int) (f : Int) (F : Nat → Int) (q : Nat → Int) (n : Int) (σ0 σ : kM) (g : Nat) : Prop := TI n (tB N M tp PH PF PB L f F q) (scG N M PH PF PB L q) N.toNat σ0 σ g
theorem TI.step {G : Nat → Bool} {sc : Nat → Nat → Int} {nn g : Nat} {σ0 σ1 : kM} (h : TI n G sc nn σ0 σ g) (hf : frG σ σ1) (e2 : σ1 57 2 = (tF G (g + 1)).1) (e3 : σ1 57 3 = (tF G (g + 1)).2) (e61 : σ1 61 = (if G g = true then sS nn (σ 61) (σ 60) else σ 61)) (hs : G g = true → 5 ≤ n → ∀ p' : Nat, p' < nn → σ 60 p' = sc g p') : TI n G sc nn σ0 σ1 (g + 1) := by
  refine ⟨h.1.trans hf, e2, e3, fun h5 k hk => ?_⟩
  rw [e61]
  cases eg : G g with
  | true =>
    rw [if_pos rfl, tW_t eg]
    exact sS_congr (h.2.2.2 h5) (hs eg h5) k hk
  | false =>
    rw [if_neg (by decide), tW_f eg]
    exact h.2.2.2 h5 k hk
theorem in_loop (hC : CN N M tp L PH PF PB σb q) (hF : CF σb f F) (hn : 0 ≤ n ∧ n ≤ 20) (hm : ∀ i : Nat, (i : Int) < f → F (3 * i + 1) ≤ n) (hp : p < 8) (ht : t < 4) (htp : (t : Int) < tp) {σ0 : kM} (h0 : frG σ0 σb) (h1 : TIs N M tp PH PF PB L f F q n σ0 σb (100 * p + 10 * t)) :
    ∃ σ', kloop (fun st => pf_Oracle_tryTruths_57_l80 st.1 n (p : Int) (t : Int) (q (113 + (4 * p + t))) st.2.1 st.2.2.1 st.2.2.2) kFuel (σb, 1, 0, 0) = some σ' ∧ TIs N M tp PH PF PB L f F q n σ0 σ' (100 * p + 10 * t + 10) ∧ ∃ u : Int, σ' 5 = kup (σb 5) (4 * p + t) u := by
  have hN8 := hC.1.1
  have nn8 : ∀ p' : Nat, p' < N.toNat → p' < 8 := fun p' h => by omega
  have bp : 0 ≤ (p : Int) ∧ (p : Int) < 8 := by omega
  have bt : 0 ≤ (t : Int) ∧ (t : Int) < 4 := by omega
  have hfin : frG σb σb := frG.rfl
  obtain ⟨σ', g1, g2⟩ := kOk_for (body := fun st => pf_Oracle_tryTruths_57_l80 st.1 n (p : Int) (t : Int) (q (113 + (4 * p + t))) st.2.1 st.2.2.1 st.2.2.2) (P := fun σ' => TIs N M tp PH PF PB L f F q n σ0 σ' (100 * p + 10 * t + 10) ∧ ∃ u : Int, σ' 5 = kup (σb 5) (4 * p + t) u) 10
    (fun v st => st.2.2.2 = (v : Int) ∧ frG σb st.1 ∧ TIs N M tp PH PF PB L f F q n σ0 st.1 (100 * p + 10 * t + v) ∧ (∃ u : Int, st.1 5 = kup (σb 5) (4 * p + t) u) ∧ (st.2.1 = 1 ∨ st.2.1 = 0 ∧ (st.2.2.1 = 0 ∧ (∀ v' : Nat, v' < 10 → tB N M tp PH PF PB L f F q (100 * p + 10 * t + v') = false) ∨ st.2.2.1 = 1 ∧ ∀ v' : Nat, v' < 10 → q (113 + (4 * p + t)) ≠ (v' : Int) → tB N M tp PH PF PB L f F q (100 * p + 10 * t + v') = true ∧ (5 ≤ n → ∀ p' : Nat, p' < 8 → st.1 60 p' = scG N M PH PF PB L q (100 * p + 10 * t + v') p')))) (fun v st hv hI => by
    have c9 : ¬ (9 : Int) < (v : Int) := by omega
    have ew := kw_inc (i := v) (by omega)
    have eg : ((100 * p + 10 * t + v : Nat) : Int) = 100 * (p : Int) + 10 * (t : Int) + (v : Int) := by omega
    obtain ⟨σ, ask, hol, x⟩ := st
    obtain ⟨i1, i2, i3, i4, i5⟩ := hI
    have i1 : x = (v : Int) := i1
    subst i1
    have i2 : frG σb σ := i2
    have i3 : TIs N M tp PH PF PB L f F q n σ0 σ (100 * p + 10 * t + v) := i3
    obtain ⟨u, i4⟩ := i4
    have i4 : σ 5 = kup (σb 5) (4 * p + t) u := i4
    have i5 : ask = 1 ∨ ask = 0 ∧ (hol = 0 ∧ (∀ v' : Nat, v' < 10 → tB N M tp PH PF PB L f F q (100 * p + 10 * t + v') = false) ∨ hol = 1 ∧ ∀ v' : Nat, v' < 10 → q (113 + (4 * p + t)) ≠ (v' : Int) → tB N M tp PH PF PB L f F q (100 * p + 10 * t + v') = true ∧ (5 ≤ n → ∀ p' : Nat, p' < 8 → σ 60 p' = scG N M PH PF PB L q (100 * p + 10 * t + v') p')) := i5
    show kOk (pf_Oracle_tryTruths_57_l80 σ n (p : Int) (t : Int) (q (113 + (4 * p + t))) ask hol (v : Int)) _
    unfold pf_Oracle_tryTruths_57_l80
    rw [if_neg c9]
    by_cases ctr : (v : Int) = q (113 + (4 * p + t))
    · have gf : tB N M tp PH PF PB L f F q (100 * p + 10 * t + v) = false := tB_f (fun hh => ((gOK_iff hp ht htp hv).mp hh).1 ctr.symm)
      rw [if_pos ctr]
      unfold pf_Oracle_tryTruths_57_l80_j155
      rw [klet_eq, ew]
      refine ⟨_, rfl, rfl, i2, ?_, ⟨u, i4⟩, i5⟩
      exact TI.step (g := 100 * p + 10 * t + v) (σ1 := σ) i3 frG.rfl (by rw [tF_f gf]; exact i3.2.1) (by rw [tF_f gf]; exact i3.2.2.1) (by rw [if_neg (by rw [gf]; decide)]) (fun hh => absurd hh (by rw [gf]; decide))
    · rw [if_neg ctr]
      have hne : q (113 + (4 * p + t)) ≠ (v : Int) := fun hh => ctr hh.symm
      have fin : ∀ (σ2 : kM) (a r : Int), frG σb σ2 → TIs N M tp PH PF PB L f F q n σ0 σ2 (100 * p + 10 * t + v) → (∃ u : Int, σ2 5 = kup (σb 5) (4 * p + t) u) → (r = 0 ∧ tB N M tp PH PF PB L f F q (100 * p + 10 * t + v) = false ∨ r = 1 ∧ tB N M tp PH PF PB L f F q (100 * p + 10 * t + v) = true ∧ (5 ≤ n → ∀ p' : Nat, p' < 8 → σ2 60 p' = scG N M PH PF PB L q (100 * p + 10 * t + v) p')) → (a = 1 ∨ a = 0 ∧ (r = 0 ∧ (∀ v' : Nat, v' < 10 → tB N M tp PH PF PB L f F q (100 * p + 10 * t + v') = false) ∨ r = 1 ∧ ∀ v' : Nat, v' < 10 → q (113 + (4 * p + t)) ≠ (v' : Int) → tB N M tp PH PF PB L f F q (100 * p + 10 * t + v') = true ∧ (5 ≤ n → ∀ p' : Nat, p' < 8 → σ2 60 p' = scG N M PH PF PB L q (100 * p + 10 * t + v') p'))) →
          kOk (pf_Oracle_tryTruths_57_l80_j130 σ2 n (p : Int) (t : Int) (q (113 + (4 * p + t))) a r (v : Int)) (Sum.elim (fun st => st.2.2.2 = ((v + 1 : Nat) : Int) ∧ frG σb st.1 ∧ TIs N M tp PH PF PB L f F q n σ0 st.1 (100 * p + 10 * t + (v + 1)) ∧ (∃ u : Int, st.1 5 = kup (σb 5) (4 * p + t) u) ∧ (st.2.1 = 1 ∨ st.2.1 = 0 ∧ (st.2.2.1 = 0 ∧ (∀ v' : Nat, v' < 10 → tB N M tp PH PF PB L f F q (100 * p + 10 * t + v') = false) ∨ st.2.2.1 = 1 ∧ ∀ v' : Nat, v' < 10 → q (113 + (4 * p + t)) ≠ (v' : Int) → tB N M tp PH PF PB L f F q (100 * p + 10 * t + v') = true ∧ (5 ≤ n → ∀ p' : Nat, p' < 8 → st.1 60 p' = scG N M PH PF PB L q (100 * p + 10 * t + v') p')))) (fun σ' => TIs N M tp PH PF PB L f F q n σ0 σ' (100 * p + 10 * t + 10) ∧ ∃ u : Int, σ' 5 = kup (σb 5) (4 * p + t) u)) := by
        intro σ2 a r k1 k2 k3 k4 k5
        have hx : r = 0 ∧ tB N M tp PH PF PB L f F q (100 * p + 10 * t + v) = false ∨ r = 1 ∧ tB N M tp PH PF PB L f F q (100 * p + 10 * t + v) = true := by
          rcases k4 with k4 | k4
          · exact Or.inl k4
          · exact Or.inr ⟨k4.1, k4.2.1⟩
        obtain ⟨σ3, d1, d2, d3, d4, d5⟩ := c_j130 (σ := σ2) (N := N) (x1 := n) (x4 := q (113 + (4 * p + t))) (x5 := a) bp bt hv eg k2.2.1 k2.2.2.1 (by rw [k1 3 (by decide)]; exact hC.2.1.2.1) hN8 hx
        refine ⟨_, d1, rfl, k1.trans (frG.k2 d2), TI.step (g := 100 * p + 10 * t + v) (σ1 := σ3) k2 (frG.k2 d2) d3 d4 d5 (fun hh h5 p' hp' => ?_), ?_, ?_⟩
        · rcases k4 with ⟨-, k6⟩ | ⟨-, -, k7⟩
          · rw [k6] at hh
            exact absurd hh (by decide)
          · exact k7 h5 p' (nn8 p' hp')
        · obtain ⟨u, k6⟩ := k3
          exact ⟨u, (d2 5 (by decide) (by decide)).trans k6⟩
        · show a = 1 ∨ a = 0 ∧ (r = 0 ∧ (∀ v' : Nat, v' < 10 → tB N M tp PH PF PB L f F q (100 * p + 10 * t + v') = false) ∨ r = 1 ∧ ∀ v' : Nat, v' < 10 → q (113 + (4 * p + t)) ≠ (v' : Int) → tB N M tp PH PF PB L f F q (100 * p + 10 * t + v') = true ∧ (5 ≤ n → ∀ p' : Nat, p' < 8 → σ3 60 p' = scG N M PH PF PB L q (100 * p + 10 * t + v') p'))
          rw [d2 60 (by decide) (by decide)]
          exact k5
      rcases i5 with i5 | ⟨i5, i6⟩
      · rw [if_neg (by rw [i5]; decide)]
        obtain ⟨r, r18, σ1, σ2, s1, a1, m1, a2, a57, a61, a5, a6, a7⟩ := in_ask hC hF hn hm hp ht htp hv hne i2 i4
        rw [kbind_eq s1, kbind_eq a1]
        dsimp only
        rw [kbind_eq m1]
        exact fin σ2 r18 r (i2.trans a2) ⟨i3.1.trans a2, by rw [a57]; exact i3.2.1, by rw [a57]; exact i3.2.2.1, by rw [a61]; exact i3.2.2.2⟩ ⟨_, a5⟩ a6 a7
      · rw [if_pos i5]
        refine fin σ ask hol i2 i3 ⟨u, i4⟩ ?_ (Or.inr ⟨i5, i6⟩)
        rcases i6 with ⟨i6, i7⟩ | ⟨i6, i7⟩
        · exact Or.inl ⟨i6, i7 v hv⟩
        · exact Or.inr ⟨i6, (i7 v hv hne).1, (i7 v hv hne).2⟩) (fun st hI => by
    obtain ⟨σ, ask, hol, x⟩ := st
    obtain ⟨i1, i2, i3, i4, i5⟩ := hI
    have i1 : x = ((10 : Nat) : Int) := i1
    subst i1
    refine ⟨.inr σ, ?_, i3, i4⟩
    show pf_Oracle_tryTruths_57_l80 σ n (p : Int) (t : Int) (q (113 + (4 * p + t))) ask hol ((10 : Nat) : Int) = _
    unfold pf_Oracle_tryTruths_57_l80
    rw [if_pos (by decide)]) (kFuel_lt (by decide)) (σb, 1, 0, 0) ⟨rfl, frG.rfl, h1, ⟨_, (kup_id _ _).symm⟩, Or.inl rfl⟩
  exact ⟨σ', g1, g2⟩
end TRY3

/-! CALLS: accidents -/
theorem kl_G {β γ : Type} {body : kM × β → Option ((kM × β) ⊕ (kM × γ))} (S : Nat → kM → Prop) (B : Nat → β) (n : Nat) (g : γ) (hn : n < 100000000)
    (hs : ∀ (i : Nat) (σ1 : kM), i < n → S i σ1 → ∃ σ2, body (σ1, B i) = some (.inl (σ2, B (i + 1))) ∧ S (i + 1) σ2) (he : ∀ σ1 : kM, S n σ1 → ∃ σ2, body (σ1, B n) = some (.inr (σ2, g)) ∧ S n σ2) {σ : kM} (h0 : S 0 σ) {b0 : β} (hb : b0 = B 0) : ∃ σ', kloop body kFuel (σ, b0) = some (σ', g) ∧ S n σ' := by
  subst hb
  obtain ⟨r, h1, h2, h3⟩ := kOk_for (body := body) (P := fun r => r.2 = g ∧ S n r.1) n (fun i st => st.2 = B i ∧ S i st.1) (fun i st hi hI => by
    obtain ⟨σ1, b⟩ := st
    obtain ⟨rfl, h2⟩ := hI
    obtain ⟨σ2, h3, h4⟩ := hs i σ1 hi h2
    exact ⟨_, h3, rfl, h4⟩) (fun st hI => by
    obtain ⟨σ1, b⟩ := st
    obtain ⟨rfl, h2⟩ := hI
    obtain ⟨σ2, h3, h4⟩ := he σ1 h2
    exact ⟨_, h3, rfl, h4⟩) (kFuel_lt hn) (σ, B 0) ⟨rfl, h0⟩
  obtain ⟨σ', g'⟩ := r
  have h2 : g' = g := h2
  subst h2
  exact ⟨σ', h1, h3⟩
theorem kw_inc {i : Nat} (h : i < 2000000000) : w32 ((i : Int) + 1) = ((i + 1 : Nat) : Int) := by
  rw [w32_s (by omega) (by omega)]
  rfl
section ACCI
variable {N M tp : Int} {L : Nat → Int} {PH PF PB : List Int} {σ σ' μ μ' : kM} {q q' : Nat → Int}
def acB (s : Int) (i : Nat) : Int := if kand (kshr s (i : Int)) 1 = 1 then 1 else 0
def acW (t s : Int) (n : Nat) : Int := kit (fun i v => w32 (v * (if kand (kshr s (i : Int)) 1 = 1 then t else w32 (10 - t)))) n 1
def acY (N M : Int) (PH PF PB : List Int) (L : Nat → Int) (s : Int) (n : Nat) (q : Nat → Int) : Nat → Int := kit (fun i q => sp_year N M PH PF PB L (acB s i) q) n q
def acT (N M : Int) (PH PF PB : List Int) (L : Nat → Int) (q : Nat → Int) (p n t : Int) (k : Nat) : Int := kit (fun i v => w32 (v + (if acY N M PH PF PB L (i : Int) n.toNat (trow q) (9 + p).toNat = 0 then acW t (i : Int) n.toNat else 0))) k 0
theorem acP : ∀ i : Nat, i < 5 → (10 : Int) ^ i * 10 ≤ 100000 ∧ 0 ≤ (10 : Int) ^ i := by decide
theorem acW_rng {t s : Int} (ht : 0 ≤ t ∧ t ≤ 10) (n : Nat) (hn : n ≤ 5) : 0 ≤ acW t s n ∧ acW t s n ≤ (10 : Int) ^ n := by
  unfold acW
  refine kit_indN (P := fun i (v : Int) => 0 ≤ v ∧ v ≤ (10 : Int) ^ i) _ ⟨by decide, by decide⟩ (fun i v hi hv => ?_)
  have hc : 0 ≤ (if kand (kshr s (i : Int)) 1 = 1 then t else w32 (10 - t)) ∧ (if kand (kshr s (i : Int)) 1 = 1 then t else w32 (10 - t)) ≤ 10 := by
    rw [w32_s (v := 10 - t) (by omega) (by omega)]
    split <;> omega
  generalize (if kand (kshr s (i : Int)) 1 = 1 then t else w32 (10 - t)) = c at hc
  have hp := acP i (by omega)
  have h1 := Int.mul_nonneg hv.1 hc.1
  have h2 := Int.mul_le_mul hv.2 hc.2 hc.1 hp.2
  rw [w32_s (by omega) (by omega), Int.pow_succ]
  exact ⟨h1, h2⟩
theorem acW_5 {t s : Int} (ht : 0 ≤ t ∧ t ≤ 10) {n : Nat} (hn : n ≤ 5) : 0 ≤ acW t s n ∧ acW t s n ≤ 100000 := by
  have h := acW_rng (s := s) ht n hn
  have hp : ∀ i : Nat, i < 6 → (10 : Int) ^ i ≤ 100000 := by decide
  exact ⟨h.1, Int.le_trans h.2 (hp n (by omega))⟩
theorem acT_rng {p n t : Int} (ht : 0 ≤ t ∧ t ≤ 10) (hn : n ≤ 5) (k : Nat) (hk : k ≤ 1000) : 0 ≤ acT N M PH PF PB L q p n t k ∧ acT N M PH PF PB L q p n t k ≤ 100000 * (k : Int) := by
  unfold acT
  refine kit_indN (P := fun i (v : Int) => 0 ≤ v ∧ v ≤ 100000 * (i : Int)) _ ⟨by decide, by decide⟩ (fun i v hi hv => ?_)
  have h5 := acW_5 (s := (i : Int)) ht (n := n.toNat) (by omega)
  have hc : 0 ≤ (if acY N M PH PF PB L (i : Int) n.toNat (trow q) (9 + p).toNat = 0 then acW t (i : Int) n.toNat else 0) ∧ (if acY N M PH PF PB L (i : Int) n.toNat (trow q) (9 + p).toNat = 0 then acW t (i : Int) n.toNat else 0) ≤ 100000 := by
    split
    · exact h5
    · decide
  generalize (if acY N M PH PF PB L (i : Int) n.toNat (trow q) (9 + p).toNat = 0 then acW t (i : Int) n.toNat else 0) = c at hc
  clear h5
  rw [w32_s (by omega) (by omega)]
  omega
theorem acT_s {p n t : Int} (k : Nat) : acT N M PH PF PB L q p n t (k + 1) = w32 (acT N M PH PF PB L q p n t k + (if acY N M PH PF PB L (k : Int) n.toNat (trow q) (9 + p).toNat = 0 then acW t (k : Int) n.toNat else 0)) := rfl
theorem acT_0 {p n t : Int} (ht : 0 ≤ t ∧ t ≤ 10) (hn : n ≤ 5) {k : Nat} (hk : k ≤ 1000) (h0 : acW t (k : Int) n.toNat = 0) : acT N M PH PF PB L q p n t (k + 1) = acT N M PH PF PB L q p n t k := by
  have h1 := acT_rng (N := N) (M := M) (PH := PH) (PF := PF) (PB := PB) (L := L) (q := q) (p := p) (n := n) ht hn k hk
  rw [acT_s, h0, ite_self, Int.add_zero]
  generalize acT N M PH PF PB L q p n t k = v at h1
  exact w32_s (by omega) (by omega)
theorem c_weight {p n t a s : Int} (hn : 0 ≤ n ∧ n ≤ 8) : kloop (fun st => pf_Oracle_chanceWhole_57_l20 σ p n t a s st.1 st.2) kFuel (1, 0) = some (acW t s n.toNat) :=
  kl_V (body := fun st => pf_Oracle_chanceWhole_57_l20 σ p n t a s st.1 st.2) (fun i => (acW t s i, (i : Int))) n.toNat (acW t s n.toNat) (by omega) (fun i hi => by
    have c0 : ¬ n ≤ (i : Int) := by omega
    have ew := kw_inc (i := i) (by omega)
    have e : acW t s (i + 1) = w32 (acW t s i * (if kand (kshr s (i : Int)) 1 = 1 then t else w32 (10 - t))) := rfl
    show pf_Oracle_chanceWhole_57_l20 σ p n t a s (acW t s i) (i : Int) = some (Sum.inl (acW t s (i + 1), ((i + 1 : Nat) : Int)))
    unfold pf_Oracle_chanceWhole_57_l20 pf_Oracle_chanceWhole_57_l20_j47
    rw [if_neg c0, e]
    by_cases c : kand (kshr s (i : Int)) 1 = 1
    · rw [if_pos c, if_pos c, klet_eq, klet_eq, ew]
    · rw [if_neg c, if_neg c, klet_eq, klet_eq, ew]) (by
    show pf_Oracle_chanceWhole_57_l20 σ p n t a s (acW t s n.toNat) ((n.toNat : Nat) : Int) = _
    unfold pf_Oracle_chanceWhole_57_l20
    rw [if_pos (by omega)]) rfl
theorem c_stays (h : CN N M tp L PH PF PB σ q) {p n s : Int} (hp : 0 ≤ p ∧ p < N) (hn : 0 ≤ n ∧ n ≤ 8) : ∃ σ', pf_Oracle_staysWhole_57 σ p n s = some (if acY N M PH PF PB L s n.toNat (trow q) (9 + p).toNat = 0 then 1 else 0, σ') ∧ fr64 σ σ' := by
  have hn1 := h.1.1
  obtain ⟨σ1, a1, a2, a3⟩ := c_begin h
  obtain ⟨σ2, b1, b2, b3⟩ := kl_M (body := fun st => pf_Oracle_staysWhole_57_l7 st.1 p n s st.2) (fun i σ2 => TC N M tp L PH PF PB σ2 (acY N M PH PF PB L s i (trow q)) ∧ fr64 σ σ2) (fun i => (i : Int)) n.toNat (by omega) (fun i σ2 hi hs => by
    have c0 : ¬ n ≤ (i : Int) := by omega
    have ew := kw_inc (i := i) (by omega)
    obtain ⟨σ3, t1, t2, t3⟩ := c_tstep hs.1 (acB s i)
    refine ⟨σ3, ?_, t2, hs.2.trans t3⟩
    show pf_Oracle_staysWhole_57_l7 σ2 p n s (i : Int) = _
    unfold pf_Oracle_staysWhole_57_l7 pf_Oracle_staysWhole_57_l7_j32
    rw [if_neg c0]
    unfold acB at t1
    by_cases c : kand (kshr s (i : Int)) 1 = 1
    · rw [if_pos c] at t1 ⊢
      rw [kbind_eq t1, klet_eq, ew]
    · rw [if_neg c] at t1 ⊢
      rw [kbind_eq t1, klet_eq, ew]) (fun σ2 hs => by
    refine ⟨σ2, ?_, hs⟩
    show pf_Oracle_staysWhole_57_l7 σ2 p n s ((n.toNat : Nat) : Int) = _
    unfold pf_Oracle_staysWhole_57_l7
    rw [if_pos (by omega)]) (σ := σ1) ⟨a2, a3⟩ (b0 := 0) rfl
  refine ⟨σ2, ?_, b3⟩
  unfold pf_Oracle_staysWhole_57
  rw [kbind_eq a1, kbind_eq b1, w32_s (v := 9 + p) (by omega) (by omega), kchk_t (by omega), b2.2.2.1.1.scars hp.1 (by omega)]
  by_cases c : acY N M PH PF PB L s n.toNat (trow q) (9 + p).toNat = 0
  · rw [if_pos c, if_pos c]
  · rw [if_neg c, if_neg c]
theorem ksh5 : ∀ n : Fin 6, kshl 1 (n.val : Int) ≤ 32 := by decide +kernel
theorem ksh_5 {n : Int} (h0 : 0 ≤ n) (h : n ≤ 5) : kshl 1 n ≤ 32 := by
  have h1 := ksh5 ⟨n.toNat, by omega⟩
  simp only [Int.toNat_of_nonneg h0] at h1
  exact h1
theorem c_chance (h : CN N M tp L PH PF PB σ q) {p n t : Int} (hp : 0 ≤ p ∧ p < N) (hn : 1 ≤ n ∧ n ≤ 5) (ht : 0 ≤ t ∧ t ≤ 10) : ∃ σ', pf_Oracle_chanceWhole_57 σ p n t = some (acT N M PH PF PB L q p n t (kshl 1 n).toNat, σ') ∧ kpC σ σ' := by
  have hk := ksh_rng (n := n) (by omega) (by omega)
  have hk5 := ksh_5 (n := n) (by omega) hn.2
  obtain ⟨σ1, b1, b2⟩ := kl_S (body := fun st => pf_Oracle_chanceWhole_57_l6 st.1 p n t st.2.1 st.2.2) (fun σ1 => kpC σ σ1) (fun i => (acT N M PH PF PB L q p n t i, (i : Int))) (kshl 1 n).toNat (acT N M PH PF PB L q p n t (kshl 1 n).toNat) (by omega) (fun i σ1 hi hs => by
    have c0 : ¬ kshl 1 n ≤ (i : Int) := by omega
    have ew := kw_inc (i := i) (by omega)
    have hi2 : i ≤ 1000 := by omega
    have hw := acW_5 (s := (i : Int)) ht (n := n.toNat) (by omega)
    show ∃ σ2, pf_Oracle_chanceWhole_57_l6 σ1 p n t (acT N M PH PF PB L q p n t i) (i : Int) = some (Sum.inl (σ2, acT N M PH PF PB L q p n t (i + 1), ((i + 1 : Nat) : Int))) ∧ kpC σ σ2
    unfold pf_Oracle_chanceWhole_57_l6
    rw [if_neg c0, kbind_eq (c_weight ⟨by omega, by omega⟩)]
    by_cases c : acW t (i : Int) n.toNat ≤ 0
    · have e0 : acW t (i : Int) n.toNat = 0 := Int.le_antisymm c hw.1
      rw [if_pos c, acT_0 ht hn.2 hi2 e0]
      unfold pf_Oracle_chanceWhole_57_l6_j79
      rw [klet_eq, ew]
      exact ⟨σ1, rfl, hs⟩
    · obtain ⟨σ2, t1, t2⟩ := c_stays (h.kp hs) hp (n := n) (s := (i : Int)) ⟨by omega, by omega⟩
      rw [if_neg c, kbind_eq t1, acT_s]
      dsimp only
      unfold pf_Oracle_chanceWhole_57_l6_j79
      by_cases d : acY N M PH PF PB L (i : Int) n.toNat (trow q) (9 + p).toNat = 0
      · rw [if_pos d, if_neg (show ¬ (1 : Int) = 0 by decide), if_pos d, klet_eq, klet_eq, ew]
        exact ⟨σ2, rfl, hs.trans (kpC.fr64 t2)⟩
      · have h1 := acT_rng (N := N) (M := M) (PH := PH) (PF := PF) (PB := PB) (L := L) (q := q) (p := p) (n := n) ht hn.2 i hi2
        rw [if_neg d, if_pos rfl, if_neg d, klet_eq, ew, Int.add_zero]
        refine ⟨σ2, ?_, hs.trans (kpC.fr64 t2)⟩
        generalize acT N M PH PF PB L q p n t i = v at h1
        rw [w32_s (v := v) (by omega) (by omega)]) (fun σ1 hs => by
    refine ⟨σ1, ?_, hs⟩
    show pf_Oracle_chanceWhole_57_l6 σ1 p n t (acT N M PH PF PB L q p n t (kshl 1 n).toNat) (((kshl 1 n).toNat : Nat) : Int) = _
    unfold pf_Oracle_chanceWhole_57_l6
    rw [if_pos (by omega)]) (σ := σ) kpC.rfl (b0 := (0, 0)) rfl
  refine ⟨σ1, ?_, b2⟩
  unfold pf_Oracle_chanceWhole_57
  rw [kbind_eq b1]
/-- whatever is said of accidents -/
abbrev zz (μ : kM) : kM := kst μ 0 (kup (μ 0) 48 0)
theorem zz_fr (h : frM 145 μ μ') : frM 145 (zz μ) (zz μ') := by
  refine ⟨fun c h0 h8 h1 => ?_, fun j a b c d => ?_, fun k hk => ?_⟩
  · show kst μ' 0 (kup (μ' 0) 48 0) c = kst μ 0 (kup (μ 0) 48 0) c
    rw [kst_ne h0, kst_ne h0]
    exact h.1 c h0 h8 h1
  · show kst μ' 0 (kup (μ' 0) 48 0) 0 j = kst μ 0 (kup (μ 0) 48 0) 0 j
    rw [kst_eq, kst_eq]
    by_cases e : j = 48
    · subst e
      rw [kup_eq, kup_eq]
    · rw [kup_ne e, kup_ne e]
      exact h.2.1 j a b c d
  · show kst μ' 0 (kup (μ' 0) 48 0) 8 k = kst μ 0 (kup (μ 0) 48 0) 8 k
    rw [kst_ne (by decide), kst_ne (by decide)]
    exact h.2.2 k hk
theorem zz_put {v : Int} : zz (kst μ 0 (kup (μ 0) 48 v)) = zz μ := by
  show kst (kst μ 0 (kup (μ 0) 48 v)) 0 (kup (kst μ 0 (kup (μ 0) 48 v) 0) 48 0) = kst μ 0 (kup (μ 0) 48 0)
  rw [kst_eq, kst_st, kup_up]
theorem zz_id (h : μ 0 48 = 0) : zz μ = μ := by
  have e : kup (μ 0) 48 0 = μ 0 := by
    funext k
    by_cases e : k = 48
    · subst e
      rw [kup_eq, h]
    · rw [kup_ne e]
  show kst μ 0 (kup (μ 0) 48 0) = μ
  rw [e, kst_id]
theorem TN.put48 (h : TN N M tp L PH PF PB μ q) {v : Int} : TN N M tp L PH PF PB (kst μ 0 (kup (μ 0) 48 v)) q := by
  obtain ⟨h1, h2, h3, ⟨w1, w2, w3, w4⟩, h5⟩ := h
  refine ⟨h1, h2.kept (fun j a b => by rw [kst_eq, kup_ne (by omega)]) (kst_ne (by decide)), h3.kept (kst_ne (by decide)), ⟨fun k hk => ?_, fun k hk => ?_, ?_, ?_⟩, h5⟩
  · simp (disch := decide) only [kst_ne]
    exact w1 k hk
  · rw [kst_ne (by decide)]
    exact w2 k hk
  · rw [kst_eq, kup_ne (by decide)]
    exact w3
  · rw [kst_eq, kup_ne (by decide)]
    exact w4
theorem m_way (h : TN N M tp L PH PF PB μ q) {p n t a s : Int} (hn : 0 ≤ n ∧ n ≤ 8) : ∃ μ', kloop (fun st => mm_accidents_l71 st.1 p n t a s st.2.1 st.2.2) kFuel (μ, 1, 0) = some (μ', acW t s n.toNat) ∧ TN N M tp L PH PF PB μ' (acY N M PH PF PB L s n.toNat q) ∧ frM 145 (zz μ) (zz μ') := by
  obtain ⟨μ1, b1, b2⟩ := kl_G (body := fun st => mm_accidents_l71 st.1 p n t a s st.2.1 st.2.2) (fun i μ1 => TN N M tp L PH PF PB μ1 (acY N M PH PF PB L s i q) ∧ frM 145 (zz μ) (zz μ1)) (fun i => (acW t s i, (i : Int))) n.toNat (acW t s n.toNat) (by omega) (fun i μ1 hi hs => by
    have c0 : ¬ n ≤ (i : Int) := by omega
    have ew := kw_inc (i := i) (by omega)
    have e : acW t s (i + 1) = w32 (acW t s i * (if kand (kshr s (i : Int)) 1 = 1 then t else w32 (10 - t))) := rfl
    obtain ⟨hs1, hs2⟩ := hs
    have key : ∀ v w : Int, (v = 0 ∧ w = w32 (10 - t)) ∨ (v = 1 ∧ w = t) → v = acB s i → ∃ μ2, mm_accidents_l71_j94 μ1 p n t a s (acW t s i) (i : Int) v = some (Sum.inl (μ2, w32 (acW t s i * w), ((i + 1 : Nat) : Int))) ∧ TN N M tp L PH PF PB μ2 (acY N M PH PF PB L s (i + 1) q) ∧ frM 145 (zz μ) (zz μ2) := by
      intro v w hv hb
      obtain ⟨μ2, t1, t2, -, t3⟩ := m_tstep (hs1.put48 (v := v)) (acc := v) (by rw [kst_eq, kup_eq])
      have t4 := zz_fr t3
      rw [zz_put] at t4
      have t5 : TN N M tp L PH PF PB μ2 (acY N M PH PF PB L s (i + 1) q) := by
        show TN N M tp L PH PF PB μ2 (sp_year N M PH PF PB L (acB s i) (acY N M PH PF PB L s i q))
        rw [← hb]
        exact t2
      refine ⟨μ2, ?_, t5, hs2.trans t4⟩
      unfold mm_accidents_l71_j94 mm_accidents_l71_j114
      rw [kchk_t (show v = 0 ∨ v = 1 by omega), klet_eq, kst_eq, kup_eq]
      rcases hv with ⟨rfl, rfl⟩ | ⟨rfl, rfl⟩
      · rw [if_pos rfl, klet_eq, kbind_eq t1, klet_eq, ew]
      · rw [if_neg (show ¬ (1 : Int) = 0 by decide), klet_eq, kbind_eq t1, klet_eq, ew]
    show ∃ μ2, mm_accidents_l71 μ1 p n t a s (acW t s i) (i : Int) = some (Sum.inl (μ2, acW t s (i + 1), ((i + 1 : Nat) : Int))) ∧ _
    unfold mm_accidents_l71
    rw [if_neg c0, e]
    by_cases c : kand (kshr s (i : Int)) 1 = 1
    · rw [if_pos c, if_pos c]
      exact key 1 t (Or.inr ⟨rfl, rfl⟩) (by unfold acB; rw [if_pos c])
    · rw [if_neg c, if_neg c]
      exact key 0 (w32 (10 - t)) (Or.inl ⟨rfl, rfl⟩) (by unfold acB; rw [if_neg c])) (fun μ1 hs => by
    refine ⟨μ1, ?_, hs⟩
    show mm_accidents_l71 μ1 p n t a s (acW t s n.toNat) ((n.toNat : Nat) : Int) = _
    unfold mm_accidents_l71
    rw [if_pos (by omega)]) (σ := μ) ⟨h, frM.rfl⟩ (b0 := (1, 0)) rfl
  exact ⟨μ1, b1, b2⟩
theorem m_acci (h : MN N M tp L PH PF PB μ q) {p n t : Int} (hp : 0 ≤ p ∧ p < N) (hn : 1 ≤ n ∧ n ≤ 5) : ∃ μ', kloop (fun st => mm_accidents_l53 st.1 p n t st.2.1 st.2.2) kFuel (μ, 0, 0) = some (μ', acT N M PH PF PB L q p n t (kshl 1 n).toNat) ∧ frM 145 μ (zz μ') := by
  have hn1 := h.1.1
  have hk := ksh_rng (n := n) (by omega) (by omega)
  obtain ⟨μ1, b1, b2⟩ := kl_S (body := fun st => mm_accidents_l53 st.1 p n t st.2.1 st.2.2) (fun μ1 => frM 145 μ (zz μ1)) (fun i => (acT N M PH PF PB L q p n t i, (i : Int))) (kshl 1 n).toNat (acT N M PH PF PB L q p n t (kshl 1 n).toNat) (by omega) (fun i μ1 hi hs => by
    have c0 : ¬ kshl 1 n ≤ (i : Int) := by omega
    have ew := kw_inc (i := i) (by omega)
    have hz := h.fr hs
    have hE1 : EM N M tp PH PF PB μ1 := hz.2.1.kept (fun j a b => by show μ1 0 j = kst μ1 0 (kup (μ1 0) 48 0) 0 j; rw [kst_eq, kup_ne (by omega)]) (kst_ne (by decide)).symm
    have hR1 : RMr μ1 0 q := hz.2.2.1.kept (kst_ne (by decide)).symm
    obtain ⟨μ2, t1, t2, t3⟩ := m_triesG h.1 hE1 hR1 h.2.2.2.1
    obtain ⟨μ3, u1, u2, u3⟩ := m_way t2 (p := p) (n := n) (t := t) (a := acT N M PH PF PB L q p n t i) (s := (i : Int)) ⟨by omega, by omega⟩
    have hf : frM 145 μ (zz μ3) := (hs.trans (zz_fr t3)).trans u3
    have e8 := u2.2.2.1.at (j := (154 + p).toNat) (i := 9 + p) (by omega) (by omega) (by decide) (by omega)
    show ∃ μ2, mm_accidents_l53 μ1 p n t (acT N M PH PF PB L q p n t i) (i : Int) = some (Sum.inl (μ2, acT N M PH PF PB L q p n t (i + 1), ((i + 1 : Nat) : Int))) ∧ frM 145 μ (zz μ2)
    unfold mm_accidents_l53 mm_accidents_l53_j151
    rw [if_neg c0, kbind_eq t1, kbind_eq u1, acT_s]
    dsimp only
    rw [w32_s (v := 154 + p) (by omega) (by omega), kchk_t (by omega), e8]
    by_cases d : acY N M PH PF PB L (i : Int) n.toNat (trow q) (9 + p).toNat = 0
    · rw [if_pos d, if_pos d, klet_eq, klet_eq, ew]
      exact ⟨μ3, rfl, hf⟩
    · rw [if_neg d, if_neg d, klet_eq, klet_eq, ew]
      exact ⟨μ3, rfl, hf⟩) (fun μ1 hs => by
    refine ⟨μ1, ?_, hs⟩
    show mm_accidents_l53 μ1 p n t (acT N M PH PF PB L q p n t (kshl 1 n).toNat) (((kshl 1 n).toNat : Nat) : Int) = _
    unfold mm_accidents_l53
    rw [if_pos (by omega)]) (σ := μ) (by rw [zz_id h.2.2.2.2]; exact frM.rfl) (b0 := (0, 0)) rfl
  exact ⟨μ1, b1, b2⟩
theorem op_accidents (h : RE N M tp L PH PF PB σ μ) (p n t : Int) : OC N M tp L PH PF PB thB (pf_P_accidents_0 σ p n t) (mm_accidents μ p n t) := by
  have hn1 := h.1.1
  have hn2 := h.1.2.1
  have hn3 := h.1.2.2.1
  have hCN := h.cn
  have hMN := h.mn
  obtain ⟨hN, hE, hR, hI⟩ := h.cn
  obtain ⟨-, hEM, hRM, -, -⟩ := h.mn
  unfold pf_P_accidents_0 mm_accidents
  rw [klet_eq]
  by_cases k1 : 0 ≤ p ∧ p < N
  · rw [kbind_eq (c_person1 (by rw [hE.2.1]; exact k1)), kbind_eq (m_isPerson1 (μ := mT μ) mT0 (by rw [hEM.2.1]; exact k1))]
    dsimp only
    rw [if_neg (show ¬ (1 : Int) = 0 by decide)]
    by_cases k2 : 1 ≤ n ∧ n ≤ 5
    · rw [kbind_eq (c_within1 k2), kbind_eq (m_within (μ := mT μ) (x := n)), if_pos k2, if_neg (show ¬ (1 : Int) = 0 by decide)]
      dsimp only
      by_cases k3 : 0 ≤ t ∧ t ≤ 10
      · rw [kbind_eq (c_within1 k3), kbind_eq (m_within (μ := mT μ) (x := t)), if_pos k3, if_neg (show ¬ (1 : Int) = 0 by decide)]
        dsimp only
        obtain ⟨σ1, a1, a2⟩ := c_chance hCN k1 k2 k3
        obtain ⟨μ1, b1, b2⟩ := m_acci hMN (t := t) k1 k2
        unfold mm_accidents_j38
        rw [kbind_eq a1, kbind_eq (m_right1 (μ := mT μ) mT0 (by decide))]
        dsimp only
        rw [if_neg (show ¬ (1 : Int) = 0 by decide), kbind_eq b1]
        dsimp only
        rw [klet_eq]
        exact OC.ok h rfl rfl a2 (kpM.th.trans (kpM.fr b2)) (fr0 b2)
      · rw [kbind_eq (c_within0 k3), kbind_eq (m_within (μ := mT μ) (x := t)), if_neg k3, if_pos rfl]
        unfold mm_accidents_j37 mm_accidents_j38
        rw [kbind_eq (m_right0 (μ := mT μ) mT0 (by decide))]
        exact OC.no h (b := 0) (μ' := mR (mT μ) 2) rfl rfl kpC.rfl (kpM.th.trans kpM.th) (Or.inr ⟨rfl, mR0⟩)
    · rw [kbind_eq (c_within0 k2), kbind_eq (m_within (μ := mT μ) (x := n)), if_neg k2, if_pos rfl]
      unfold mm_accidents_j37 mm_accidents_j38
      rw [kbind_eq (m_right0 (μ := mT μ) mT0 (by decide))]
      exact OC.no h (b := 0) (μ' := mR (mT μ) 2) rfl rfl kpC.rfl (kpM.th.trans kpM.th) (Or.inr ⟨rfl, mR0⟩)
  · rw [kbind_eq (c_person0 (by rw [hE.2.1]; exact k1)), kbind_eq (m_isPerson0 (μ := mT μ) mT0 (by rw [hEM.2.1]; exact k1))]
    exact OC.no h (b := 0) (μ' := mR (mT μ) 1) rfl rfl kpC.rfl (kpM.th.trans kpM.th) (Or.inl ⟨rfl, mR0⟩)
end ACCI

/-! CALLS: safe, plaintiff, sonnet, action -/
theorem kl_M {β : Type} {body : kM × β → Option ((kM × β) ⊕ kM)} (S : Nat → kM → Prop) (B : Nat → β) (n : Nat) (hn : n < 100000000)
    (hs : ∀ (i : Nat) (σ1 : kM), i < n → S i σ1 → ∃ σ2, body (σ1, B i) = some (.inl (σ2, B (i + 1))) ∧ S (i + 1) σ2) (he : ∀ σ1 : kM, S n σ1 → ∃ σ2, body (σ1, B n) = some (.inr σ2) ∧ S n σ2) {σ : kM} (h0 : S 0 σ) {b0 : β} (hb : b0 = B 0) : ∃ σ', kloop body kFuel (σ, b0) = some σ' ∧ S n σ' := by
  subst hb
  obtain ⟨r, h1, h2⟩ := kOk_for (body := body) (P := fun r => S n r) n (fun i st => st.2 = B i ∧ S i st.1) (fun i st hi hI => by
    obtain ⟨σ1, b⟩ := st
    obtain ⟨rfl, h2⟩ := hI
    obtain ⟨σ2, h3, h4⟩ := hs i σ1 hi h2
    exact ⟨_, h3, rfl, h4⟩) (fun st hI => by
    obtain ⟨σ1, b⟩ := st
    obtain ⟨rfl, h2⟩ := hI
    obtain ⟨σ2, h3, h4⟩ := he σ1 h2
    exact ⟨_, h3, h4⟩) (kFuel_lt hn) (σ, B 0) ⟨rfl, h0⟩
  exact ⟨r, h1, h2⟩
theorem kb_01 : ∀ s : Fin 256, ∀ l : Fin 8, kand (kshr (s.val : Int) (l.val : Int)) 1 = 0 ∨ kand (kshr (s.val : Int) (l.val : Int)) 1 = 1 := by decide +kernel
theorem kb_hi : ∀ s : Fin 256, ∀ n : Fin 9, ∀ l : Fin 8, (s.val : Int) < kshl 1 (n.val : Int) → n.val ≤ l.val → kand (kshr (s.val : Int) (l.val : Int)) 1 = 0 := by decide +kernel
theorem kb_sh : ∀ n : Fin 9, 1 ≤ kshl 1 (n.val : Int) ∧ kshl 1 (n.val : Int) ≤ 256 := by decide +kernel
theorem ksh_rng {n : Int} (h0 : 0 ≤ n) (h : n ≤ 8) : 1 ≤ kshl 1 n ∧ kshl 1 n ≤ 256 := by
  have h1 := kb_sh ⟨n.toNat, by omega⟩
  simp only [Int.toNat_of_nonneg h0] at h1
  exact h1
theorem kbt01 {s l : Int} (hs0 : 0 ≤ s) (hs : s < 256) (hl0 : 0 ≤ l) (hl : l < 8) : kand (kshr s l) 1 = 0 ∨ kand (kshr s l) 1 = 1 := by
  have h := kb_01 ⟨s.toNat, by omega⟩ ⟨l.toNat, by omega⟩
  simp only [Int.toNat_of_nonneg hs0, Int.toNat_of_nonneg hl0] at h
  exact h
theorem kbt0 {s n l : Int} (hs0 : 0 ≤ s) (hs : s < kshl 1 n) (hn0 : 0 ≤ n) (hn : n ≤ l) (hl : l < 8) : kand (kshr s l) 1 = 0 := by
  have hr := ksh_rng hn0 (by omega)
  have h := kb_hi ⟨s.toNat, by omega⟩ ⟨n.toNat, by omega⟩ ⟨l.toNat, by omega⟩
  simp only [Int.toNat_of_nonneg hs0, Int.toNat_of_nonneg hn0, Int.toNat_of_nonneg (show 0 ≤ l by omega)] at h
  exact h hs (by omega)
/-- a sum over a set of places -/
def bsum (f : Nat → Int) (n : Nat) (s : Int) : Int := kit (fun l v => if kand (kshr s (l : Int)) 1 = 0 then v else w32 (v + f l)) n 0
theorem bsum_rng (f : Nat → Int) (n : Nat) (s : Int) : kR32 (bsum f n s) := by
  unfold bsum
  refine kit_ind (P := fun v => kR32 v) _ k32_0 (fun i v _ h => ?_)
  split
  · exact h
  · exact w32_rng _
theorem bsum_c {f f' : Nat → Int} {n K : Nat} {s : Int} (hnK : n ≤ K) (hK : K ≤ 8) (hs0 : 0 ≤ s) (hs : s < kshl 1 (n : Int)) (hf : ∀ l, l < n → f' l = f l) : kit (fun l v => w32 (v + (if kand (kshr s (l : Int)) 1 = 1 then f' l else 0))) K 0 = bsum f n s := by
  have hr := ksh_rng (n := (n : Int)) (by omega) (by omega)
  have key : ∀ k : Nat, k ≤ K → kit (fun l v => w32 (v + (if kand (kshr s (l : Int)) 1 = 1 then f' l else 0))) k 0 = bsum f (min k n) s := by
    intro k
    induction k with
    | zero => intro _; rw [Nat.zero_min]; rfl
    | succ k ih =>
      intro hk
      show w32 (kit (fun l v => w32 (v + (if kand (kshr s (l : Int)) 1 = 1 then f' l else 0))) k 0 + _) = _
      rw [ih (by omega)]
      have hb := kbt01 (s := s) (l := (k : Int)) hs0 (by omega) (by omega) (by omega)
      have hg := bsum_rng f (min k n) s
      by_cases hkn : k < n
      · rw [show min (k + 1) n = k + 1 by omega, show min k n = k by omega] at *
        show _ = (if kand (kshr s (k : Int)) 1 = 0 then bsum f k s else w32 (bsum f k s + f k))
        rcases hb with hb | hb
        · rw [hb, if_neg (by decide), if_pos rfl, Int.add_zero]
          exact w32_id hg
        · rw [hb, if_pos rfl, if_neg (by decide), hf k hkn]
      · rw [show min (k + 1) n = n by omega, show min k n = n by omega] at *
        rw [kbt0 (n := (n : Int)) hs0 hs (by omega) (by omega) (by omega), if_neg (by decide), Int.add_zero]
        exact w32_id hg
  rw [key K (Nat.le_refl _), show min K n = n by omega]
theorem bsum_m {f : Nat → Int} {n : Nat} {s : Int} (hn : n ≤ 8) (hs0 : 0 ≤ s) (hs : s < 256) (hf : ∀ l, l < n → kR32 (f l)) : kit (fun l v => w32 (v + w32 (kand (kshr s (l : Int)) 1 * f l))) n 0 = bsum f n s := by
  have key : ∀ k : Nat, k ≤ n → kit (fun l v => w32 (v + w32 (kand (kshr s (l : Int)) 1 * f l))) k 0 = bsum f k s := by
    intro k
    induction k with
    | zero => intro _; rfl
    | succ k ih =>
      intro hk
      show w32 (kit (fun l v => w32 (v + w32 (kand (kshr s (l : Int)) 1 * f l))) k 0 + _) = (if kand (kshr s (k : Int)) 1 = 0 then bsum f k s else w32 (bsum f k s + f k))
      rw [ih (by omega)]
      rcases kbt01 (s := s) (l := (k : Int)) hs0 hs (by omega) (by omega) with hb | hb
      · rw [hb, if_pos rfl, Int.zero_mul, show w32 0 = 0 by decide, Int.add_zero]
        exact w32_id (bsum_rng f k s)
      · rw [hb, if_neg (by decide), Int.one_mul, w32_id (hf k (by omega))]
  exact key n (Nat.le_refl _)
section OPS2
variable {N M tp : Int} {L : Nat → Int} {PH PF PB : List Int} {σ σ' μ μ' : kM} {q : Nat → Int}
/-- nobody is hit by that depth -/
def quiet (N : Int) (PH : List Int) (q : Nat → Int) (w t d : Int) : Prop := ∀ p : Int, 0 ≤ p → p < N → sp_in PH q w p t d ≤ 0
def safeV (N : Int) (PH : List Int) (q : Nat → Int) (w t v : Int) : Prop := (∃ d : Int, 0 ≤ d ∧ d < 10 ∧ ¬ quiet N PH q w t d ∧ (∀ d' : Int, 0 ≤ d' → d' < d → quiet N PH q w t d') ∧ v = d - 1) ∨ ((∀ d : Int, 0 ≤ d → d < 10 → quiet N PH q w t d) ∧ v = 9)
theorem safeV_one {w t v v' : Int} (h : safeV N PH q w t v) (h' : safeV N PH q w t v') : v = v' := by
  rcases h with ⟨d, h1, h2, h3, h4, rfl⟩ | ⟨h1, rfl⟩
  · rcases h' with ⟨e, g1, g2, g3, g4, rfl⟩ | ⟨g1, rfl⟩
    · rcases Int.lt_trichotomy d e with hlt | rfl | hgt
      · exact absurd (g4 d h1 hlt) h3
      · rfl
      · exact absurd (h4 e g1 hgt) g3
    · exact absurd (g1 d h1 h2) h3
  · rcases h' with ⟨e, g1, g2, g3, g4, rfl⟩ | ⟨g1, rfl⟩
    · exact absurd (h1 e g1 g2) g3
    · rfl
theorem c_safe (h : CN N M tp L PH PF PB σ q) {w t : Int} (hw : 0 ≤ w ∧ w < M) (ht : 0 ≤ t ∧ t < tp) : ∃ v σ', pf_Court_safeDepth_50 σ w t = some (v, σ') ∧ safeV N PH q w t v ∧ scr 49 σ σ' := by
  have hn1 := h.1.1
  have inner : ∀ (σ1 : kM) (d : Int), scr 49 σ σ1 → kOk (kloop (fun st => pf_Court_safeDepth_50_l11 st.1 w t d st.2) kFuel (σ1, 0)) (Sum.elim (fun σ2 => scr 49 σ σ2 ∧ ¬ quiet N PH q w t d) (fun σ2 => scr 49 σ σ2 ∧ quiet N PH q w t d)) := by
    intro σ1 d hs1
    refine kOk_for N.toNat (fun i st => st.2 = (i : Int) ∧ scr 49 σ st.1 ∧ ∀ p : Int, 0 ≤ p → p < (i : Int) → sp_in PH q w p t d ≤ 0) ?_ ?_ (kFuel_lt (by omega)) _ ⟨rfl, hs1, fun p h0 h1 => absurd h1 (by omega)⟩
    · intro i st hi hI
      obtain ⟨σ2, x⟩ := st
      obtain ⟨rfl, h1, h2⟩ := hI
      have h3 : CN N M tp L PH PF PB σ2 q := h.scr h1
      obtain ⟨σ3, h4, h5⟩ := cs_in43 (d := d) h3.2.1 h3.1 h3.2.2.1 hw.1 hw.2 (p := (i : Int)) (by omega) (by omega) ht.1 ht.2
      show kOk (pf_Court_safeDepth_50_l11 σ2 w t d (i : Int)) _
      unfold pf_Court_safeDepth_50_l11
      rw [h3.2.1.2.1, if_neg (by omega), h4]
      simp only [Option.bind, klet]
      by_cases hz : sp_in PH q w (i : Int) t d ≤ 0
      · rw [if_pos hz, w32_s (by omega) (by omega)]
        refine ⟨_, rfl, by simp, scr.trans h1 h5, fun p h6 h7 => ?_⟩
        by_cases e : p = (i : Int)
        · rw [e]; exact hz
        · exact h2 p h6 (by omega)
      · rw [if_neg hz]
        exact ⟨_, rfl, scr.trans h1 h5, fun hq => hz (hq (i : Int) (by omega) (by omega))⟩
    · intro st hI
      obtain ⟨σ2, x⟩ := st
      obtain ⟨rfl, h1, h2⟩ := hI
      have h3 : CN N M tp L PH PF PB σ2 q := h.scr h1
      refine ⟨.inr (.inr σ2), ?_, h1, fun p h6 h7 => h2 p h6 (by omega)⟩
      show pf_Court_safeDepth_50_l11 σ2 w t d ((N.toNat : Nat) : Int) = _
      unfold pf_Court_safeDepth_50_l11
      rw [h3.2.1.2.1, if_pos (by omega)]
  have outer : kOk (kloop (fun st => pf_Court_safeDepth_50_l2 st.1 w t st.2) kFuel (σ, 0)) (Sum.elim (fun (r : kM × Int) => scr 49 σ r.1 ∧ 0 ≤ r.2 ∧ r.2 < 10 ∧ ¬ quiet N PH q w t r.2 ∧ ∀ d' : Int, 0 ≤ d' → d' < r.2 → quiet N PH q w t d') (fun σ2 => scr 49 σ σ2 ∧ ∀ d : Int, 0 ≤ d → d < 10 → quiet N PH q w t d)) := by
    refine kOk_for 10 (fun i st => st.2 = (i : Int) ∧ scr 49 σ st.1 ∧ ∀ d : Int, 0 ≤ d → d < (i : Int) → quiet N PH q w t d) ?_ ?_ (kFuel_lt (by omega)) _ ⟨rfl, scr.rfl, fun p h0 h1 => absurd h1 (by omega)⟩
    · intro i st hi hI
      obtain ⟨σ2, x⟩ := st
      obtain ⟨rfl, h1, h2⟩ := hI
      show kOk (pf_Court_safeDepth_50_l2 σ2 w t (i : Int)) _
      unfold pf_Court_safeDepth_50_l2
      rw [if_neg (by omega)]
      refine (inner σ2 (i : Int) h1).then ?_
      intro r hr
      cases r with
      | inl σ3 => exact ⟨_, rfl, hr.1, by omega, by show (i : Int) < 10; omega, hr.2, h2⟩
      | inr σ3 =>
        simp only [klet]
        rw [w32_s (by omega) (by omega)]
        refine ⟨_, rfl, by simp, hr.1, fun d h6 h7 => ?_⟩
        by_cases e : d = (i : Int)
        · rw [e]; exact hr.2
        · exact h2 d h6 (by omega)
    · intro st hI
      obtain ⟨σ2, x⟩ := st
      obtain ⟨rfl, h1, h2⟩ := hI
      refine ⟨.inr (.inr σ2), ?_, h1, h2⟩
      show pf_Court_safeDepth_50_l2 σ2 w t ((10 : Nat) : Int) = _
      unfold pf_Court_safeDepth_50_l2
      rw [if_pos (by decide)]
  unfold pf_Court_safeDepth_50
  obtain ⟨r, h1, h2⟩ := outer
  rw [h1]
  cases r with
  | inl r =>
    obtain ⟨σ1, d⟩ := r
    obtain ⟨h3, h4, h5, h6, h7⟩ := h2
    refine ⟨d - 1, σ1, ?_, Or.inl ⟨d, h4, h5, h6, h7, rfl⟩, h3⟩
    show (if d ≤ 0 then some ((-1), σ1) else some (w32 (d - 1), σ1)) = _
    have h4 : 0 ≤ d := h4
    have h5 : d < 10 := h5
    split
    · rw [show d = 0 by omega]
      rfl
    · rw [w32_s (by omega) (by omega)]
  | inr σ1 => exact ⟨9, σ1, rfl, Or.inr ⟨h2.2, rfl⟩, h2.1⟩
theorem m_safe (h : MN N M tp L PH PF PB μ q) {w t : Int} (hw : 0 ≤ w ∧ w < M) (ht : 0 ≤ t ∧ t < tp) : ∃ v μ', ((kloop (fun st => mm_safe_l36 st.1 w t st.2) kFuel (μ, 0)).bind fun ex_16 => match ex_16 with
        | (Sum.inl (σ_18, x3_19)) =>
          some ((w32 (x3_19 - 1), σ_18))
        | (Sum.inr σ_20) =>
          some ((9, σ_20))) = some (v, μ') ∧ safeV N PH q w t v ∧ scrM μ μ' := by
  have hn1 := h.1.1
  have inner : ∀ (σ1 : kM) (d : Int), scrM μ σ1 → kOk (kloop (fun st => mm_safe_l45 st.1 w t d st.2) kFuel (σ1, 0)) (Sum.elim (fun σ2 => scrM μ σ2 ∧ ¬ quiet N PH q w t d) (fun σ2 => scrM μ σ2 ∧ quiet N PH q w t d)) := by
    intro σ1 d hs1
    refine kOk_for N.toNat (fun i st => st.2 = (i : Int) ∧ scrM μ st.1 ∧ ∀ p : Int, 0 ≤ p → p < (i : Int) → sp_in PH q w p t d ≤ 0) ?_ ?_ (kFuel_lt (by omega)) _ ⟨rfl, hs1, fun p h0 h1 => absurd h1 (by omega)⟩
    · intro i st hi hI
      obtain ⟨σ2, x⟩ := st
      obtain ⟨rfl, h1, h2⟩ := hI
      have h3 : MN N M tp L PH PF PB σ2 q := h.scr h1
      obtain ⟨σ3, h4, h5⟩ := ms_in (d := d) h3.2.1 h3.1 h3.2.2.1 (by decide) (by decide) hw.1 hw.2 (p := (i : Int)) (by omega) (by omega) ht.1 ht.2
      show kOk (mm_safe_l45 σ2 w t d (i : Int)) _
      unfold mm_safe_l45
      rw [h3.2.1.2.1, if_neg (by omega), h4]
      simp only [Option.bind, klet]
      by_cases hz : sp_in PH q w (i : Int) t d ≤ 0
      · rw [if_pos hz, w32_s (by omega) (by omega)]
        refine ⟨_, rfl, by simp, scrM.trans h1 h5, fun p h6 h7 => ?_⟩
        by_cases e : p = (i : Int)
        · rw [e]; exact hz
        · exact h2 p h6 (by omega)
      · rw [if_neg hz]
        exact ⟨_, rfl, scrM.trans h1 h5, fun hq => hz (hq (i : Int) (by omega) (by omega))⟩
    · intro st hI
      obtain ⟨σ2, x⟩ := st
      obtain ⟨rfl, h1, h2⟩ := hI
      have h3 : MN N M tp L PH PF PB σ2 q := h.scr h1
      refine ⟨.inr (.inr σ2), ?_, h1, fun p h6 h7 => h2 p h6 (by omega)⟩
      show mm_safe_l45 σ2 w t d ((N.toNat : Nat) : Int) = _
      unfold mm_safe_l45
      rw [h3.2.1.2.1, if_pos (by omega)]
  have outer : kOk (kloop (fun st => mm_safe_l36 st.1 w t st.2) kFuel (μ, 0)) (Sum.elim (fun (r : kM × Int) => scrM μ r.1 ∧ 0 ≤ r.2 ∧ r.2 < 10 ∧ ¬ quiet N PH q w t r.2 ∧ ∀ d' : Int, 0 ≤ d' → d' < r.2 → quiet N PH q w t d') (fun σ2 => scrM μ σ2 ∧ ∀ d : Int, 0 ≤ d → d < 10 → quiet N PH q w t d)) := by
    refine kOk_for 10 (fun i st => st.2 = (i : Int) ∧ scrM μ st.1 ∧ ∀ d : Int, 0 ≤ d → d < (i : Int) → quiet N PH q w t d) ?_ ?_ (kFuel_lt (by omega)) _ ⟨rfl, scrM.rfl, fun p h0 h1 => absurd h1 (by omega)⟩
    · intro i st hi hI
      obtain ⟨σ2, x⟩ := st
      obtain ⟨rfl, h1, h2⟩ := hI
      show kOk (mm_safe_l36 σ2 w t (i : Int)) _
      unfold mm_safe_l36
      rw [if_neg (by omega)]
      refine (inner σ2 (i : Int) h1).then ?_
      intro r hr
      cases r with
      | inl σ3 => exact ⟨_, rfl, hr.1, by omega, by show (i : Int) < 10; omega, hr.2, h2⟩
      | inr σ3 =>
        simp only [klet]
        rw [w32_s (by omega) (by omega)]
        refine ⟨_, rfl, by simp, hr.1, fun d h6 h7 => ?_⟩
        by_cases e : d = (i : Int)
        · rw [e]; exact hr.2
        · exact h2 d h6 (by omega)
    · intro st hI
      obtain ⟨σ2, x⟩ := st
      obtain ⟨rfl, h1, h2⟩ := hI
      refine ⟨.inr (.inr σ2), ?_, h1, h2⟩
      show mm_safe_l36 σ2 w t ((10 : Nat) : Int) = _
      unfold mm_safe_l36
      rw [if_pos (by decide)]
  obtain ⟨r, h1, h2⟩ := outer
  rw [h1]
  cases r with
  | inl r =>
    obtain ⟨σ1, d⟩ := r
    obtain ⟨h3, h4, h5, h6, h7⟩ := h2
    refine ⟨d - 1, σ1, ?_, Or.inl ⟨d, h4, h5, h6, h7, rfl⟩, h3⟩
    show some (w32 (d - 1), σ1) = _
    have h4 : 0 ≤ d := h4
    have h5 : d < 10 := h5
    rw [w32_s (by omega) (by omega)]
  | inr σ1 => exact ⟨9, σ1, rfl, Or.inr ⟨h2.2, rfl⟩, h2.1⟩
theorem op_safe (h : RE N M tp L PH PF PB σ μ) (w t : Int) : OC N M tp L PH PF PB thB (pf_P_safe_0 σ w t) (mm_safe μ w t) := by
  have hn1 := h.1.1
  have hn2 := h.1.2.1
  have hn3 := h.1.2.2.1
  have hCN := h.cn
  have hMN := h.mn
  obtain ⟨hN, hE, hR, hI⟩ := h.cn
  obtain ⟨-, hEM, hRM, -, -⟩ := h.mn
  unfold pf_P_safe_0 mm_safe
  simp only [klet]
  by_cases hw : 0 ≤ w ∧ w < M
  · rw [c_poet1 (by rw [hE.2.2.1]; exact hw), m_isPoet1 mT0 (by rw [hEM.2.2.1]; exact hw)]
    simp only [Option.bind]
    rw [if_neg (show ¬ (1 : Int) = 0 by decide), m_within, hE.1, hEM.1, w32_s (v := tp - 1) (by omega) (by omega)]
    by_cases ht : 0 ≤ t ∧ t ≤ tp - 1
    · rw [c_within1 ht, if_pos ht]
      simp only
      rw [m_right1 mT0 (by decide)]
      simp only
      rw [if_neg (show ¬ (1 : Int) = 0 by decide)]
      obtain ⟨v, σ1, h1, h2, h3⟩ := c_safe hCN hw (t := t) ⟨ht.1, by omega⟩
      obtain ⟨v', μ1, g1, g2, g3⟩ := m_safe hMN hw (t := t) ⟨ht.1, by omega⟩
      have e := safeV_one h2 g2
      subst e
      rw [h1]
      exact OC.ok h rfl g1 (kpC.scr h3) (kpM.th.trans (kpM.scr g3)) (scr0 g3)
    · rw [c_within0 ht, if_neg ht]
      simp only
      rw [m_right0 mT0 (by decide)]
      exact OC.no h (b := 0) (μ' := mR (mT μ) 2) rfl rfl kpC.rfl (kpM.th.trans kpM.th) (Or.inr ⟨rfl, mR0⟩)
  · rw [c_poet0 (by rw [hE.2.2.1]; exact hw), m_isPoet0 mT0 (by rw [hEM.2.2.1]; exact hw)]
    exact OC.no h (b := 0) (μ' := mR (mT μ) 1) rfl rfl kpC.rfl (kpM.th.trans kpM.th) (Or.inl ⟨rfl, mR0⟩)
/-- who owes most -/
def plF (PH PF : List Int) (L : Nat → Int) (q : Nat → Int) (p : Int) (i : Nat) (s : Int × Int) : Int × Int :=
  if nDue PH PF L q (i : Int) p (L i).toNat ≤ s.2 then s else ((i : Int), nDue PH PF L q (i : Int) p (L i).toNat)
theorem op_plaintiff (h : RE N M tp L PH PF PB σ μ) (p : Int) : OC N M tp L PH PF PB thN (pf_P_plaintiff_0 σ p) (mm_plaintiff μ p) := by
  have hn1 := h.1.1
  have hn2 := h.1.2.1
  have hCN := h.cn
  have hMN := h.mn
  obtain ⟨hN, hE, hR, hI⟩ := h.cn
  obtain ⟨-, hEM, hRM, -, -⟩ := h.mn
  unfold pf_P_plaintiff_0 mm_plaintiff
  simp only [klet]
  by_cases hp : 0 ≤ p ∧ p < N
  · rw [c_person1 (by rw [hE.2.1]; exact hp), m_isPerson1 mT0 (by rw [hEM.2.1]; exact hp)]
    simp only [Option.bind]
    rw [if_neg (show ¬ (1 : Int) = 0 by decide)]
    unfold pf_Court_bestDebtor_50
    simp only [klet]
    obtain ⟨σ1, h1, h2⟩ := kl_S (body := fun st => pf_Court_bestDebtor_50_l7 st.1 p st.2.1 st.2.2.1 st.2.2.2) (scr 49 σ) (fun i => ((kit (plF PH PF L (μ 8) p) i (-1, 0)).1, (kit (plF PH PF L (μ 8) p) i (-1, 0)).2, (i : Int))) M.toNat (kit (plF PH PF L (μ 8) p) M.toNat (-1, 0)).1 (by omega) (fun i σ1 hi hs => by
      have h3 := hCN.scr hs
      obtain ⟨σ2, h4, h5⟩ := c_due h3 (w := (i : Int)) (by omega) (by omega) hp.1 hp.2
      refine ⟨σ2, ?_, hs.trans h5⟩
      show pf_Court_bestDebtor_50_l7 σ1 p (kit (plF PH PF L (μ 8) p) i (-1, 0)).1 (kit (plF PH PF L (μ 8) p) i (-1, 0)).2 (i : Int) = some (Sum.inl (σ2, (plF PH PF L (μ 8) p i (kit (plF PH PF L (μ 8) p) i (-1, 0))).1, (plF PH PF L (μ 8) p i (kit (plF PH PF L (μ 8) p) i (-1, 0))).2, ((i + 1 : Nat) : Int)))
      generalize kit (plF PH PF L (μ 8) p) i (-1, 0) = s
      unfold pf_Court_bestDebtor_50_l7 pf_Court_bestDebtor_50_l7_j40 plF
      rw [h3.2.1.2.2.1, if_neg (by omega), h4, Int.toNat_natCast]
      simp only [Option.bind, klet]
      rw [w32_s (v := (i : Int) + 1) (by omega) (by omega)]
      split <;> rfl) (fun σ1 hs => by
      have h3 := hCN.scr hs
      refine ⟨σ1, ?_, hs⟩
      show pf_Court_bestDebtor_50_l7 σ1 p _ _ ((M.toNat : Nat) : Int) = _
      unfold pf_Court_bestDebtor_50_l7
      rw [h3.2.1.2.2.1, if_pos (by omega)]) scr.rfl (b0 := (-1, 0, 0)) rfl
    obtain ⟨μ1, g1, g2⟩ := kl_S (body := fun st => mm_plaintiff_l22 st.1 p st.2.1 st.2.2.1 st.2.2.2) (scrM (mT μ)) (fun i => ((kit (plF PH PF L (μ 8) p) i (-1, 0)).1, (kit (plF PH PF L (μ 8) p) i (-1, 0)).2, (i : Int))) M.toNat (kit (plF PH PF L (μ 8) p) M.toNat (-1, 0)).1 (by omega) (fun i σ1 hi hs => by
      have h3 := hMN.scr hs
      obtain ⟨σ2, h4, h5⟩ := m_due h3 (w := (i : Int)) (by omega) (by omega) hp.1 hp.2
      refine ⟨σ2, ?_, hs.trans h5⟩
      show mm_plaintiff_l22 σ1 p (kit (plF PH PF L (μ 8) p) i (-1, 0)).1 (kit (plF PH PF L (μ 8) p) i (-1, 0)).2 (i : Int) = some (Sum.inl (σ2, (plF PH PF L (μ 8) p i (kit (plF PH PF L (μ 8) p) i (-1, 0))).1, (plF PH PF L (μ 8) p i (kit (plF PH PF L (μ 8) p) i (-1, 0))).2, ((i + 1 : Nat) : Int)))
      generalize kit (plF PH PF L (μ 8) p) i (-1, 0) = s
      unfold mm_plaintiff_l22 mm_plaintiff_l22_j55 plF
      rw [h3.2.1.2.2.1, if_neg (by omega), h4, Int.toNat_natCast]
      simp only [Option.bind, klet]
      rw [w32_s (v := (i : Int) + 1) (by omega) (by omega)]
      by_cases hz : nDue PH PF L (μ 8) (i : Int) p (L i).toNat ≤ s.2
      · rw [if_neg (by omega), if_pos hz]
        rfl
      · rw [if_pos (by omega), if_neg hz]
        rfl) (fun σ1 hs => by
      have h3 := hMN.scr hs
      refine ⟨σ1, ?_, hs⟩
      show mm_plaintiff_l22 σ1 p _ _ ((M.toNat : Nat) : Int) = _
      unfold mm_plaintiff_l22
      rw [h3.2.1.2.2.1, if_pos (by omega)]) scrM.rfl (b0 := (-1, 0, 0)) rfl
    rw [h1, g1]
    exact OC.ok h rfl rfl (kpC.scr h2) (kpM.th.trans (kpM.scr g2)) (scr0 g2)
  · rw [c_person0 (by rw [hE.2.1]; exact hp), m_isPerson0 mT0 (by rw [hEM.2.1]; exact hp)]
    exact OC.no h (b := 0) (μ' := mR (mT μ) 1) rfl rfl kpC.rfl (kpM.th.trans kpM.th) ⟨rfl, mR0⟩
end OPS2

/-! CLASS AND REFERENCE: what holds between their memories, ahead of each call -/
def RV (M tp : Int) (L : Nat → Int) (q : Nat → Int) : Prop := IV M tp L q ∧ HB 9999 q
theorem RV.congr {M tp : Int} {L : Nat → Int} {q q' : Nat → Int} (h : RV M tp L q) (hq : ∀ k : Nat, k < 145 → q' k = q k) : RV M tp L q' := ⟨h.1.congr hq, h.2.congr hq⟩
theorem RCr.congr {N M tp : Int} {L : Nat → Int} {σ : kM} {W : Nat} {q q' : Nat → Int} (h : RCr N M tp L σ W q) (hq : ∀ k : Nat, k < 145 → q' k = q k) : RCr N M tp L σ W q' := by
  intro k hk ho
  rw [hq k hk]
  exact h k hk ho
def CR (N M tp : Int) (L : Nat → Int) (σ : kM) (X W A B I H : Nat) (row kept : Nat → Int) (acts felt : Int) (feels : Nat → Int) : Prop :=
  RCr N M tp L σ W row ∧ RV M tp L row ∧ σ X 1 = acts ∧ (0 ≤ acts ∧ acts ≤ 40) ∧
  (∃ o : Nat, o < 40 ∧ σ X 3 = (o : Int) ∧ ∀ i : Nat, (i : Int) < acts → RCr N M tp L (kst σ W (fun j => σ A (85 * ((o + i) % 40) + j))) W (fun k => kept (145 * i + k)) ∧ RV M tp L (fun k => kept (145 * i + k))) ∧
  σ X 4 = felt ∧ (0 ≤ felt ∧ felt ≤ 8) ∧ ∀ i : Nat, (i : Int) < felt → (σ B i = feels (3 * i) ∧ σ I i = feels (3 * i + 1) ∧ σ H i = feels (3 * i + 2)) ∧ (0 ≤ feels (3 * i) ∧ feels (3 * i) < N) ∧ (1 ≤ feels (3 * i + 1) ∧ feels (3 * i + 1) ≤ 20) ∧ (feels (3 * i + 2) = 0 ∨ feels (3 * i + 2) = 1)
theorem CR.kept {N M tp : Int} {L : Nat → Int} {σ σ' : kM} {X W A B I H : Nat} {row row' kept feels : Nat → Int} {acts felt : Int} (h : CR N M tp L σ X W A B I H row kept acts felt feels) (hW6 : 6 < W) (h4 : σ' 4 = σ 4) (h5 : σ' 5 = σ 5) (h6 : σ' 6 = σ 6) (hX : σ' X = σ X) (hW : σ' W = σ W) (hA : σ' A = σ A) (hB : σ' B = σ B) (hI : σ' I = σ I) (hH : σ' H = σ H) (hr : ∀ k : Nat, k < 145 → row' k = row k) : CR N M tp L σ' X W A B I H row' kept acts felt feels := by
  obtain ⟨a1, a2, a3, a4, ⟨o, b1, b2, b3⟩, a6, a7, a8⟩ := h
  refine ⟨(a1.congr hr).kept hW h4 h5 h6, a2.congr hr, by rw [hX]; exact a3, a4, ⟨o, b1, by rw [hX]; exact b2, fun i hi => ⟨?_, (b3 i hi).2⟩⟩, by rw [hX]; exact a6, a7, fun i hi => ?_⟩
  · rw [hA]
    exact (b3 i hi).1.kept (by rw [kst_eq, kst_eq]) (by rw [kst_ne (by omega), kst_ne (by omega), h4]) (by rw [kst_ne (by omega), kst_ne (by omega), h5]) (by rw [kst_ne (by omega), kst_ne (by omega), h6])
  · rw [hB, hI, hH]
    exact a8 i hi
/-- between them, for a law -/
def RE (N M tp : Int) (L : Nat → Int) (PH PF PB : List Int) (σ μ : kM) : Prop :=
  EN N M tp L PH PF PB ∧ EC N M tp L PH PF PB σ ∧ EM N M tp PH PF PB μ ∧ μ 0 48 = 0 ∧
  CR N M tp L σ 29 31 32 33 34 35 (μ 8) (μ 9) (μ 0 38) (μ 0 53) (μ 19) ∧
  (σ 0 1 = μ 0 9 ∧ (0 ≤ μ 0 9 ∧ μ 0 9 ≤ 700) ∧ ∀ i : Nat, (i : Int) < μ 0 9 → (0 ≤ μ 2 i ∧ μ 2 i < 256) ∧ σ 1 i = if μ 2 i < 128 then μ 2 i else μ 2 i - 256) ∧
  σ 0 2 = μ 0 11 ∧ (∀ i : Nat, i < 3 → σ 2 i = μ 3 i) ∧ (σ 0 8 = μ 0 58 ∧ (μ 0 58 = 0 ∨ μ 0 58 = 1)) ∧
  (μ 0 58 = 1 → CR N M tp L σ 36 38 39 40 41 42 (μ 22) (μ 23) (μ 0 59) (μ 0 60) (μ 24))
def RR (σ μ : kM) : Prop := ∃ (N M tp : Int) (L : Nat → Int) (PH PF PB : List Int), RE N M tp L PH PF PB σ μ
/-- scratch: what no later call sees -/
def kpC (σ σ' : kM) : Prop := ∀ c : Nat, c < 7 ∨ (8 ≤ c ∧ c ≤ 10) ∨ c = 29 ∨ (31 ≤ c ∧ c ≤ 36) ∨ (38 ≤ c ∧ c ≤ 42) → σ' c = σ c
def kpM (μ μ' : kM) : Prop := (∀ c : Nat, c = 1 ∨ c = 2 ∨ c = 3 ∨ c = 9 ∨ c = 19 ∨ (22 ≤ c ∧ c ≤ 24) → μ' c = μ c) ∧ (∀ j : Nat, (1 ≤ j ∧ j ≤ 6) ∨ j = 9 ∨ j = 11 ∨ j = 38 ∨ j = 48 ∨ j = 53 ∨ (58 ≤ j ∧ j ≤ 60) → μ' 0 j = μ 0 j) ∧ ∀ k : Nat, k < 145 → μ' 8 k = μ 8 k
theorem kpC.rfl {σ : kM} : kpC σ σ := fun _ _ => Eq.refl _
theorem kpM.rfl {μ : kM} : kpM μ μ := ⟨fun _ _ => Eq.refl _, fun _ _ => Eq.refl _, fun _ _ => Eq.refl _⟩
theorem kpC.trans {σ σ' σ'' : kM} (h : kpC σ σ') (h' : kpC σ' σ'') : kpC σ σ'' := fun c hc => (h' c hc).trans (h c hc)
theorem kpM.trans {μ μ' μ'' : kM} (h : kpM μ μ') (h' : kpM μ' μ'') : kpM μ μ'' := ⟨fun c hc => (h'.1 c hc).trans (h.1 c hc), fun c hc => (h'.2.1 c hc).trans (h.2.1 c hc), fun c hc => (h'.2.2 c hc).trans (h.2.2 c hc)⟩
theorem kpC.scr {σ σ' : kM} (h : scr 49 σ σ') : kpC σ σ' := fun c hc => h c (by omega) (by omega)
theorem kpC.fr64 {σ σ' : kM} (h : fr64 σ σ') : kpC σ σ' := fun c hc => h c (by omega) (by omega) (by omega) (by omega) (by omega) (by omega) (by omega) (by omega)
theorem kpM.scr {μ μ' : kM} (h : scrM μ μ') : kpM μ μ' := ⟨fun c hc => h c (by omega) (by omega), fun j _ => by rw [h 0 (by decide) (by decide)], fun k _ => by rw [h 8 (by decide) (by decide)]⟩
theorem kpM.fr {μ μ' : kM} (h : frM 145 μ μ') : kpM μ μ' := ⟨fun c hc => h.1 c (by omega) (by omega) (by omega), fun j hj => h.2.1 j (by omega) (by omega) (by omega) (by omega), fun k hk => h.2.2 k (Or.inl (show k < 145 from hk))⟩
theorem kpM.th {μ : kM} {v : Int} : kpM μ (kst μ 0 (kup (μ 0) 0 v)) := ⟨fun c hc => kst_ne (by omega), fun j hj => by rw [kst_eq, kup_ne (by omega)], fun k _ => by rw [kst_ne (by decide)]⟩
theorem kpC.put {σ : kM} {c : Nat} {f : Nat → Int} (hc : c = 7 ∨ (11 ≤ c ∧ c ≤ 28) ∨ c = 30 ∨ c = 37 ∨ 43 ≤ c) : kpC σ (kst σ c f) := fun k hk => kst_ne (by omega)
theorem kpM.put {μ : kM} {c : Nat} {f : Nat → Int} (hc : (4 ≤ c ∧ c ≤ 7) ∨ (10 ≤ c ∧ c ≤ 18) ∨ c = 20 ∨ c = 21 ∨ 25 ≤ c) : kpM μ (kst μ c f) := ⟨fun k hk => kst_ne (by omega), fun j _ => by rw [kst_ne (by omega)], fun k _ => by rw [kst_ne (by omega)]⟩
section REK
variable {N M tp : Int} {L : Nat → Int} {PH PF PB : List Int} {σ σ' μ μ' : kM}
theorem RE.kept (h : RE N M tp L PH PF PB σ μ) (hC : kpC σ σ') (hM : kpM μ μ') : RE N M tp L PH PF PB σ' μ' := by
  obtain ⟨a1, a2, a3, a4, a5, a6, a7, a8, a9, a10⟩ := h
  obtain ⟨m1, m2, m3⟩ := hM
  refine ⟨a1, a2.kept (hC _ (by decide)) (hC _ (by decide)) (hC _ (by decide)) (hC _ (by decide)) (hC _ (by decide)), a3.kept (fun j h1 h2 => m2 j (by omega)) (m1 1 (by decide)), by rw [m2 48 (by decide)]; exact a4, ?_, ?_, ?_, ?_, ?_, ?_⟩
  · rw [m1 9 (by decide), m2 38 (by decide), m2 53 (by decide), m1 19 (by decide)]
    exact a5.kept (by decide) (hC _ (by decide)) (hC _ (by decide)) (hC _ (by decide)) (hC _ (by decide)) (hC _ (by decide)) (hC _ (by decide)) (hC _ (by decide)) (hC _ (by decide)) (hC _ (by decide)) m3
  · rw [hC 0 (by decide), hC 1 (by decide), m1 2 (by decide), m2 9 (by decide)]
    exact a6
  · rw [hC 0 (by decide), m2 11 (by decide)]
    exact a7
  · rw [hC 2 (by decide), m1 3 (by decide)]
    exact a8
  · rw [hC 0 (by decide), m2 58 (by decide)]
    exact a9
  · rw [m2 58 (by decide), m2 59 (by decide), m2 60 (by decide), m1 22 (by decide), m1 23 (by decide), m1 24 (by decide)]
    intro h
    exact (a10 h).kept (by decide) (hC _ (by decide)) (hC _ (by decide)) (hC _ (by decide)) (hC _ (by decide)) (hC _ (by decide)) (hC _ (by decide)) (hC _ (by decide)) (hC _ (by decide)) (hC _ (by decide)) (fun _ _ => rfl)
theorem RE.rc (h : RE N M tp L PH PF PB σ μ) : RCr N M tp L σ 31 (μ 8) := h.2.2.2.2.1.1
theorem RE.rv (h : RE N M tp L PH PF PB σ μ) : RV M tp L (μ 8) := h.2.2.2.2.1.2.1
theorem RE.rm (_ : RE N M tp L PH PF PB σ μ) : RMr μ 0 (μ 8) := fun k _ => by
  show μ 8 ((0 : Int).toNat + k) = μ 8 k
  rw [show (0 : Int).toNat + k = k by omega]
/-- two answers: the class's with what it throws, the reference's with what it says of that -/
def OC (N M tp : Int) (L : Nat → Int) (PH PF PB : List Int) (th : String → Int → Prop) (f : Option ((String ⊕ Int) × kM)) (g : Option (Int × kM)) : Prop :=
  ∃ (oc : String ⊕ Int) (σ' : kM) (b : Int) (μ' : kM), f = some (oc, σ') ∧ g = some (b, μ') ∧ RE N M tp L PH PF PB σ' μ' ∧ ((∃ E, oc = .inl E ∧ th E (μ' 0 0)) ∨ (oc = .inr b ∧ μ' 0 0 = 0))
def thN (E : String) (t : Int) : Prop := E = "java/util/NoSuchElementException" ∧ t = 1
def thI (E : String) (t : Int) : Prop := E = "java/lang/IllegalArgumentException" ∧ t = 1
def thB (E : String) (t : Int) : Prop := (E = "java/util/NoSuchElementException" ∧ t = 1) ∨ (E = "java/lang/IllegalArgumentException" ∧ t = 2)
/-- two plain answers -/
def OP (N M tp : Int) (L : Nat → Int) (PH PF PB : List Int) (f g : Option (Int × kM)) : Prop :=
  ∃ (b : Int) (σ' μ' : kM), f = some (b, σ') ∧ g = some (b, μ') ∧ RE N M tp L PH PF PB σ' μ'
theorem OC.ok {th : String → Int → Prop} {f : Option ((String ⊕ Int) × kM)} {g : Option (Int × kM)} {b : Int} (h : RE N M tp L PH PF PB σ μ) (hf : f = some (.inr b, σ')) (hg : g = some (b, μ')) (hC : kpC σ σ') (hM : kpM μ μ') (h0 : μ' 0 0 = 0) : OC N M tp L PH PF PB th f g :=
  ⟨_, _, _, _, hf, hg, h.kept hC hM, Or.inr ⟨rfl, h0⟩⟩
theorem OC.no {th : String → Int → Prop} {f : Option ((String ⊕ Int) × kM)} {g : Option (Int × kM)} {E : String} {b : Int} (h : RE N M tp L PH PF PB σ μ) (hf : f = some (.inl E, σ')) (hg : g = some (b, μ')) (hC : kpC σ σ') (hM : kpM μ μ') (h0 : th E (μ' 0 0)) : OC N M tp L PH PF PB th f g :=
  ⟨_, _, _, _, hf, hg, h.kept hC hM, Or.inl ⟨_, rfl, h0⟩⟩
/-- the reference's memory as a call begins -/
abbrev mT (μ : kM) : kM := kst μ 0 (kup (μ 0) 0 0)
/-- as it says that a call is refused -/
abbrev mR (μ : kM) (v : Int) : kM := kst μ 0 (kup (μ 0) 0 v)
theorem mT0 : mT μ 0 0 = 0 := by
  show kst μ 0 (kup (μ 0) 0 0) 0 0 = 0
  rw [kst_eq, kup_eq]
theorem mR0 {v : Int} : mR μ v 0 0 = v := by
  show kst μ 0 (kup (μ 0) 0 v) 0 0 = v
  rw [kst_eq, kup_eq]
theorem mRT {v : Int} : mR (mT μ) v = mR μ v := by
  show kst (kst μ 0 (kup (μ 0) 0 0)) 0 (kup (kst μ 0 (kup (μ 0) 0 0) 0) 0 v) = kst μ 0 (kup (μ 0) 0 v)
  rw [kst_eq, kst_st, kup_up]
theorem m_right1 {x c : Int} (h0 : μ 0 0 = 0) (hx : x ≠ 0) : mm_right μ x c = some (1, μ) := by
  unfold mm_right mm_right_j16
  rw [if_pos h0, if_neg hx, if_pos h0]
theorem m_right0 {c : Int} (h0 : μ 0 0 = 0) (hc : c ≠ 0) : mm_right μ 0 c = some (0, mR μ c) := by
  unfold mm_right mm_right_j16
  rw [if_pos h0, if_pos rfl]
  simp only [klet]
  rw [if_neg]
  show ¬ mR μ c 0 0 = 0
  rw [mR0]
  exact hc
theorem m_within {x a b : Int} : mm_within μ x a b = some (if a ≤ x ∧ x ≤ b then 1 else 0) := by
  unfold mm_within
  by_cases h1 : x < a
  · rw [if_pos h1, if_neg (by omega)]
  · rw [if_neg h1]
    by_cases h2 : b < x
    · rw [if_pos h2, if_neg (by omega)]
    · rw [if_neg h2, if_pos (by omega)]
theorem m_isPerson1 {p : Int} (h0 : μ 0 0 = 0) (hp : 0 ≤ p ∧ p < μ 0 2) : mm_isPerson μ p = some (1, μ) := by
  unfold mm_isPerson mm_isPerson_j18
  rw [if_neg (by omega), if_neg (by omega), m_right1 h0 (by decide)]
  simp only [Option.bind]
  rw [kchk_t (by simp)]
theorem m_isPerson0 {p : Int} (h0 : μ 0 0 = 0) (hp : ¬ (0 ≤ p ∧ p < μ 0 2)) : mm_isPerson μ p = some (0, mR μ 1) := by
  unfold mm_isPerson mm_isPerson_j17 mm_isPerson_j18
  rw [m_right0 h0 (by decide)]
  simp only [Option.bind]
  rw [kchk_t (by simp)]
  by_cases h : p < 0
  · rw [if_pos h]
  · rw [if_neg h, if_pos (by omega)]
theorem m_isPoet1 {p : Int} (h0 : μ 0 0 = 0) (hp : 0 ≤ p ∧ p < μ 0 3) : mm_isPoet μ p = some (1, μ) := by
  unfold mm_isPoet mm_isPoet_j18
  rw [if_neg (by omega), if_neg (by omega), m_right1 h0 (by decide)]
  simp only [Option.bind]
  rw [kchk_t (by simp)]
theorem m_isPoet0 {p : Int} (h0 : μ 0 0 = 0) (hp : ¬ (0 ≤ p ∧ p < μ 0 3)) : mm_isPoet μ p = some (0, mR μ 1) := by
  unfold mm_isPoet mm_isPoet_j17 mm_isPoet_j18
  rw [m_right0 h0 (by decide)]
  simp only [Option.bind]
  rw [kchk_t (by simp)]
  by_cases h : p < 0
  · rw [if_pos h]
  · rw [if_neg h, if_pos (by omega)]
theorem m_isWhat1 {x m : Int} (h0 : μ 0 0 = 0) (hx : 0 ≤ x ∧ x ≤ m) : mm_isWhat μ x m = some (1, μ) := by
  unfold mm_isWhat
  rw [m_within, if_pos hx]
  simp only [Option.bind]
  rw [m_right1 h0 (by decide)]
  simp only
  rw [kchk_t (by simp)]
theorem m_isWhat0 {x m : Int} (h0 : μ 0 0 = 0) (hx : ¬ (0 ≤ x ∧ x ≤ m)) : mm_isWhat μ x m = some (0, mR μ 1) := by
  unfold mm_isWhat
  rw [m_within, if_neg hx]
  simp only [Option.bind]
  rw [m_right0 h0 (by decide)]
  simp only
  rw [kchk_t (by simp)]
theorem m_isSoon1 {x m c : Int} (h0 : μ 0 0 = 0) (hx : m ≤ x ∧ x ≤ 60) : mm_isSoon μ x m c = some (1, μ) := by
  unfold mm_isSoon
  rw [m_within, if_pos hx]
  simp only [Option.bind]
  rw [m_right1 h0 (by decide)]
  simp only
  rw [kchk_t (by simp)]
theorem m_isSoon0 {x m c : Int} (h0 : μ 0 0 = 0) (hc : c ≠ 0) (hx : ¬ (m ≤ x ∧ x ≤ 60)) : mm_isSoon μ x m c = some (0, mR μ c) := by
  unfold mm_isSoon
  rw [m_within, if_neg hx]
  simp only [Option.bind]
  rw [m_right0 h0 hc]
  simp only
  rw [kchk_t (by simp)]
theorem c_person1 {p : Int} (hp : 0 ≤ p ∧ p < σ 3 1) : pf_P_needPerson_0 σ p = some (.inr (), σ) := by
  unfold pf_P_needPerson_0
  rw [if_neg (by omega), if_pos (by omega)]
theorem c_person0 {p : Int} (hp : ¬ (0 ≤ p ∧ p < σ 3 1)) : pf_P_needPerson_0 σ p = some (.inl "java/util/NoSuchElementException", σ) := by
  unfold pf_P_needPerson_0
  by_cases h : p < 0
  · rw [if_pos h]
  · rw [if_neg h, if_neg (by omega)]
theorem c_poet1 {p : Int} (hp : 0 ≤ p ∧ p < σ 3 2) : pf_P_needPoet_0 σ p = some (.inr (), σ) := by
  unfold pf_P_needPoet_0
  rw [if_neg (by omega), if_pos (by omega)]
theorem c_poet0 {p : Int} (hp : ¬ (0 ≤ p ∧ p < σ 3 2)) : pf_P_needPoet_0 σ p = some (.inl "java/util/NoSuchElementException", σ) := by
  unfold pf_P_needPoet_0
  by_cases h : p < 0
  · rw [if_pos h]
  · rw [if_neg h, if_neg (by omega)]
theorem c_what1 {p m : Int} (hp : 0 ≤ p ∧ p ≤ m) : pf_P_needWhat_0 σ p m = some (.inr (), σ) := by
  unfold pf_P_needWhat_0
  rw [if_neg (by omega), if_pos (by omega)]
theorem c_what0 {p m : Int} (hp : ¬ (0 ≤ p ∧ p ≤ m)) : pf_P_needWhat_0 σ p m = some (.inl "java/util/NoSuchElementException", σ) := by
  unfold pf_P_needWhat_0
  by_cases h : p < 0
  · rw [if_pos h]
  · rw [if_neg h, if_neg (by omega)]
theorem c_within1 {p a m : Int} (hp : a ≤ p ∧ p ≤ m) : pf_P_needWithin_0 σ p a m = some (.inr (), σ) := by
  unfold pf_P_needWithin_0
  rw [if_neg (by omega), if_pos (by omega)]
theorem c_within0 {p a m : Int} (hp : ¬ (a ≤ p ∧ p ≤ m)) : pf_P_needWithin_0 σ p a m = some (.inl "java/lang/IllegalArgumentException", σ) := by
  unfold pf_P_needWithin_0
  by_cases h : p < a
  · rw [if_pos h]
  · rw [if_neg h, if_neg (by omega)]
end REK

/-! state: a part, 'not's, what is refused -/
section PART
variable {T : Nat → Int} {n m : Nat} {KD ST LN VL : Nat → Int} {i : Nat} {σ σ0 μ μ0 : kM} {R W C : List Int} {d : Nat} {tq : Nat → Int}
/-- a good state turned bad -/
theorem ME.wr (h : ME T n μ0 i R W d tq μ) {x p : Int} (hx : x ≠ 0) (hb : R.length + W.length + 1 ≤ 1400) (hW : W.length ≤ 950) : MX μ0 x p (mWr μ x p) := by
  obtain ⟨a, ⟨b, b'⟩, ⟨c, c'⟩, ⟨e, e'⟩, ⟨k, k'⟩, f⟩ := h
  refine ⟨?_, hx, ?_, ⟨R.length, W.length, ?_, ?_, hb, hW⟩, f.put0 (fun j hj => by rw [kup_ne (by omega), kup_ne (by omega)])⟩
  · show kst μ 0 _ 0 10 = _
    rw [kst_eq, kup_ne (by decide), kup_eq]
  · show kst μ 0 _ 0 11 = _
    rw [kst_eq, kup_eq]
  · show kst μ 0 _ 0 27 = _
    rw [kst_eq, kup_ne (by decide), kup_ne (by decide)]
    exact c
  · show kst μ 0 _ 0 30 = _
    rw [kst_eq, kup_ne (by decide), kup_ne (by decide)]
    exact e
theorem mx_puts {f p : Int} {t w : Nat} (h : μ 0 10 = f ∧ f ≠ 0 ∧ μ 0 11 = p ∧ μ 0 27 = (t : Int) ∧ μ 0 30 = (w : Int) ∧ frE μ0 μ) (ht : t < 1400) (v : Int) : ∃ μ', mm_puts μ v = some μ' ∧ (μ' 0 10 = f ∧ f ≠ 0 ∧ μ' 0 11 = p ∧ μ' 0 27 = ((t + 1 : Nat) : Int) ∧ μ' 0 30 = (w : Int) ∧ frE μ0 μ') := by
  obtain ⟨a, b, c, e, k, f⟩ := h
  have ew := kw_inc (i := t) (by omega)
  refine ⟨kst (kst μ 5 (kup (μ 5) t v)) 0 (kup (μ 0) 27 ((t + 1 : Nat) : Int)), ?_, ?_, b, ?_, ?_, ?_, ?_⟩
  · unfold mm_puts
    rw [e, kchk_t (by omega), klet_eq, klet_eq, kst_ne (by decide), e, ew, Int.toNat_natCast]
  · rw [kst_eq, kup_ne (by decide)]
    exact a
  · rw [kst_eq, kup_ne (by decide)]
    exact c
  · rw [kst_eq, kup_eq]
  · rw [kst_eq, kup_ne (by decide)]
    exact k
  · refine (f.put (c := 5) (Or.inl rfl)).put0 (fun j hj => ?_)
    rw [kst_ne (by decide), kup_ne (by omega)]
theorem MX.bad {f p : Int} (h : MX μ0 f p μ) : ¬ μ 0 10 = 0 := by
  rw [h.1]
  exact h.2.1
/-- words that are values -/
def vOk (r : Int) (c : Int) : Prop := (r = 0 → -6 ≤ c) ∧ (r = 1 → -4 ≤ c ∨ c ≤ -7) ∧ (r = 2 → -4 ≤ c)
def fV (r : Int) : Int := if r = 0 then 0 else 2
def lVa (r : Int) : Int := if r = 1 then 7 else 5
theorem val_tab : ∀ w : Fin 18, ∀ r : Fin 3, (kand (kshr (kRu (w.val : Int)) (r.val : Int)) 1 = 1 ↔ (fV (r.val : Int) ≤ wR w.val ∧ wR w.val ≤ lVa (r.val : Int))) ∧ (kand (kshr (kRu (w.val : Int)) (r.val : Int)) 1 = 1 → -9 < w32 (-1 - kPl (w.val : Int)) ∧ w32 (-1 - kPl (w.val : Int)) < 0 ∧ rv_v (w32 (-1 - kPl (w.val : Int))) = wR w.val ∧ (r.val = 0 → -6 ≤ w32 (-1 - kPl (w.val : Int))) ∧ (r.val = 1 → -4 ≤ w32 (-1 - kPl (w.val : Int)) ∨ w32 (-1 - kPl (w.val : Int)) ≤ -7) ∧ (r.val = 2 → -4 ≤ w32 (-1 - kPl (w.val : Int)))) := by decide +kernel
/-- a word that is a value, with its step -/
def VA (KD VL : Nat → Int) (r : Int) (i : Nat) (c : Int) : Prop := KD i = 2 ∧ kand (kshr (kRu (VL i)) r) 1 = 1 ∧ c = w32 (-1 - kPl (VL i))
theorem VA.of (hK : TKf T n m KD ST LN VL) (hi : i ≤ m) {r c : Int} (hr : 0 ≤ r ∧ r < 3) (h : VA KD VL r i c) : -9 < c ∧ c < 0 ∧ rv_v c = kW KD VL i ∧ vOk r c ∧ fV r ≤ kW KD VL i ∧ kW KD VL i ≤ lVa r := by
  obtain ⟨h1, h2, h3⟩ := h
  obtain ⟨a, b⟩ := hK.wd hi h1
  obtain ⟨t1, t2⟩ := val_tab ⟨(VL i).toNat, by omega⟩ ⟨r.toNat, by omega⟩
  have ev : (((VL i).toNat : Nat) : Int) = VL i := by omega
  have er : ((r.toNat : Nat) : Int) = r := by omega
  simp only [ev, er] at t1 t2
  have ek : kW KD VL i = wR (VL i).toNat := by unfold kW; rw [if_pos h1]
  obtain ⟨u1, u2, u3, u4, u5, u6⟩ := t2 h2
  have hl := t1.mp h2
  rw [h3, ek]
  exact ⟨u1, u2, u3, ⟨fun x => u4 (by omega), fun x => u5 (by omega), fun x => u6 (by omega)⟩, hl.1, hl.2⟩
theorem VA.no (hK : TKf T n m KD ST LN VL) (hi : i ≤ m) {r : Int} (hr : 0 ≤ r ∧ r < 3) (h1 : KD i = 2) (h : ¬ kand (kshr (kRu (VL i)) r) 1 = 1) : kW KD VL i < fV r ∨ lVa r < kW KD VL i := by
  obtain ⟨a, b⟩ := hK.wd hi h1
  obtain ⟨t1, -⟩ := val_tab ⟨(VL i).toNat, by omega⟩ ⟨r.toNat, by omega⟩
  have ev : (((VL i).toNat : Nat) : Int) = VL i := by omega
  have er : ((r.toNat : Nat) : Int) = r := by omega
  simp only [ev, er] at t1
  have ek : kW KD VL i = wR (VL i).toNat := by unfold kW; rw [if_pos h1]
  have hl := fun x => h (t1.mpr x)
  rw [ek]
  generalize wR (VL i).toNat = z at *
  generalize fV r = y at *
  generalize lVa r = x at *
  by_cases c : z < y
  · exact Or.inl c
  · by_cases c2 : x < z
    · exact Or.inr c2
    · exact absurd ⟨by omega, by omega⟩ hl
/-! the reference's part -/
theorem m_part_n (hK : TKf T n m KD ST LN VL) (hi : i < m) (h : ME T n μ0 i R W d tq μ) (h1 : KD i = 1) (hl : LN i ≤ 4) (hR : R.length + 2 ≤ 1400) : ∃ μ', mm_part μ = some μ' ∧ ME T n μ0 (i + 1) (R ++ [1, VL i]) W d tq μ' := by
  have ht := h.1.ts hK (Nat.le_of_lt hi)
  obtain ⟨b1, b2, b3⟩ := ht.2.2.2.1 h1
  obtain ⟨μa, a1, a2⟩ := m_puts h (by omega) 1
  obtain ⟨-, -, c3⟩ := (a2.1.ts hK (Nat.le_of_lt hi)).2.2.2.1 h1
  obtain ⟨μb, d1, d2⟩ := m_puts a2 (by rw [List.length_append, List.length_singleton]; omega) (VL i)
  obtain ⟨μc, e1, e2⟩ := d2.go hK
  rw [List.append_assoc] at e2
  refine ⟨μc, ?_, e2⟩
  unfold mm_part mm_part_j29 mm_part_j97
  rw [kbind_eq (m_isGood1 h.2.1.1), if_neg (by decide), if_pos b1, b2, if_pos hl, kbind_eq a1, c3 hl, kbind_eq d1, kbind_eq (m_isGood1 d2.2.1.1), if_neg (by decide), kbind_eq e1]
theorem m_part_v (hK : TKf T n m KD ST LN VL) (hi : i < m) (h : ME T n μ0 i R W d tq μ) (h1 : KD i = 2) (hf : μ0 0 28 ≤ kW KD VL i ∧ kW KD VL i ≤ μ0 0 29) (hR : R.length + 2 ≤ 1400) : ∃ μ', mm_part μ = some μ' ∧ ME T n μ0 (i + 1) (R ++ [2, kW KD VL i]) W d tq μ' := by
  have hi' := Nat.le_of_lt hi
  have ht := h.1.ts hK hi'
  have hs := m_sort hK hi' ht
  obtain ⟨μa, a1, a2⟩ := m_puts h (by omega) 2
  obtain ⟨μb, d1, d2⟩ := m_puts a2 (by rw [List.length_append, List.length_singleton]; omega) (kW KD VL i)
  obtain ⟨μc, e1, e2⟩ := d2.go hK
  rw [List.append_assoc] at e2
  refine ⟨μc, ?_, e2⟩
  have f8 : μ 0 28 = μ0 0 28 := h.2.2.2.2.2.1 28 (by decide)
  have f9 : μ 0 29 = μ0 0 29 := h.2.2.2.2.2.1 29 (by decide)
  unfold mm_part mm_part_j79 mm_part_j97
  rw [kbind_eq (m_isGood1 h.2.1.1), if_neg (by decide), if_neg (fun x => absurd (hs.1.mp x) (by rw [h1]; decide)), if_pos (hs.2.1.mpr h1), kbind_eq ht.2.1, f8, f9, if_neg (by omega), if_pos hf.2, kbind_eq a1, kbind_eq d1, kbind_eq (m_isGood1 d2.2.1.1), if_neg (by decide), kbind_eq e1]
/-- what a part says that is none -/
theorem m_part_x (hK : TKf T n m KD ST LN VL) (hi : i ≤ m) (h : ME T n μ0 i R W d tq μ) (hR : R.length + W.length + 1 ≤ 1400) (hR3 : KD i = 1 ∨ KD i = 2 → R.length + W.length + 3 ≤ 1400) (hW : W.length ≤ 950) {f : Int} (hf : f ≠ 0) (hx : (KD i = 1 ∧ 4 < LN i ∧ f = 2) ∨ (KD i = 2 ∧ (kW KD VL i < μ0 0 28 ∨ μ0 0 29 < kW KD VL i) ∧ f = 3) ∨ (KD i ≠ 1 ∧ KD i ≠ 2 ∧ f = 1)) : ∃ μ', mm_part μ = some μ' ∧ MX μ0 f (ST i) μ' := by
  have ht := h.1.ts hK hi
  have hs := m_sort hK hi ht
  have hw := m_wrong ht h.2.1.1 f
  have hx0 := h.wr (x := f) (p := ST i) hf (by omega) hW
  have hbad : ¬ (mWr μ f (ST i)) 0 10 = 0 := hx0.bad
  have st : ((mWr μ f (ST i)) 0 10 = f ∧ f ≠ 0 ∧ (mWr μ f (ST i)) 0 11 = ST i ∧ (mWr μ f (ST i)) 0 27 = (R.length : Int) ∧ (mWr μ f (ST i)) 0 30 = (W.length : Int) ∧ frE μ0 (mWr μ f (ST i))) := by
    refine ⟨hx0.1, hf, hx0.2.2.1, ?_, ?_, hx0.2.2.2.2⟩
    · show kst μ 0 _ 0 27 = _
      rw [kst_eq, kup_ne (by decide), kup_ne (by decide)]
      exact h.2.2.1.1
    · show kst μ 0 _ 0 30 = _
      rw [kst_eq, kup_ne (by decide), kup_ne (by decide)]
      exact h.2.2.2.1.1
  have pp : R.length + W.length + 3 ≤ 1400 → ∀ (v : Int) (g : kM → Int), ∃ μa μb, mm_puts (mWr μ f (ST i)) v = some μa ∧ mm_puts μa (g μa) = some μb ∧ MX μ0 f (ST i) μb := by
    intro hR v g
    obtain ⟨μa, a1, a2⟩ := mx_puts st (by omega) v
    obtain ⟨μb, b1, b2⟩ := mx_puts a2 (by omega) (g μa)
    exact ⟨μa, μb, a1, b1, b2.1, b2.2.1, b2.2.2.1, ⟨_, _, b2.2.2.2.1, b2.2.2.2.2.1, by omega, hW⟩, b2.2.2.2.2.2⟩
  unfold mm_part mm_part_j29 mm_part_j74 mm_part_j79 mm_part_j97
  rw [kbind_eq (m_isGood1 h.2.1.1), if_neg (by decide)]
  rcases hx with ⟨h1, h2, rfl⟩ | ⟨h1, h2, rfl⟩ | ⟨h1, h2, rfl⟩
  · obtain ⟨μa, μb, a1, a2, a3⟩ := pp (hR3 (Or.inl h1)) 1 (fun μ => μ 0 18)
    refine ⟨μb, ?_, a3⟩
    rw [if_pos (hs.1.mpr h1), (ht.2.2.2.1 h1).2.1, if_neg (by omega), kbind_eq hw, kbind_eq a1, kbind_eq a2, kbind_eq (m_isGood0 a3.bad), if_pos rfl]
  · obtain ⟨μa, μb, a1, a2, a3⟩ := pp (hR3 (Or.inr h1)) 2 (fun _ => kW KD VL i)
    refine ⟨μb, ?_, a3⟩
    have f8 : μ 0 28 = μ0 0 28 := h.2.2.2.2.2.1 28 (by decide)
    have f9 : μ 0 29 = μ0 0 29 := h.2.2.2.2.2.1 29 (by decide)
    rw [if_neg (fun x => absurd (hs.1.mp x) (by rw [h1]; decide)), if_pos (hs.2.1.mpr h1), kbind_eq ht.2.1, f8, f9, kbind_eq hw, kbind_eq a1, kbind_eq a2, kbind_eq (m_isGood0 a3.bad), if_pos rfl]
    by_cases c : kW KD VL i < μ0 0 28
    · rw [if_pos c]
    · rw [if_neg c, if_neg (by omega)]
  · refine ⟨_, ?_, hx0⟩
    rw [if_neg (fun x => h1 (hs.1.mp x)), if_neg (fun x => h2 (hs.2.1.mp x)), kbind_eq hw, kbind_eq (m_isGood0 hbad), if_pos rfl]
end PART

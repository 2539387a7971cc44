/-! state: the reference's known words -/
def wI (k : Nat) : Nat := ([13, 14, 9, 10, 11, 12, 15, 16, 0, 1, 2, 3, 4, 5, 7, 6, 8] : List Nat).getD k 0
def wR (w : Nat) : Int := ([8, 9, 10, 11, 12, 13, 15, 14, 16, 2, 3, 4, 5, 0, 1, 6, 7] : List Int).getD w (-1)
theorem wIR : ∀ k : Fin 17, wI k.val < 17 ∧ wR (wI k.val) = (k.val : Int) := by decide +kernel
theorem wRI : ∀ w : Fin 17, 0 ≤ wR w.val ∧ (wR w.val).toNat < 17 ∧ wI (wR w.val).toNat = w.val := by decide +kernel
theorem lt_any (σ τ : kM) (k : Int) : mm_letters σ k = mm_letters τ k := by
  unfold mm_letters mm_spelled mm_spelled_j32 mm_spelled_j48 mm_spelled_j66 mm_spelled_j84
  rfl
theorem lt_of : ∀ k : Fin 17, mm_letters (fun _ _ => 0) (k.val : Int) = some (zpk (wC (wI k.val)) (wLn (wI k.val))) ∧ 0 ≤ zpk (wC (wI k.val)) (wLn (wI k.val)) ∧ zpk (wC (wI k.val)) (wLn (wI k.val)) < 1073741824 := by decide +kernel
theorem kcmp_0 {a b : Int} (ha : 0 ≤ a ∧ a < 1073741824) (hb : 0 ≤ b ∧ b < 1073741824) : kcmp a b = 0 ↔ a = b := by
  have h1 : (Int64.ofInt a).toInt = a := Int64.toInt_ofInt_of_le (by omega) (by omega)
  have h2 : (Int64.ofInt b).toInt = b := Int64.toInt_ofInt_of_le (by omega) (by omega)
  unfold kcmp lg_cmp
  constructor
  · intro h
    by_cases c1 : Int64.ofInt a > Int64.ofInt b
    · rw [if_pos c1] at h
      exact absurd h (by decide)
    · rw [if_neg c1] at h
      by_cases c2 : Int64.ofInt a = Int64.ofInt b
      · rw [← h1, ← h2, c2]
      · rw [if_neg c2] at h
        exact absurd h (by decide)
  · intro h
    subst h
    have c1 : ¬ Int64.ofInt a > Int64.ofInt a := by
      intro x
      have x := Int64.lt_iff_toInt_lt.mp x
      omega
    rw [if_neg c1, if_pos rfl]
    rfl
section KN
variable {T : Nat → Int} {n : Nat} {μ : kM}
theorem kn_n {k d : Nat} (h : k + (d + 1) = 17) : k < 17 ∧ (¬ (17 : Int) ≤ (k : Int)) ∧ k < 2000000000 ∧ (k + 1) + d = 17 := by omega
theorem m_knl {z : Int} {P : Nat → Prop} (h20 : μ 0 20 = z) (z0 : 0 ≤ z) (z1 : z < 1073741824) (hiff : ∀ k : Nat, k < 17 → (zpk (wC (wI k)) (wLn (wI k)) = z ↔ P k)) : ∀ d k : Nat, k + d = 17 → (∀ i, i < k → ¬ P i) → ∀ fuel, d < fuel →
    (∃ k' : Nat, kloop (fun st => mm_knownWord_l21 μ st) fuel (k : Int) = some (.inl (k' : Int)) ∧ k' < 17 ∧ P k') ∨ (kloop (fun st => mm_knownWord_l21 μ st) fuel (k : Int) = some (.inr ()) ∧ ∀ i, i < 17 → ¬ P i) := by
  intro d
  induction d with
  | zero =>
    intro k hk h3 fuel hf
    obtain ⟨m, rfl, -⟩ := fu_s hf
    have ek : k = 17 := hk
    subst ek
    refine Or.inr ⟨kloop_r ?_, h3⟩
    show mm_knownWord_l21 μ ((17 : Nat) : Int) = _
    unfold mm_knownWord_l21
    rw [if_pos (by decide)]
  | succ d ih =>
    intro k hk h3 fuel hf
    obtain ⟨m, rfl, hm⟩ := fu_s hf
    have hm := hm d rfl
    obtain ⟨hk7, c0, hk2, hd1⟩ := kn_n hk
    have ew := kw_inc (i := k) hk2
    obtain ⟨l1, l2, l3⟩ := lt_of ⟨k, hk7⟩
    have l1 : mm_letters μ (k : Int) = some (zpk (wC (wI k)) (wLn (wI k))) := by rw [lt_any μ (fun _ _ => 0)]; exact l1
    have hc := kcmp_0 ⟨l2, l3⟩ ⟨z0, z1⟩
    by_cases c : P k
    · refine Or.inl ⟨k, kloop_r ?_, hk7, c⟩
      show mm_knownWord_l21 μ (k : Int) = _
      unfold mm_knownWord_l21
      rw [if_neg c0, kbind_eq l1, h20, if_pos (hc.mpr ((hiff k hk7).mpr c))]
    · have e1 : kloop (fun st => mm_knownWord_l21 μ st) (m + 1) (k : Int) = kloop (fun st => mm_knownWord_l21 μ st) m ((k + 1 : Nat) : Int) := by
        refine kloop_l ?_
        show mm_knownWord_l21 μ (k : Int) = _
        unfold mm_knownWord_l21
        rw [if_neg c0, kbind_eq l1, h20, if_neg (fun x => c ((hiff k hk7).mp (hc.mp x))), klet_eq, ew]
      rw [e1]
      refine ih (k + 1) hd1 (fun i hi => ?_) m hm
      by_cases x : i = k
      · rw [x]
        exact c
      · exact h3 i (Nat.lt_of_le_of_ne (Nat.le_of_lt_succ hi) x)
theorem m_known {s e w : Nat} (h15 : μ 0 15 = 1) (h17 : μ 0 17 = ((e - s : Nat) : Int)) (h20 : e - s ≤ 6 → μ 0 20 = zpk (fun j => T (s + j)) (e - s)) (hl : ∀ j, s ≤ j → j < e → pL (T j) = true) (hw : WP T s (e - s) w) : mm_knownWord μ = some (wR w) := by
  have hlt : ∀ i, i < e - s → 97 ≤ T (s + i) ∧ T (s + i) ≤ 122 := fun i hi => pL_t.mp (hl (s + i) (by omega) (by omega))
  have hch : ∀ k : Nat, k < 17 → ∀ i, i < wLn k → 97 ≤ wC k i ∧ wC k i ≤ 122 := by
    intro k hk i hi
    have h6 : wLn k ≤ 6 := (wLn_of ⟨k, by omega⟩).2
    exact (wC_of ⟨k, by omega⟩ ⟨i, by omega⟩ hi).2
  have h6w : ∀ k : Nat, k < 17 → wLn k ≤ 6 := fun k hk => (wLn_of ⟨k, by omega⟩).2
  obtain ⟨w1, w2, w3⟩ := hw
  unfold mm_knownWord
  rw [if_pos h15, h17]
  by_cases c6 : e - s ≤ 6
  · have h20 := h20 c6
    have hr := zpk_rng (fun j => T (s + j)) (e - s) hlt
    have hr2 : zpk (fun j => T (s + j)) (e - s) < 1073741824 := by
      by_cases c : e - s = 6
      · rw [c]
        rw [c] at hr hlt
        have h5 := zpk_rng (fun j => T (s + j)) 5 (fun i hi => hlt i (by omega))
        have hz5 : z32 5 = 33554432 := by decide
        have h55 := hlt 5 (by omega)
        have e6 : zpk (fun j => T (s + j)) 6 = 32 * zpk (fun j => T (s + j)) 5 + (T (s + 5) - 96) := rfl
        rw [e6]
        rw [hz5] at h5
        generalize zpk (fun j => T (s + j)) 5 = z at h5
        clear hr e6 h20
        omega
      · have := z32_le ⟨e - s, by omega⟩
        have this : z32 (e - s) < 1073741824 := this
        exact Int.lt_trans hr.2 this
    have hr1 := hr.1
    generalize hz : zpk (fun j => T (s + j)) (e - s) = z at h20 hr1 hr2
    have hiff : ∀ k : Nat, k < 17 → (zpk (wC (wI k)) (wLn (wI k)) = z ↔ wS T s (e - s) (wI k)) := by
      intro k hk
      have hk7 : wI k < 17 := (wIR ⟨k, hk⟩).1
      constructor
      · intro h
        rw [← hz] at h
        obtain ⟨a, b⟩ := zpk_inj _ _ (hch _ hk7) hlt h
        exact ⟨a.symm, fun j hj => (b j hj).symm⟩
      · intro h
        rw [← hz, h.1]
        clear h20 hr1 hr2 hz
        have key : ∀ (f g : Nat → Int) (l : Nat), (∀ j, j < l → f j = g j) → zpk f l = zpk g l := by
          intro f g l
          induction l with
          | zero => intro _; rfl
          | succ l ih =>
            intro hh
            show 32 * zpk f l + (f l - 96) = 32 * zpk g l + (g l - 96)
            rw [ih (fun j hj => hh j (Nat.lt_succ_of_lt hj)), hh l (Nat.lt_succ_self l)]
        exact key _ _ _ (fun j hj => (h.2 j hj).symm)
    have loop := m_knl h20 hr1 hr2 hiff
    rw [if_pos (by clear hz h20 hr hr1 hr2; omega)]
    rcases loop 17 0 rfl (fun i hi => absurd hi (Nat.not_lt_zero _)) kFuel (kFuel_lt (by decide)) with ⟨k', a, b, c⟩ | ⟨a, b⟩
    · have e1 := w3 _ (wIR ⟨k', b⟩).1 c
      have e1 : wI k' = w := e1
      have e2 : wR (wI k') = (k' : Int) := (wIR ⟨k', b⟩).2
      rw [← e1, e2]
      exact kbind_eq a
    · have e1 : w = 17 := by
        by_cases x : w < 17
        · obtain ⟨r1, r2, r3⟩ := wRI ⟨w, x⟩
          have r3 : wI (wR w).toNat = w := r3
          exact absurd (by rw [r3]; exact w2 x) (b (wR w).toNat r2)
        · clear hz h20 hr hr1 hr2
          omega
      rw [e1]
      exact kbind_eq a
  · rw [if_neg (by clear h20; omega)]
    have e1 : w = 17 := by
      by_cases x : w < 17
      · have := (w2 x).1
        have := h6w w x
        clear h20
        omega
      · clear h20
        omega
    rw [e1]
    rfl
theorem m_known0 (h15 : ¬ μ 0 15 = 1) : mm_knownWord μ = some (-1) := by
  unfold mm_knownWord
  rw [if_neg h15]
end KN

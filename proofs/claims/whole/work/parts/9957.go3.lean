section GO
variable {T : Nat → Int} {n : Nat} {μ : kM} {f : Nat → Int}
theorem m_lettersL (hn : n ≤ 700) (ht : tpM T n μ) {s : Nat} : ∀ d k : Nat, n - k = d → k ≤ n → s ≤ k → (∀ j, s ≤ j → j < k → pL (T j) = true) → ∀ f : Nat → Int, f 13 = (n : Int) → f 14 = (k : Int) → f 16 = (s : Int) → f 20 = zpk (fun j => T (s + j)) (min (k - s) 6) → ∀ fuel, d < fuel →
    ∃ g, kloop (fun st => mm_goes_l108 st) fuel (kst μ 0 f) = some (kst μ 0 g) ∧ g 14 = ((tN pL T n k : Nat) : Int) ∧ g 20 = zpk (fun j => T (s + j)) (min (tN pL T n k - s) 6) ∧ ∀ j, j ≠ 14 → j ≠ 20 → g j = f j := by
  intro d
  have stop : ∀ k : Nat, k ≤ n → ¬ (k < n ∧ pL (T k) = true) → ∀ f : Nat → Int, f 13 = (n : Int) → f 14 = (k : Int) → f 20 = zpk (fun j => T (s + j)) (min (k - s) 6) → ∀ fuel, 0 < fuel → ∃ g, kloop (fun st => mm_goes_l108 st) fuel (kst μ 0 f) = some (kst μ 0 g) ∧ g 14 = ((tN pL T n k : Nat) : Int) ∧ g 20 = zpk (fun j => T (s + j)) (min (tN pL T n k - s) 6) ∧ ∀ j, j ≠ 14 → j ≠ 20 → g j = f j := by
    intro k hk hp f h13 h14 h18 fuel hf
    obtain ⟨m, rfl, -⟩ := fu_s hf
    have hb := m_byteAt (μ := kst μ 0 f) (k := k) hn ht.kst0 (by rw [kst_eq]; exact h13)
    refine ⟨f, ?_, by rw [tN_no hp]; exact h14, by rw [tN_no hp]; exact h18, fun _ _ _ => rfl⟩
    refine kloop_r ?_
    unfold mm_goes_l108
    rw [kst_eq, h14, kbind_eq hb, kbind_eq m_isL, if_neg (fun x => hp ((bA_p (p := pL) (by decide)).mp x)), if_pos rfl]
  induction d with
  | zero =>
    intro k hk h1 h2 h3
    have hno : ∀ p : Prop, ¬ (k < n ∧ p) := fun p x => by omega
    intro f h13 h14 h16 h18 fuel hf
    exact stop k h1 (hno _) f h13 h14 h18 fuel hf
  | succ d ih =>
    intro k hk h1 h2 h3
    have hkn : k < n := by omega
    by_cases cp : pL (T k) = true
    · have ew := kw_inc (i := k) (by omega)
      have ed : w32 ((k : Int) - (s : Int)) = ((k - s : Nat) : Int) := by
        rw [w32_s (by omega) (by omega)]
        omega
      have hd1 : n - (k + 1) = d := by omega
      have hks : s + (k - s) = k := by omega
      have hs1 : s ≤ k + 1 := by omega
      have h6 : (6 : Int) ≤ ((k - s : Nat) : Int) ↔ ¬ k - s < 6 := by omega
      have hmin1 : k - s < 6 → min (k - s) 6 = k - s ∧ min (k + 1 - s) 6 = k - s + 1 := fun _ => by omega
      have hmin2 : ¬ k - s < 6 → min (k - s) 6 = 6 ∧ min (k + 1 - s) 6 = 6 := fun _ => by omega
      have h3' : ∀ j, s ≤ j → j < k + 1 → pL (T j) = true := fun j a b => by
        by_cases c : j = k
        · rw [c]
          exact cp
        · exact h3 j a (by omega)
      have hlt : ∀ i, i < k - s + 1 → 97 ≤ T (s + i) ∧ T (s + i) ≤ 122 := fun i hi => pL_t.mp (h3' (s + i) (by omega) (by omega))
      intro f h13 h14 h16 h18 fuel hf
      obtain ⟨m, rfl, hm⟩ := fu_s hf
      have hm := hm d rfl
      have hb := m_byteAt (μ := kst μ 0 f) (k := k) hn ht.kst0 (by rw [kst_eq]; exact h13)
      have eb : bA T n k = T k := by unfold bA; rw [if_pos hkn]
      rw [eb] at hb
      rw [tN_go hkn cp]
      have hst : ∀ z : Int, z = zpk (fun j => T (s + j)) (min (k + 1 - s) 6) → (∃ g, kloop (fun st => mm_goes_l108 st) m (kst μ 0 (kup (kup f 20 z) 14 ((k + 1 : Nat) : Int))) = some (kst μ 0 g) ∧ g 14 = ((tN pL T n (k + 1) : Nat) : Int) ∧ g 20 = zpk (fun j => T (s + j)) (min (tN pL T n (k + 1) - s) 6) ∧ ∀ j, j ≠ 14 → j ≠ 20 → g j = f j) := by
        intro z hz
        obtain ⟨g, b1, b2, b3, b4⟩ := ih (k + 1) hd1 hkn hs1 h3' (kup (kup f 20 z) 14 ((k + 1 : Nat) : Int)) (by rw [kup_ne (by decide), kup_ne (by decide)]; exact h13) (by rw [kup_eq]) (by rw [kup_ne (by decide), kup_ne (by decide)]; exact h16) (by rw [kup_ne (by decide), kup_eq, hz]) m hm
        exact ⟨g, b1, b2, b3, fun j j1 j2 => by rw [b4 j j1 j2, kup_ne j1, kup_ne j2]⟩
      by_cases c6 : k - s < 6
      · obtain ⟨m1, m2⟩ := hmin1 c6
        have hz := zpk_st (f := fun j => T (s + j)) c6 hlt
        have hz : klor (klshl (zpk (fun j => T (s + j)) (k - s)) 5) (w32 (T (s + (k - s)) - 96)) = zpk (fun j => T (s + j)) (k - s + 1) := hz
        rw [hks] at hz
        rw [m1] at h18
        obtain ⟨g, b1, b2, b3, b4⟩ := hst (zpk (fun j => T (s + j)) (k - s + 1)) (by rw [m2])
        refine ⟨g, ?_, b2, b3, b4⟩
        rw [← b1]
        refine kloop_l ?_
        unfold mm_goes_l108 mm_goes_l108_j159
        rw [kst_eq, h14, kbind_eq hb, kbind_eq m_isL, if_pos cp, if_neg (by decide), h16, ed, if_neg (fun x => h6.mp x c6), kbind_eq hb, klet_eq, klet_eq, h18, hz, kst_eq, kst_st, kst_st, kup_ne (by decide), h14, ew]
      · obtain ⟨m1, m2⟩ := hmin2 c6
        rw [m1] at h18
        obtain ⟨g, b1, b2, b3, b4⟩ := hst (f 20) (by rw [m2]; exact h18)
        refine ⟨g, ?_, b2, b3, b4⟩
        rw [← b1]
        refine kloop_l ?_
        unfold mm_goes_l108 mm_goes_l108_j159
        rw [kst_eq, h14, kbind_eq hb, kbind_eq m_isL, if_pos cp, if_neg (by decide), h16, ed, if_pos (h6.mpr c6), klet_eq, ew, kst_st, kup_id]
    · intro f h13 h14 h16 h18 fuel hf
      exact stop k h1 (fun x => cp x.2) f h13 h14 h18 fuel (Nat.lt_of_le_of_lt (Nat.zero_le _) hf)
end GO

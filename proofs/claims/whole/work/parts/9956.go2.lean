section GO
variable {T : Nat → Int} {n : Nat} {μ : kM} {f : Nat → Int}
theorem tpM.kst0 (h : tpM T n μ) : tpM T n (kst μ 0 f) := fun k hk => by
  rw [kst_ne (by decide)]
  exact h k hk
theorem m_byteAt {k : Nat} (hn : n ≤ 700) (ht : tpM T n μ) (h13 : μ 0 13 = (n : Int)) : mm_byteAt μ (k : Int) = some (bA T n k) := by
  unfold mm_byteAt bA
  rw [h13]
  by_cases c : k < n
  · rw [if_neg (by omega), if_pos c, kchk_t (by omega), Int.toNat_natCast, (ht k c).2]
  · rw [if_pos (by omega), if_neg c]
theorem m_isL {v : Int} : mm_isLetter μ v = some (if pL v = true then 1 else 0) := by
  unfold mm_isLetter
  by_cases c : pL v = true
  · rw [if_pos c]
    have c := pL_t.mp c
    rw [if_neg (by omega), if_neg (by omega)]
  · rw [if_neg c]
    have c : ¬ (97 ≤ v ∧ v ≤ 122) := fun x => c (pL_t.mpr x)
    by_cases e : v < 97
    · rw [if_pos e]
    · rw [if_neg e, if_pos (by omega)]
theorem m_isD {v : Int} : mm_isDigit μ v = some (if pD v = true then 1 else 0) := by
  unfold mm_isDigit
  by_cases c : pD v = true
  · rw [if_pos c]
    have c := pD_t.mp c
    rw [if_neg (by omega), if_neg (by omega)]
  · rw [if_neg c]
    have c : ¬ (48 ≤ v ∧ v ≤ 57) := fun x => c (pD_t.mpr x)
    by_cases e : v < 48
    · rw [if_pos e]
    · rw [if_neg e, if_pos (by omega)]
theorem bA_p {p : Int → Bool} (h0 : p 0 = false) {k : Nat} : p (bA T n k) = true ↔ (k < n ∧ p (T k) = true) := by
  unfold bA
  by_cases c : k < n
  · rw [if_pos c]
    exact ⟨fun h => ⟨c, h⟩, fun h => h.2⟩
  · rw [if_neg c, h0]
    exact ⟨fun h => absurd h (by decide), fun h => absurd h.1 c⟩
theorem m_blank (hn : n ≤ 700) (ht : tpM T n μ) : ∀ d k : Nat, n - k = d → k ≤ n → ∀ f : Nat → Int, f 13 = (n : Int) → f 14 = (k : Int) → ∀ fuel, d < fuel → kloop (fun st => mm_goes_l0 st) fuel (kst μ 0 f) = some (kst μ 0 (kup f 14 ((tN pB T n k : Nat) : Int))) := by
  intro d
  induction d with
  | zero =>
    intro k hk h1 f h13 h14 fuel hf
    obtain ⟨m, rfl⟩ : ∃ m, fuel = m + 1 := ⟨fuel - 1, by omega⟩
    rw [tN_no (by omega), ← h14, kup_id]
    refine kloop_r ?_
    unfold mm_goes_l0
    rw [kst_eq, h13, h14, if_pos (by omega)]
  | succ d ih =>
    intro k hk h1 f h13 h14 fuel hf
    obtain ⟨m, rfl⟩ : ∃ m, fuel = m + 1 := ⟨fuel - 1, by omega⟩
    have hkn : k < n := by omega
    have ew := kw_inc (i := k) (by omega)
    have c1 : ¬ (n : Int) ≤ (k : Int) := by omega
    have hb := m_byteAt (μ := kst μ 0 f) (k := k) hn ht.kst0 (by rw [kst_eq]; exact h13)
    have eb : bA T n k = T k := by unfold bA; rw [if_pos hkn]
    rw [eb] at hb
    by_cases cb : pB (T k) = true
    · have e1 : kloop (fun st => mm_goes_l0 st) (m + 1) (kst μ 0 f) = kloop (fun st => mm_goes_l0 st) m (kst μ 0 (kup f 14 ((k + 1 : Nat) : Int))) := by
        refine kloop_l ?_
        unfold mm_goes_l0 mm_goes_l0_j37
        rw [kst_eq, h13, h14, if_neg c1, kbind_eq hb, klet_eq, ew, kst_st]
        by_cases x : T k = 32
        · rw [if_pos x]
        · rw [if_neg x, kbind_eq hb, if_pos ((pB_t.mp cb).resolve_left x)]
      rw [e1, ih (k + 1) (by omega) (by omega) (kup f 14 ((k + 1 : Nat) : Int)) (by rw [kup_ne (by decide)]; exact h13) (by rw [kup_eq]) m (by omega), kup_up, tN_go hkn cb]
    · rw [tN_no (fun x => cb x.2), ← h14, kup_id]
      refine kloop_r ?_
      unfold mm_goes_l0
      rw [kst_eq, h13, h14, if_neg c1, kbind_eq hb, if_neg (fun x => cb (pB_t.mpr (Or.inl x))), kbind_eq hb, if_neg (fun x => cb (pB_t.mpr (Or.inr x)))]
theorem m_digits (hn : n ≤ 700) (ht : tpM T n μ) {s : Nat} : ∀ d k : Nat, n - k = d → k ≤ n → s ≤ k → (∀ j, s ≤ j → j < k → pD (T j) = true) → ∀ f : Nat → Int, f 13 = (n : Int) → f 14 = (k : Int) → f 16 = (s : Int) → f 18 = zvM T s (k - s) → ∀ fuel, d < fuel →
    ∃ g, kloop (fun st => mm_goes_l187 st) fuel (kst μ 0 f) = some (kst μ 0 g) ∧ g 14 = ((tN pD T n k : Nat) : Int) ∧ g 18 = zvM T s (tN pD T n k - s) ∧ ∀ j, j ≠ 14 → j ≠ 18 → g j = f j := by
  intro d
  have stop : ∀ k : Nat, k ≤ n → ¬ (k < n ∧ pD (T k) = true) → ∀ f : Nat → Int, f 13 = (n : Int) → f 14 = (k : Int) → f 18 = zvM T s (k - s) → ∀ fuel, 0 < fuel → ∃ g, kloop (fun st => mm_goes_l187 st) fuel (kst μ 0 f) = some (kst μ 0 g) ∧ g 14 = ((tN pD T n k : Nat) : Int) ∧ g 18 = zvM T s (tN pD T n k - s) ∧ ∀ j, j ≠ 14 → j ≠ 18 → g j = f j := by
    intro k hk hp f h13 h14 h18 fuel hf
    obtain ⟨m, rfl, -⟩ := fu_s hf
    have hb := m_byteAt (μ := kst μ 0 f) (k := k) hn ht.kst0 (by rw [kst_eq]; exact h13)
    refine ⟨f, ?_, by rw [tN_no hp]; exact h14, by rw [tN_no hp]; exact h18, fun _ _ _ => rfl⟩
    refine kloop_r ?_
    unfold mm_goes_l187
    rw [kst_eq, h14, kbind_eq hb, kbind_eq m_isD, if_neg (fun x => hp ((bA_p (p := pD) (by decide)).mp x)), if_pos rfl]
  induction d with
  | zero =>
    intro k hk h1 h2 h3
    have hno : ∀ p : Prop, ¬ (k < n ∧ p) := fun p x => by omega
    intro f h13 h14 h16 h18 fuel hf
    exact stop k h1 (hno _) f h13 h14 h18 fuel hf
  | succ d ih =>
    intro k hk h1 h2 h3
    have hkn : k < n := by omega
    by_cases cp : pD (T k) = true
    · have ew := kw_inc (i := k) (by omega)
      have ed : w32 ((k : Int) - (s : Int)) = ((k - s : Nat) : Int) := by
        rw [w32_s (by omega) (by omega)]
        omega
      have hd1 : n - (k + 1) = d := by omega
      have hk1 : k + 1 - s = (k - s) + 1 := by omega
      have hks : s + (k - s) = k := by omega
      have hs1 : s ≤ k + 1 := by omega
      have h4 : (4 : Int) ≤ ((k - s : Nat) : Int) ↔ ¬ k - s < 4 := by omega
      have h3' : ∀ j, s ≤ j → j < k + 1 → pD (T j) = true := fun j a b => by
        by_cases c : j = k
        · rw [c]
          exact cp
        · exact h3 j a (by omega)
      have hr := zvM_rng T s (k - s) (fun i hi => pD_t.mp (h3 (s + i) (by omega) (by omega)))
      have hd := pD_t.mp cp
      intro f h13 h14 h16 h18 fuel hf
      obtain ⟨m, rfl, hm⟩ := fu_s hf
      have hm := hm d rfl
      have hb := m_byteAt (μ := kst μ 0 f) (k := k) hn ht.kst0 (by rw [kst_eq]; exact h13)
      have eb : bA T n k = T k := by unfold bA; rw [if_pos hkn]
      rw [eb] at hb
      have e2 : zvM T s (k - s + 1) = if k - s < 4 then 10 * zvM T s (k - s) + T (s + (k - s)) - 48 else zvM T s (k - s) := rfl
      rw [hks] at e2
      have e3 : w32 (w32 (w32 (10 * zvM T s (k - s)) + T k) - 48) = 10 * zvM T s (k - s) + T k - 48 := by
        rw [w32_s (v := 10 * zvM T s (k - s)) (by omega) (by omega), w32_s (v := 10 * zvM T s (k - s) + T k) (by omega) (by omega), w32_s (by omega) (by omega)]
      rw [tN_go hkn cp]
      obtain ⟨g, b1, b2, b3, b4⟩ := ih (k + 1) hd1 hkn hs1 h3' (kup (kup f 18 (zvM T s (k - s + 1))) 14 ((k + 1 : Nat) : Int)) (by rw [kup_ne (by decide), kup_ne (by decide)]; exact h13) (by rw [kup_eq]) (by rw [kup_ne (by decide), kup_ne (by decide)]; exact h16) (by rw [kup_ne (by decide), kup_eq, hk1]) m hm
      refine ⟨g, ?_, b2, b3, fun j j1 j2 => by rw [b4 j j1 j2, kup_ne j1, kup_ne j2]⟩
      rw [← b1]
      refine kloop_l ?_
      unfold mm_goes_l187 mm_goes_l187_j237
      rw [kst_eq, h14, kbind_eq hb, kbind_eq m_isD, if_pos cp, if_neg (by decide), h16, ed, kbind_eq hb, klet_eq, klet_eq, klet_eq, ew]
      by_cases c4 : k - s < 4
      · rw [if_neg (fun x => h4.mp x c4), h18, e3, kst_eq, kst_st, kst_st, kup_ne (by decide), h14, ew, e2, if_pos c4]
      · rw [if_pos (h4.mpr c4), kst_st, e2, if_neg c4, ← h18, kup_id]
    · intro f h13 h14 h16 h18 fuel hf
      exact stop k h1 (fun x => cp x.2) f h13 h14 h18 fuel (Nat.lt_of_le_of_lt (Nat.zero_le _) hf)
end GO

/-! state: WORDS -/
def wT : List (List Int) := [[116, 111, 112, 105, 99, 115], [112, 101, 114, 115, 111, 110], [112, 111, 101, 116], [104, 105, 116, 115], [102, 105, 110, 101, 115], [98, 117, 121, 115], [111, 114], [97, 110, 100], [110, 111, 116], [115, 99, 97, 114, 115], [112, 117, 114, 115, 101], [98, 101, 102, 111, 114, 101], [121, 101, 97, 114], [100, 101, 112, 116, 104], [116, 114, 117, 101], [105, 110, 99, 104, 101, 115], [114, 104, 121, 109, 101, 115]]
def wC (k j : Nat) : Int := (wT.getD k []).getD j 0
def wLn (k : Nat) : Nat := (wT.getD k []).length
def wS (T : Nat → Int) (s l k : Nat) : Prop := l = wLn k ∧ ∀ j : Nat, j < wLn k → T (s + j) = wC k j
def WP (T : Nat → Int) (s l w : Nat) : Prop := w < 18 ∧ (w < 17 → wS T s l w) ∧ ∀ k : Nat, k < 17 → wS T s l k → k = w
theorem wLn_of : ∀ k : Fin 18, kshr (kLn (k.val : Int)) 0 = (wLn k.val : Int) ∧ wLn k.val ≤ 6 := by decide +kernel
theorem wKl_of : ∀ k : Fin 18, kLn (k.val : Int) = (wLn k.val : Int) := by decide +kernel
theorem wC_of : ∀ k : Fin 18, ∀ j : Fin 6, j.val < wLn k.val → kc16 (kand (kBt (k.val : Int) (j.val : Int)) 255) = wC k.val j.val ∧ 97 ≤ wC k.val j.val ∧ wC k.val j.val ≤ 122 := by decide +kernel
theorem wT_inj : ∀ a b : Fin 17, wLn a.val = wLn b.val → (∀ j : Fin 6, j.val < wLn a.val → wC a.val j.val = wC b.val j.val) → a = b := by decide +kernel
theorem wS_inj {T : Nat → Int} {s l a b : Nat} (ha : a < 17) (hb : b < 17) (h1 : wS T s l a) (h2 : wS T s l b) : a = b := by
  have e : wLn a = wLn b := h1.1.symm.trans h2.1
  have h := wT_inj ⟨a, ha⟩ ⟨b, hb⟩ e (fun j hj => ((h1.2 j.val hj).symm.trans (h2.2 j.val (by rw [← e]; exact hj))))
  exact Fin.mk.inj h
theorem wLn_pos : ∀ k : Fin 17, 1 ≤ wLn k.val := by decide +kernel
section WORD
variable {T : Nat → Int} {n : Nat} {σ : kM}
theorem c_strlen {k : Nat} (hk : k < 18) : pf_String_length_8abf5 σ (k : Int) = some (wLn k : Int) := by
  unfold pf_String_length_8abf5 pf_String_coder_7d493
  have c : 0 ≤ (k : Int) ∧ (k : Int) < 19 := by omega
  rw [kchk_t c, kchk_t c, kchk_t c, kchk_t c]
  show some (kshr (kLn (k : Int)) 0) = _
  rw [(wLn_of ⟨k, hk⟩).1]
theorem c_charAt {k j : Nat} (hk : k < 18) (hj : j < wLn k) : pf_String_charAt_5068e σ (k : Int) (j : Int) = some (wC k j) := by
  have h6 := (wLn_of ⟨k, hk⟩).2
  have h6 : wLn k ≤ 6 := h6
  obtain ⟨e1, e2, e3⟩ := wC_of ⟨k, hk⟩ ⟨j, by omega⟩ hj
  have e1 : kc16 (kand (kBt (k : Int) (j : Int)) 255) = wC k j := e1
  have e2 : 97 ≤ wC k j := e2
  have e3 : wC k j ≤ 122 := e3
  have e4 : kLn (k : Int) = (wLn k : Int) := wKl_of ⟨k, hk⟩
  have c : 0 ≤ (k : Int) ∧ (k : Int) < 19 := by omega
  have c1 : 0 ≤ (j : Int) ∧ (j : Int) < (wLn k : Int) := by omega
  have c2 : 0 ≤ wC k j ∧ wC k j < 65536 := by omega
  have hl : pf_StringLatin1_charAt_3b067 σ (k : Int) (j : Int) = some (wC k j) := by
    unfold pf_StringLatin1_charAt_3b067 pf_String_checkIndex_df160 pf_Preconditions_checkIndex_8e157
    rw [kchk_t c, e4, if_neg (by omega), if_pos c1.2]
    show kchk _ _ = _
    rw [kchk_t c1, kchk_t c, e1, kchk_t c2]
  unfold pf_String_charAt_5068e pf_String_isLatin1_aae02
  rw [kchk_t c, kchk_t c, kbind_eq (rfl : some (1 : Int) = some 1), if_neg (by decide), kchk_t c, kbind_eq hl, kchk_t c2]
theorem c_spl {k s : Nat} (hk : k < 18) (hn : n ≤ 700) (ht : tpC T n σ) (hs : s + wLn k ≤ n) (hl : ∀ j, j < wLn k → pL (T (s + j)) = true) : ∀ d j : Nat, wLn k - j = d → j ≤ wLn k → (∀ i, i < j → T (s + i) = wC k i) → ∀ fuel, d < fuel →
    (kloop (fun st => pf_Word_isSpelt_1_l18 σ (k : Int) (s : Int) st) fuel (j : Int) = some (.inr ()) ∧ ∀ i, i < wLn k → T (s + i) = wC k i) ∨ (kloop (fun st => pf_Word_isSpelt_1_l18 σ (k : Int) (s : Int) st) fuel (j : Int) = some (.inl ()) ∧ ¬ ∀ i, i < wLn k → T (s + i) = wC k i) := by
  intro d
  have c18 : 0 ≤ (k : Int) ∧ (k : Int) < 18 := by omega
  have c19 : 0 ≤ (k : Int) ∧ (k : Int) < 19 := by omega
  induction d with
  | zero =>
    intro j hj h1 h2 fuel hf
    obtain ⟨m, rfl⟩ : ∃ m, fuel = m + 1 := ⟨fuel - 1, by omega⟩
    have e : j = wLn k := by omega
    subst e
    refine Or.inl ⟨kloop_r ?_, h2⟩
    show pf_Word_isSpelt_1_l18 σ (k : Int) (s : Int) (wLn k : Int) = _
    unfold pf_Word_isSpelt_1_l18
    rw [kchk_t c18, kchk_t c19, kbind_eq (c_strlen hk), if_pos (Int.le_refl _)]
  | succ d ih =>
    intro j hj h1 h2 fuel hf
    obtain ⟨m, rfl⟩ : ∃ m, fuel = m + 1 := ⟨fuel - 1, by omega⟩
    have ew := kw_inc (i := j) (by omega)
    have ea : w32 ((s : Int) + (j : Int)) = ((s + j : Nat) : Int) := by
      rw [w32_s (by omega) (by omega)]
      omega
    have c1 : ¬ (wLn k : Int) ≤ (j : Int) := by omega
    have c2 : ¬ (700 : Int) ≤ ((s + j : Nat) : Int) := by omega
    have c3 : 0 ≤ ((s + j : Nat) : Int) ∧ ((s + j : Nat) : Int) < 700 := by omega
    obtain ⟨t1, t2⟩ := ht (s + j) (by omega)
    have hp := pL_t.mp (hl j (by omega))
    have et : sgB (T (s + j)) = T (s + j) := by
      unfold sgB
      rw [if_pos (by omega)]
    by_cases c : T (s + j) = wC k j
    · have e : kloop (fun st => pf_Word_isSpelt_1_l18 σ (k : Int) (s : Int) st) (m + 1) (j : Int) = kloop (fun st => pf_Word_isSpelt_1_l18 σ (k : Int) (s : Int) st) m ((j + 1 : Nat) : Int) := by
        refine kloop_l ?_
        show pf_Word_isSpelt_1_l18 σ (k : Int) (s : Int) (j : Int) = _
        unfold pf_Word_isSpelt_1_l18
        rw [kchk_t c18, kchk_t c19, kbind_eq (c_strlen hk), if_neg c1, ea, if_neg c2, kchk_t c3, kchk_t c18, kchk_t c19, kbind_eq (c_charAt hk (by omega)), Int.toNat_natCast, t2, et, if_pos c, klet_eq, ew]
      rw [e]
      refine ih (j + 1) (by omega) (by omega) (fun i hi => ?_) m (by omega)
      by_cases e : i = j
      · rw [e]
        exact c
      · exact h2 i (by omega)
    · refine Or.inr ⟨kloop_r ?_, fun x => c (x j (by omega))⟩
      show pf_Word_isSpelt_1_l18 σ (k : Int) (s : Int) (j : Int) = _
      unfold pf_Word_isSpelt_1_l18
      rw [kchk_t c18, kchk_t c19, kbind_eq (c_strlen hk), if_neg c1, ea, if_neg c2, kchk_t c3, kchk_t c18, kchk_t c19, kbind_eq (c_charAt hk (by omega)), Int.toNat_natCast, t2, et, if_neg c]
theorem c_isSpelt {k s e : Nat} (hk : k < 18) (hn : n ≤ 700) (ht : tpC T n σ) (h1 : s ≤ e) (he : e ≤ n) (hl : ∀ j, s ≤ j → j < e → pL (T j) = true) : (pf_Word_isSpelt_1 σ (k : Int) (s : Int) (e : Int) = some 1 ∧ wS T s (e - s) k) ∨ (pf_Word_isSpelt_1 σ (k : Int) (s : Int) (e : Int) = some 0 ∧ ¬ wS T s (e - s) k) := by
  have c18 : 0 ≤ (k : Int) ∧ (k : Int) < 18 := by omega
  have c19 : 0 ≤ (k : Int) ∧ (k : Int) < 19 := by omega
  have ew : w32 ((e : Int) - (s : Int)) = ((e - s : Nat) : Int) := by
    rw [w32_s (by omega) (by omega)]
    omega
  by_cases c : e - s = wLn k
  · have cc : w32 ((e : Int) - (s : Int)) = (wLn k : Int) := by rw [ew, c]
    rcases c_spl (T := T) hk hn ht (by omega) (fun j hj => hl (s + j) (by omega) (by omega)) _ 0 rfl (by omega) (fun i hi => absurd hi (Nat.not_lt_zero _)) kFuel (kFuel_lt (by have := (wLn_of ⟨k, hk⟩).2; have : wLn k ≤ 6 := this; omega)) with ⟨a, b⟩ | ⟨a, b⟩
    · refine Or.inl ⟨?_, c, b⟩
      unfold pf_Word_isSpelt_1
      rw [kchk_t c18, kchk_t c19, kbind_eq (c_strlen hk), if_pos cc]
      exact kbind_eq a
    · refine Or.inr ⟨?_, fun x => b x.2⟩
      unfold pf_Word_isSpelt_1
      rw [kchk_t c18, kchk_t c19, kbind_eq (c_strlen hk), if_pos cc]
      exact kbind_eq a
  · refine Or.inr ⟨?_, fun x => c x.1⟩
    unfold pf_Word_isSpelt_1
    rw [kchk_t c18, kchk_t c19, kbind_eq (c_strlen hk), if_neg (by rw [ew]; omega)]
theorem c_spelt {s e : Nat} (hn : n ≤ 700) (ht : tpC T n σ) (h1 : s < e) (he : e ≤ n) (hl : ∀ j, s ≤ j → j < e → pL (T j) = true) : ∃ w : Nat, pf_Word_spelt_1 σ (s : Int) (e : Int) = some (w : Int) ∧ WP T s (e - s) w := by
  have key : ∀ d k : Nat, 18 - k = d → k ≤ 18 → (∀ i, i < k → i < 17 → ¬ wS T s (e - s) i) → ∀ fuel, d < fuel →
      (∃ w : Nat, kloop (fun st => pf_Word_spelt_1_l2 σ (s : Int) (e : Int) st) fuel (k : Int) = some (.inl (w : Int)) ∧ w < 17 ∧ wS T s (e - s) w) ∨ (kloop (fun st => pf_Word_spelt_1_l2 σ (s : Int) (e : Int) st) fuel (k : Int) = some (.inr ()) ∧ ∀ i, i < 17 → ¬ wS T s (e - s) i) := by
    intro d
    induction d with
    | zero =>
      intro k hk h2 h3 fuel hf
      obtain ⟨m, rfl⟩ : ∃ m, fuel = m + 1 := ⟨fuel - 1, by omega⟩
      refine Or.inr ⟨kloop_r ?_, fun i hi => h3 i (by omega) hi⟩
      show pf_Word_spelt_1_l2 σ (s : Int) (e : Int) (k : Int) = _
      unfold pf_Word_spelt_1_l2
      rw [if_pos (by omega)]
    | succ d ih =>
      intro k hk h2 h3 fuel hf
      obtain ⟨m, rfl⟩ : ∃ m, fuel = m + 1 := ⟨fuel - 1, by omega⟩
      have c18 : 0 ≤ (k : Int) ∧ (k : Int) < 18 := by omega
      have c0 : ¬ (18 : Int) ≤ (k : Int) := by omega
      have ew := kw_inc (i := k) (by omega)
      rcases c_isSpelt (T := T) (k := k) (by omega) hn ht (by omega) he hl with ⟨a, b⟩ | ⟨a, b⟩
      · have hk7 : k < 17 := by
          by_cases c : k = 17
          · subst c
            have : e - s = 0 := b.1
            omega
          · omega
        refine Or.inl ⟨k, kloop_r ?_, hk7, b⟩
        show pf_Word_spelt_1_l2 σ (s : Int) (e : Int) (k : Int) = _
        unfold pf_Word_spelt_1_l2
        rw [if_neg c0, kchk_t c18, kchk_t c18, kbind_eq a, if_neg (by decide)]
      · have e1 : kloop (fun st => pf_Word_spelt_1_l2 σ (s : Int) (e : Int) st) (m + 1) (k : Int) = kloop (fun st => pf_Word_spelt_1_l2 σ (s : Int) (e : Int) st) m ((k + 1 : Nat) : Int) := by
          refine kloop_l ?_
          show pf_Word_spelt_1_l2 σ (s : Int) (e : Int) (k : Int) = _
          unfold pf_Word_spelt_1_l2
          rw [if_neg c0, kchk_t c18, kchk_t c18, kbind_eq a, if_pos rfl, klet_eq, ew]
        rw [e1]
        refine ih (k + 1) (by omega) (by omega) (fun i hi h7 => ?_) m (by omega)
        by_cases c : i = k
        · rw [c]
          exact b
        · exact h3 i (by omega) h7
  rcases key _ 0 rfl (by omega) (fun i hi _ => absurd hi (Nat.not_lt_zero _)) kFuel (kFuel_lt (by omega)) with ⟨w, a, b, c⟩ | ⟨a, b⟩
  · refine ⟨w, ?_, by omega, fun _ => c, fun k hk hS => wS_inj hk b hS c⟩
    unfold pf_Word_spelt_1
    exact kbind_eq a
  · refine ⟨17, ?_, by omega, fun h => absurd h (by omega), fun k hk hS => absurd hS (b k hk)⟩
    unfold pf_Word_spelt_1
    exact kbind_eq a
end WORD

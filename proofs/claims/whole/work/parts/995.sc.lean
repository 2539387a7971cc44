/-! state: TOKENS, places -/
def pL (c : Int) : Bool := decide (97 ≤ c ∧ c ≤ 122)
def pD (c : Int) : Bool := decide (48 ≤ c ∧ c ≤ 57)
def pB (c : Int) : Bool := decide (c = 32 ∨ c = 10)
theorem pL_t {c : Int} : pL c = true ↔ 97 ≤ c ∧ c ≤ 122 := decide_eq_true_iff
theorem pD_t {c : Int} : pD c = true ↔ 48 ≤ c ∧ c ≤ 57 := decide_eq_true_iff
theorem pB_t {c : Int} : pB c = true ↔ c = 32 ∨ c = 10 := decide_eq_true_iff
def tR (p : Int → Bool) (T : Nat → Int) (n : Nat) : Nat → Nat → Nat
  | 0, k => k
  | f + 1, k => if k < n ∧ p (T k) = true then tR p T n f (k + 1) else k
def tN (p : Int → Bool) (T : Nat → Int) (n k : Nat) : Nat := tR p T n (n - k) k
theorem tN_go {p : Int → Bool} {T : Nat → Int} {n k : Nat} (h : k < n) (hp : p (T k) = true) : tN p T n k = tN p T n (k + 1) := by
  unfold tN
  rw [show n - k = (n - (k + 1)) + 1 by omega]
  show (if k < n ∧ p (T k) = true then tR p T n (n - (k + 1)) (k + 1) else k) = _
  rw [if_pos ⟨h, hp⟩]
theorem tN_no {p : Int → Bool} {T : Nat → Int} {n k : Nat} (h : ¬ (k < n ∧ p (T k) = true)) : tN p T n k = k := by
  unfold tN
  cases e : n - k with
  | zero => rfl
  | succ f =>
    show (if k < n ∧ p (T k) = true then tR p T n f (k + 1) else k) = _
    rw [if_neg h]
theorem tR_ge (p : Int → Bool) (T : Nat → Int) (n : Nat) : ∀ f k : Nat, k ≤ tR p T n f k ∧ (k ≤ n → tR p T n f k ≤ n) ∧ ∀ j, k ≤ j → j < tR p T n f k → j < n ∧ p (T j) = true := by
  intro f
  induction f with
  | zero => intro k; exact ⟨Nat.le_refl _, fun h => h, fun j a b => absurd (show j < k from b) (by omega)⟩
  | succ f ih =>
    intro k
    show k ≤ (if k < n ∧ p (T k) = true then tR p T n f (k + 1) else k) ∧ (k ≤ n → (if k < n ∧ p (T k) = true then tR p T n f (k + 1) else k) ≤ n) ∧ ∀ j, k ≤ j → j < (if k < n ∧ p (T k) = true then tR p T n f (k + 1) else k) → j < n ∧ p (T j) = true
    by_cases c : k < n ∧ p (T k) = true
    · rw [if_pos c]
      obtain ⟨a, b, d⟩ := ih (k + 1)
      refine ⟨by omega, fun _ => b (by omega), fun j h1 h2 => ?_⟩
      by_cases e : j = k
      · rw [e]
        exact c
      · exact d j (by omega) h2
    · rw [if_neg c]
      exact ⟨Nat.le_refl _, fun h => h, fun j a b => absurd b (by omega)⟩
theorem tN_ge (p : Int → Bool) (T : Nat → Int) (n k : Nat) : k ≤ tN p T n k := (tR_ge p T n _ k).1
theorem tN_le (p : Int → Bool) (T : Nat → Int) {n k : Nat} (h : k ≤ n) : tN p T n k ≤ n := (tR_ge p T n _ k).2.1 h
theorem tN_in (p : Int → Bool) (T : Nat → Int) {n k j : Nat} (h1 : k ≤ j) (h2 : j < tN p T n k) : j < n ∧ p (T j) = true := (tR_ge p T n _ k).2.2 j h1 h2
theorem tN_stop (p : Int → Bool) (T : Nat → Int) (n : Nat) : ∀ d k : Nat, n - k = d → ¬ (tN p T n k < n ∧ p (T (tN p T n k)) = true) := by
  intro d
  induction d with
  | zero =>
    intro k hk
    rw [tN_no (by omega)]
    omega
  | succ d ih =>
    intro k hk
    by_cases c : k < n ∧ p (T k) = true
    · rw [tN_go c.1 c.2]
      exact ih (k + 1) (by omega)
    · rw [tN_no c]
      exact c
/-- the end of the token that begins at s -/
def tE (T : Nat → Int) (n s : Nat) : Nat := if n ≤ s then n else if pL (T s) = true then tN pL T n (s + 1) else if pD (T s) = true then tN pD T n (s + 1) else s + 1
theorem tE_ge {T : Nat → Int} {n s : Nat} (h : s < n) : s < tE T n s ∧ tE T n s ≤ n := by
  unfold tE
  rw [if_neg (by omega)]
  by_cases c : pL (T s) = true
  · rw [if_pos c]
    have := tN_ge pL T n (s + 1)
    have := tN_le pL T (n := n) (k := s + 1) (by omega)
    omega
  · rw [if_neg c]
    by_cases c : pD (T s) = true
    · rw [if_pos c]
      have := tN_ge pD T n (s + 1)
      have := tN_le pD T (n := n) (k := s + 1) (by omega)
      omega
    · rw [if_neg c]
      omega
/-- where the i-th token begins; n behind the last -/
def tK (T : Nat → Int) (n : Nat) : Nat → Nat
  | 0 => tN pB T n 0
  | i + 1 => tN pB T n (tE T n (tK T n i))
theorem tE_le (T : Nat → Int) {n s : Nat} : tE T n s ≤ n := by
  by_cases h : s < n
  · exact (tE_ge h).2
  · unfold tE
    rw [if_pos (by omega)]
    exact Nat.le_refl _
theorem tK_le (T : Nat → Int) (n : Nat) : ∀ i : Nat, tK T n i ≤ n := by
  intro i
  cases i with
  | zero => exact tN_le _ _ (by omega)
  | succ i => exact tN_le _ _ (tE_le T)
theorem tK_nb (T : Nat → Int) (n : Nat) (i : Nat) : ¬ (tK T n i < n ∧ pB (T (tK T n i)) = true) := by
  cases i with
  | zero => exact tN_stop pB T n _ 0 rfl
  | succ i => exact tN_stop pB T n _ _ rfl
/-- numbers of a run of digits: the class's, the reference's -/
def zvC (T : Nat → Int) (s : Nat) : Nat → Int
  | 0 => 0
  | j + 1 => min (zvC T s j * 10 + T (s + j) - 48) 10000
def zvM (T : Nat → Int) (s : Nat) : Nat → Int
  | 0 => 0
  | j + 1 => if j < 4 then 10 * zvM T s j + T (s + j) - 48 else zvM T s j
def zv10 : Nat → Int
  | 0 => 1
  | j + 1 => 10 * zv10 j
theorem zvCM (T : Nat → Int) (s : Nat) : ∀ j : Nat, j ≤ 4 → (∀ i, i < j → 48 ≤ T (s + i) ∧ T (s + i) ≤ 57) → zvC T s j = zvM T s j ∧ 0 ≤ zvM T s j ∧ zvM T s j < zv10 j ∧ zv10 j ≤ 10000 := by
  intro j
  induction j with
  | zero => intro _ _; exact ⟨rfl, Int.le_refl 0, (by decide : (0 : Int) < 1), (by decide : (1 : Int) ≤ 10000)⟩
  | succ j ih =>
    intro hj hd
    obtain ⟨a, b, c, d⟩ := ih (by omega) (fun i hi => hd i (by omega))
    have e := hd j (by omega)
    have hp : zv10 (j + 1) = 10 * zv10 j := rfl
    have hq : zv10 j ≤ 1000 := by
      have : j = 0 ∨ j = 1 ∨ j = 2 ∨ j = 3 := by omega
      rcases this with rfl | rfl | rfl | rfl <;> decide
    have e1 : zvC T s (j + 1) = min (zvC T s j * 10 + T (s + j) - 48) 10000 := rfl
    have e2 : zvM T s (j + 1) = 10 * zvM T s j + T (s + j) - 48 := by
      show (if j < 4 then 10 * zvM T s j + T (s + j) - 48 else zvM T s j) = _
      rw [if_pos (by omega)]
    rw [e1, e2, a]
    omega
theorem zvC_rng (T : Nat → Int) (s : Nat) : ∀ j : Nat, (∀ i, i < j → 48 ≤ T (s + i) ∧ T (s + i) ≤ 57) → 0 ≤ zvC T s j ∧ zvC T s j ≤ 10000 := by
  intro j
  induction j with
  | zero => intro _; exact ⟨Int.le_refl 0, (by decide : (0 : Int) ≤ 10000)⟩
  | succ j ih =>
    intro hd
    have a := ih (fun i hi => hd i (by omega))
    have e := hd j (by omega)
    have e1 : zvC T s (j + 1) = min (zvC T s j * 10 + T (s + j) - 48) 10000 := rfl
    rw [e1]
    omega
theorem zvM_rng (T : Nat → Int) (s : Nat) : ∀ j : Nat, (∀ i, i < j → 48 ≤ T (s + i) ∧ T (s + i) ≤ 57) → 0 ≤ zvM T s j ∧ zvM T s j < 10000 := by
  intro j
  induction j with
  | zero => intro _; exact ⟨Int.le_refl 0, (by decide : (0 : Int) < 10000)⟩
  | succ j ih =>
    intro hd
    by_cases c : j < 4
    · have := zvCM T s (j + 1) (by omega) hd
      omega
    · show 0 ≤ (if j < 4 then 10 * zvM T s j + T (s + j) - 48 else zvM T s j) ∧ (if j < 4 then 10 * zvM T s j + T (s + j) - 48 else zvM T s j) < 10000
      rw [if_neg c]
      exact ih (fun i hi => hd i (by omega))
/-- the tape, as the class has it -/
def tpC (T : Nat → Int) (n : Nat) (σ : kM) : Prop := ∀ k : Nat, k < n → (0 ≤ T k ∧ T k < 256) ∧ σ 1 k = sgB (T k)
theorem sgB_L {v : Int} (h : 0 ≤ v ∧ v < 256) {σ : kM} : pf_Tokens_isLetter σ (sgB v) = some (if pL v = true then 1 else 0) := by
  unfold pf_Tokens_isLetter sgB
  by_cases c : pL v = true
  · rw [if_pos c]
    have c := pL_t.mp c
    rw [if_pos (show v < 128 by omega), if_neg (by omega), if_neg (by omega)]
  · rw [if_neg c]
    have c : ¬ (97 ≤ v ∧ v ≤ 122) := fun x => c (pL_t.mpr x)
    by_cases d : v < 128
    · rw [if_pos d]
      by_cases e : v < 97
      · rw [if_pos e]
      · rw [if_neg e, if_pos (by omega)]
    · rw [if_neg d, if_pos (by omega)]
theorem sgB_D {v : Int} (h : 0 ≤ v ∧ v < 256) {σ : kM} : pf_Tokens_isDigit σ (sgB v) = some (if pD v = true then 1 else 0) := by
  unfold pf_Tokens_isDigit sgB
  by_cases c : pD v = true
  · rw [if_pos c]
    have c := pD_t.mp c
    rw [if_pos (show v < 128 by omega), if_neg (by omega), if_neg (by omega)]
  · rw [if_neg c]
    have c : ¬ (48 ≤ v ∧ v ≤ 57) := fun x => c (pD_t.mpr x)
    by_cases d : v < 128
    · rw [if_pos d]
      by_cases e : v < 48
      · rw [if_pos e]
      · rw [if_neg e, if_pos (by omega)]
    · rw [if_neg d, if_pos (by omega)]
section SCAN
variable {T : Nat → Int} {n : Nat} {σ : kM}
theorem c_runL (hn : n ≤ 700) (ht : tpC T n σ) : ∀ d k : Nat, n - k = d → ∀ fuel, d < fuel → kloop (fun st => pf_Tokens_endOf_24_l16 σ (n : Int) st) fuel (k : Int) = some ((tN pL T n k : Nat) : Int) := by
  intro d
  induction d with
  | zero =>
    intro k hk fuel hf
    obtain ⟨m, rfl⟩ : ∃ m, fuel = m + 1 := ⟨fuel - 1, by omega⟩
    rw [tN_no (by omega)]
    refine kloop_r ?_
    show pf_Tokens_endOf_24_l16 σ (n : Int) (k : Int) = _
    unfold pf_Tokens_endOf_24_l16
    rw [if_pos (by omega)]
  | succ d ih =>
    intro k hk fuel hf
    obtain ⟨m, rfl⟩ : ∃ m, fuel = m + 1 := ⟨fuel - 1, by omega⟩
    have c1 : ¬ (n : Int) ≤ (k : Int) := by omega
    have c2 : 0 ≤ (k : Int) ∧ (k : Int) < 700 := by omega
    have ew := kw_inc (i := k) (by omega)
    obtain ⟨t1, t2⟩ := ht k (by omega)
    by_cases c : pL (T k) = true
    · rw [tN_go (by omega) c, ← ih (k + 1) (by omega) m (by omega)]
      refine kloop_l ?_
      show pf_Tokens_endOf_24_l16 σ (n : Int) (k : Int) = _
      unfold pf_Tokens_endOf_24_l16
      rw [if_neg c1, kchk_t c2, Int.toNat_natCast, t2, kbind_eq (sgB_L t1), if_pos c, if_neg (by decide), klet_eq, ew]
    · rw [tN_no (fun x => c x.2)]
      refine kloop_r ?_
      show pf_Tokens_endOf_24_l16 σ (n : Int) (k : Int) = _
      unfold pf_Tokens_endOf_24_l16
      rw [if_neg c1, kchk_t c2, Int.toNat_natCast, t2, kbind_eq (sgB_L t1), if_neg c, if_pos rfl]
theorem c_runD (hn : n ≤ 700) (ht : tpC T n σ) : ∀ d k : Nat, n - k = d → ∀ fuel, d < fuel → kloop (fun st => pf_Tokens_endOf_24_l51 σ (n : Int) st) fuel (k : Int) = some ((tN pD T n k : Nat) : Int) := by
  intro d
  induction d with
  | zero =>
    intro k hk fuel hf
    obtain ⟨m, rfl⟩ : ∃ m, fuel = m + 1 := ⟨fuel - 1, by omega⟩
    rw [tN_no (by omega)]
    refine kloop_r ?_
    show pf_Tokens_endOf_24_l51 σ (n : Int) (k : Int) = _
    unfold pf_Tokens_endOf_24_l51
    rw [if_pos (by omega)]
  | succ d ih =>
    intro k hk fuel hf
    obtain ⟨m, rfl⟩ : ∃ m, fuel = m + 1 := ⟨fuel - 1, by omega⟩
    have c1 : ¬ (n : Int) ≤ (k : Int) := by omega
    have c2 : 0 ≤ (k : Int) ∧ (k : Int) < 700 := by omega
    have ew := kw_inc (i := k) (by omega)
    obtain ⟨t1, t2⟩ := ht k (by omega)
    by_cases c : pD (T k) = true
    · rw [tN_go (by omega) c, ← ih (k + 1) (by omega) m (by omega)]
      refine kloop_l ?_
      show pf_Tokens_endOf_24_l51 σ (n : Int) (k : Int) = _
      unfold pf_Tokens_endOf_24_l51
      rw [if_neg c1, kchk_t c2, Int.toNat_natCast, t2, kbind_eq (sgB_D t1), if_pos c, if_neg (by decide), klet_eq, ew]
    · rw [tN_no (fun x => c x.2)]
      refine kloop_r ?_
      show pf_Tokens_endOf_24_l51 σ (n : Int) (k : Int) = _
      unfold pf_Tokens_endOf_24_l51
      rw [if_neg c1, kchk_t c2, Int.toNat_natCast, t2, kbind_eq (sgB_D t1), if_neg c, if_pos rfl]
theorem c_endOf {s : Nat} (hn : n ≤ 700) (ht : tpC T n σ) (hs : s < n) : pf_Tokens_endOf_24 σ (s : Int) (n : Int) = some ((tE T n s : Nat) : Int) := by
  have c2 : 0 ≤ (s : Int) ∧ (s : Int) < 700 := by omega
  have ew := kw_inc (i := s) (by omega)
  have hf : n - (s + 1) < kFuel := kFuel_lt (by omega)
  obtain ⟨t1, t2⟩ := ht s hs
  unfold pf_Tokens_endOf_24 tE
  rw [klet_eq, ew, if_neg (by omega), kchk_t c2, Int.toNat_natCast, t2, kbind_eq (sgB_L t1)]
  by_cases c : pL (T s) = true
  · rw [if_pos c, if_neg (by decide), kbind_eq (c_runL hn ht _ (s + 1) rfl _ hf), if_pos c]
  · rw [if_neg c, if_pos rfl, kchk_t c2, kbind_eq (sgB_D t1), if_neg c]
    by_cases d : pD (T s) = true
    · rw [if_pos d, if_neg (by decide), kbind_eq (c_runD hn ht _ (s + 1) rfl _ hf), if_pos d]
    · rw [if_neg d, if_pos rfl, if_neg d]
theorem c_valueOf {s e : Nat} (hn : n ≤ 700) (ht : tpC T n σ) (he : e ≤ n) (hs : s ≤ e) (hd : ∀ i, s ≤ i → i < e → pD (T i) = true) : pf_Tokens_valueOf_24 σ (s : Int) (e : Int) = some (zvC T s (e - s)) := by
  have key : ∀ d j : Nat, e - (s + j) = d → s + j ≤ e → ∀ fuel, d < fuel → kloop (fun st => pf_Tokens_valueOf_24_l5 σ (e : Int) st.1 st.2) fuel (zvC T s j, ((s + j : Nat) : Int)) = some (zvC T s (e - s)) := by
    intro d
    induction d with
    | zero =>
      intro j hj h2 fuel hf
      obtain ⟨m, rfl⟩ : ∃ m, fuel = m + 1 := ⟨fuel - 1, by omega⟩
      rw [show e - s = j by omega]
      refine kloop_r ?_
      show pf_Tokens_valueOf_24_l5 σ (e : Int) (zvC T s j) ((s + j : Nat) : Int) = _
      unfold pf_Tokens_valueOf_24_l5
      rw [if_pos (by omega)]
    | succ d ih =>
      intro j hj h2 fuel hf
      obtain ⟨m, rfl⟩ : ∃ m, fuel = m + 1 := ⟨fuel - 1, by omega⟩
      have c1 : ¬ (e : Int) ≤ ((s + j : Nat) : Int) := by omega
      have c2 : 0 ≤ ((s + j : Nat) : Int) ∧ ((s + j : Nat) : Int) < 700 := by omega
      have ew := kw_inc (i := s + j) (by omega)
      obtain ⟨t1, t2⟩ := ht (s + j) (by omega)
      have hb := pD_t.mp (hd (s + j) (by omega) (by omega))
      have hr := zvC_rng T s j (fun i hi => pD_t.mp (hd (s + i) (by omega) (by omega)))
      have e3 : min (w32 (w32 (w32 (zvC T s j * 10) + T (s + j)) - 48)) 10000 = zvC T s (j + 1) := by
        rw [w32_s (v := zvC T s j * 10) (by omega) (by omega), w32_s (v := zvC T s j * 10 + T (s + j)) (by omega) (by omega), w32_s (by omega) (by omega)]
        rfl
      rw [← ih (j + 1) (by omega) (by omega) m (by omega)]
      refine kloop_l ?_
      show pf_Tokens_valueOf_24_l5 σ (e : Int) (zvC T s j) ((s + j : Nat) : Int) = _
      unfold pf_Tokens_valueOf_24_l5
      rw [if_neg c1, kchk_t c2, Int.toNat_natCast, t2, show sgB (T (s + j)) = T (s + j) by unfold sgB; rw [if_pos (by omega)], klet_eq, klet_eq, e3, ew]
      rfl
  unfold pf_Tokens_valueOf_24
  exact kbind_eq (f := fun x => some x) (key _ 0 rfl (by omega) kFuel (kFuel_lt (by omega)))
end SCAN

section TOK
variable {T : Nat → Int} {n : Nat} {σ : kM}
/-- the row of tokens, m of them -/
def TK (T : Nat → Int) (n m : Nat) (σ : kM) : Prop := σ 24 5 = (m : Int) ∧ m ≤ n ∧ tK T n m = n ∧ (∀ j : Nat, j < m → tK T n j < n ∧ tkC T (tK T n j) (tE T n (tK T n j)) (σ 25 j) (σ 26 j) (σ 27 j) (σ 28 j)) ∧ σ 25 m = 0 ∧ σ 26 m = (n : Int)
theorem c_scan (hn : n ≤ 700) (ht : tpC T n σ) : ∃ (m : Nat) (σ' : kM), pf_Tokens_scan_24 σ (n : Int) = some σ' ∧ TK T n m σ' ∧ σ' 24 6 = 0 ∧ (∀ c : Nat, c < 24 ∨ 28 < c → σ' c = σ c) ∧ ∀ j : Nat, j ≠ 5 → j ≠ 6 → σ' 24 j = σ 24 j := by
  have key : ∀ d k : Nat, n - k = d → k ≤ n → ∀ (i e : Nat) (σ1 : kM), σ1 24 5 = (i : Int) → i ≤ k → e ≤ n → (∀ z, z = max k e → tK T n i = tN pB T n z) → (∀ j : Nat, j < i → tK T n j < n ∧ tkC T (tK T n j) (tE T n (tK T n j)) (σ1 25 j) (σ1 26 j) (σ1 27 j) (σ1 28 j)) → σ1 24 6 = 0 → (∀ c : Nat, c < 24 ∨ 28 < c → σ1 c = σ c) → (∀ j : Nat, j ≠ 5 → j ≠ 6 → σ1 24 j = σ 24 j) → ∀ fuel, d < fuel →
      ∃ (m : Nat) (σ' : kM), kloop (fun st => pf_Tokens_scan_24_l23 st.1 (n : Int) st.2.1 st.2.2) fuel (σ1, (e : Int), (k : Int)) = some σ' ∧ σ' 24 5 = (m : Int) ∧ m ≤ n ∧ tK T n m = n ∧ (∀ j : Nat, j < m → tK T n j < n ∧ tkC T (tK T n j) (tE T n (tK T n j)) (σ' 25 j) (σ' 26 j) (σ' 27 j) (σ' 28 j)) ∧ σ' 24 6 = 0 ∧ (∀ c : Nat, c < 24 ∨ 28 < c → σ' c = σ c) ∧ ∀ j : Nat, j ≠ 5 → j ≠ 6 → σ' 24 j = σ 24 j := by
    intro d
    induction d with
    | zero =>
      intro k hk hkn i e σ1 h5 hik he hK hT h6 hfr hfr2 fuel hf
      obtain ⟨m, rfl⟩ : ∃ m, fuel = m + 1 := ⟨fuel - 1, by omega⟩
      refine ⟨i, σ1, kloop_r ?_, h5, by omega, ?_, hT, h6, hfr, hfr2⟩
      · show pf_Tokens_scan_24_l23 σ1 (n : Int) (e : Int) (k : Int) = _
        unfold pf_Tokens_scan_24_l23
        rw [if_pos (by omega)]
      · rw [hK n (by omega), tN_no (by omega)]
    | succ d ih =>
      intro k hk hkn i e σ1 h5 hik he hK hT h6 hfr hfr2 fuel hf
      obtain ⟨m, rfl⟩ : ∃ m, fuel = m + 1 := ⟨fuel - 1, by omega⟩
      have c1 : ¬ (n : Int) ≤ (k : Int) := by omega
      have c2 : 0 ≤ (k : Int) ∧ (k : Int) < 700 := by omega
      have ew := kw_inc (i := k) (by omega)
      have ht1 : tpC T n σ1 := ht.kept (hfr 1 (by decide))
      obtain ⟨t1, t2⟩ := ht1 k (by omega)
      by_cases ce : k < e
      · have e1 : kloop (fun st => pf_Tokens_scan_24_l23 st.1 (n : Int) st.2.1 st.2.2) (m + 1) (σ1, (e : Int), (k : Int)) = kloop (fun st => pf_Tokens_scan_24_l23 st.1 (n : Int) st.2.1 st.2.2) m (σ1, (e : Int), ((k + 1 : Nat) : Int)) := by
          refine kloop_l ?_
          show pf_Tokens_scan_24_l23 σ1 (n : Int) (e : Int) (k : Int) = _
          unfold pf_Tokens_scan_24_l23 pf_Tokens_scan_24_l23_j74
          rw [if_neg c1, if_pos (by omega), klet_eq, ew]
        rw [e1]
        exact ih (k + 1) (by omega) (by omega) i e σ1 h5 (by omega) he (fun z hz => hK z (by omega)) hT h6 hfr hfr2 m (by omega)
      · have eb : ∀ v : Int, 0 ≤ v → v < 128 → (sgB (T k) = v ↔ T k = v) := by
          intro v v0 v1
          unfold sgB
          by_cases x : T k < 128
          · rw [if_pos x]
          · rw [if_neg x]
            omega
        by_cases cb : pB (T k) = true
        · have e1 : kloop (fun st => pf_Tokens_scan_24_l23 st.1 (n : Int) st.2.1 st.2.2) (m + 1) (σ1, (e : Int), (k : Int)) = kloop (fun st => pf_Tokens_scan_24_l23 st.1 (n : Int) st.2.1 st.2.2) m (σ1, (e : Int), ((k + 1 : Nat) : Int)) := by
            refine kloop_l ?_
            show pf_Tokens_scan_24_l23 σ1 (n : Int) (e : Int) (k : Int) = _
            unfold pf_Tokens_scan_24_l23 pf_Tokens_scan_24_l23_j74
            rw [if_neg c1, if_neg (by omega), kchk_t c2, Int.toNat_natCast, t2]
            by_cases x : T k = 32
            · rw [if_pos ((eb 32 (by decide) (by decide)).mpr x), klet_eq, ew]
            · rw [if_neg (fun y => x ((eb 32 (by decide) (by decide)).mp y)), kchk_t c2, if_pos ((eb 10 (by decide) (by decide)).mpr ((pB_t.mp cb).resolve_left x)), klet_eq, ew]
          rw [e1]
          exact ih (k + 1) (by omega) (by omega) i e σ1 h5 (by omega) he (fun z hz => by rw [show z = k + 1 by omega, ← tN_go (show k < n by omega) cb]; exact hK k (by omega)) hT h6 hfr hfr2 m (by omega)
        · have hmk : k = max k e := by omega
          have hkn' : k < n := by omega
          have hi7 : i < 700 := by omega
          have hd1 : n - (k + 1) = d := by omega
          have hd2 : k + 1 ≤ n := by omega
          have hd3 : i + 1 ≤ k + 1 := by omega
          have hd4 : d < m := by omega
          have hd5 : ¬ (k : Int) < (e : Int) := by omega
          have hd6 : ∀ j : Nat, j < i + 1 → j ≠ i → j < i := fun j _ _ => by omega
          have hm1 : ∀ e' : Nat, k < e' → max (k + 1) e' = e' := fun e' _ => by omega
          have hKk : tK T n i = k := by rw [hK k hmk, tN_no (fun x => cb x.2)]
          have hE := c_endOf (σ := σ1) (s := k) hn ht1 hkn'
          obtain ⟨g1, g2⟩ := tE_ge (T := T) (n := n) (s := k) hkn'
          have gL : pL (T k) = true → ∀ j, k ≤ j → j < tE T n k → pL (T j) = true := fun h => (tE_L hkn' h).2
          have gD : pD (T k) = true → ∀ j, k ≤ j → j < tE T n k → pD (T j) = true := fun h => (tE_D hkn' h).2
          have hK1 : tK T n (i + 1) = tN pB T n (tE T n k) := by
            show tN pB T n (tE T n (tK T n i)) = _
            rw [hKk]
          have hK2 : tE T n (tK T n i) = tE T n k := by rw [hKk]
          generalize tE T n k = e' at hE g1 g2 gL gD hK1 hK2
          obtain ⟨σ2, a1, ⟨a2, a3, a4, a5⟩, a6⟩ := c_addToken (σ := σ1) (i := i) (s := k) hn ht1 h5 hi7 hkn' g1 g2 gL gD
          have e1 : kloop (fun st => pf_Tokens_scan_24_l23 st.1 (n : Int) st.2.1 st.2.2) (m + 1) (σ1, (e : Int), (k : Int)) = kloop (fun st => pf_Tokens_scan_24_l23 st.1 (n : Int) st.2.1 st.2.2) m (σ2, (e' : Int), ((k + 1 : Nat) : Int)) := by
            refine kloop_l ?_
            show pf_Tokens_scan_24_l23 σ1 (n : Int) (e : Int) (k : Int) = _
            unfold pf_Tokens_scan_24_l23 pf_Tokens_scan_24_l23_j74
            rw [if_neg c1, if_neg hd5, kchk_t c2, Int.toNat_natCast, t2, if_neg (fun y => cb (pB_t.mpr (Or.inl ((eb 32 (by decide) (by decide)).mp y)))), kchk_t c2, if_neg (fun y => cb (pB_t.mpr (Or.inr ((eb 10 (by decide) (by decide)).mp y)))), kbind_eq hE, kbind_eq a1, klet_eq, ew]
          rw [e1]
          refine ih (k + 1) hd1 hd2 (i + 1) e' σ2 a4 hd3 g2 (fun z hz => by rw [hz, hm1 e' g1]; exact hK1) (fun j hj => ?_) (by rw [a3 6 (by decide)]; exact h6) (fun c hc => (a2 c hc).trans (hfr c hc)) (fun j h1 h2 => (a3 j h1).trans (hfr2 j h1 h2)) m hd4
          by_cases c : j = i
          · subst c
            rw [hK2, hKk]
            exact ⟨hkn', a6⟩
          · obtain ⟨b1, b2, b3, b4⟩ := a5 j c
            rw [b1, b2, b3, b4]
            exact hT j (hd6 j hj c)
  have e24 : ∀ f g : Nat → Int, kst (kst σ 24 f) 24 g = kst σ 24 g := fun f g => kst_st _ _ _ _
  obtain ⟨m, σ1, b1, b2, b3, b4, b5, b6, b7, b8⟩ := key _ 0 rfl (by omega) 0 0 (kst σ 24 (kup (kup (σ 24) 5 0) 6 0)) (by rw [kst_eq, kup_ne (by decide), kup_eq]; rfl) (by omega) (by omega) (fun z hz => by rw [hz]; rfl) (fun j hj => absurd hj (Nat.not_lt_zero _)) (by rw [kst_eq, kup_eq]) (fun c hc => by rw [kst_ne (by omega)]) (fun j h1 h2 => by rw [kst_eq, kup_ne h2, kup_ne h1]) kFuel (kFuel_lt (by omega))
  have c1 : 0 ≤ (m : Int) ∧ (m : Int) < 701 := by clear b4; omega
  have hne : ∀ j : Nat, j < m → j ≠ m := fun j h => by clear b4; omega
  have hn7 : min (n : Int) 700 = (n : Int) := by clear b4; omega
  have hc5 : ∀ c : Nat, c < 24 ∨ 28 < c → c ≠ 26 ∧ c ≠ 25 := fun c h => by clear b4; omega
  refine ⟨m, kst (kst σ1 25 (kup (σ1 25) m 0)) 26 (kup (σ1 26) m (n : Int)), ?_, ⟨?_, b3, b4, fun j hj => ⟨(b5 j hj).1, ?_⟩, ?_, ?_⟩, ?_, fun c hc => ?_, fun j h1 h2 => ?_⟩
  · unfold pf_Tokens_scan_24
    rw [hn7, klet_eq, klet_eq, klet_eq, kst_eq, e24]
    have b1 : kloop (fun st => pf_Tokens_scan_24_l23 st.1 (n : Int) st.2.1 st.2.2) kFuel (kst σ 24 (kup (kup (σ 24) 5 0) 6 0), 0, 0) = some σ1 := b1
    rw [kbind_eq b1, b2, kchk_t c1, klet_eq, Int.toNat_natCast, kst_ne (show (24 : Nat) ≠ 25 by decide), b2, kchk_t c1, klet_eq, Int.toNat_natCast, kst_ne (show (26 : Nat) ≠ 25 by decide)]
  · rw [kst_ne (by decide), kst_ne (by decide)]
    exact b2
  · have := (b5 j hj).2
    rw [kst_ne (show (25 : Nat) ≠ 26 by decide), kst_eq, kst_eq, kup_ne (hne j hj), kup_ne (hne j hj), kst_ne (show (27 : Nat) ≠ 26 by decide), kst_ne (show (27 : Nat) ≠ 25 by decide), kst_ne (show (28 : Nat) ≠ 26 by decide), kst_ne (show (28 : Nat) ≠ 25 by decide)]
    exact this
  · rw [kst_ne (by decide), kst_eq, kup_eq]
  · rw [kst_eq, kup_eq]
  · rw [kst_ne (by decide), kst_ne (by decide)]
    exact b6
  · rw [kst_ne (hc5 c hc).1, kst_ne (hc5 c hc).2]
    exact b7 c hc
  · rw [kst_ne (by decide), kst_ne (by decide)]
    exact b8 j h1 h2
end TOK

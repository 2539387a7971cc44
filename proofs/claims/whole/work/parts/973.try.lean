/-! CALLS: truths, listen. All guesses, one by one -/
noncomputable def tB (N M tp : Int) (PH PF PB : List Int) (L : Nat → Int) (f : Int) (F : Nat → Int) (q : Nat → Int) (g : Nat) : Bool := @decide (gOK N M tp PH PF PB L f F q g) (Classical.propDecidable _)
theorem tB_t {N M tp : Int} {PH PF PB : List Int} {L : Nat → Int} {f : Int} {F q : Nat → Int} {g : Nat} (h : gOK N M tp PH PF PB L f F q g) : tB N M tp PH PF PB L f F q g = true := @decide_eq_true _ (Classical.propDecidable _) h
theorem tB_f {N M tp : Int} {PH PF PB : List Int} {L : Nat → Int} {f : Int} {F q : Nat → Int} {g : Nat} (h : ¬ gOK N M tp PH PF PB L f F q g) : tB N M tp PH PF PB L f F q g = false := @decide_eq_false _ (Classical.propDecidable _) h
def tF (G : Nat → Bool) : Nat → Int × Int
  | 0 => (0, -1)
  | i + 1 => if G i = true then ((tF G i).1 + 1, if (tF G i).1 = 0 then (i : Int) else (tF G i).2) else tF G i
theorem tF_t {G : Nat → Bool} {i : Nat} (h : G i = true) : tF G (i + 1) = ((tF G i).1 + 1, if (tF G i).1 = 0 then (i : Int) else (tF G i).2) := by
  show (if G i = true then _ else _) = _
  rw [if_pos h]
theorem tF_f {G : Nat → Bool} {i : Nat} (h : G i = false) : tF G (i + 1) = tF G i := by
  show (if G i = true then _ else _) = _
  rw [if_neg (by rw [h]; decide)]
theorem tF_inv (G : Nat → Bool) (i : Nat) : 0 ≤ (tF G i).1 ∧ (tF G i).1 ≤ (i : Int) ∧ ((tF G i).1 = 0 ↔ (tF G i).2 = -1) := by
  induction i with
  | zero => exact ⟨Int.le_refl 0, Int.le_refl 0, ⟨fun _ => rfl, fun _ => rfl⟩⟩
  | succ i ih =>
    cases e : G i with
    | true =>
      rw [tF_t e]
      refine ⟨?_, ?_, ?_⟩
      · show 0 ≤ (tF G i).1 + 1
        omega
      · show (tF G i).1 + 1 ≤ _
        omega
      · show (tF G i).1 + 1 = 0 ↔ (if (tF G i).1 = 0 then (i : Int) else (tF G i).2) = -1
        by_cases e2 : (tF G i).1 = 0
        · rw [if_pos e2]
          omega
        · rw [if_neg e2]
          omega
    | false =>
      rw [tF_f e]
      omega
def sP (s : Nat → Int) (i : Nat) : Nat := 2 * i + (if s i < 64 then 0 else 1)
/-- numbers of scars are noted, of so many people -/
def sS (n : Nat) (w s : Nat → Int) : Nat → Int := kit (fun i w => kup w (sP s i) (klor (w (sP s i)) (klshl 1 (kand (s i) 63)))) n w
def tW (G : Nat → Bool) (sc : Nat → Nat → Int) (n : Nat) : Nat → Nat → Int
  | 0 => fun _ => 0
  | g + 1 => if G g = true then sS n (tW G sc n g) (sc g) else tW G sc n g
theorem tW_t {G : Nat → Bool} {sc : Nat → Nat → Int} {n g : Nat} (h : G g = true) : tW G sc n (g + 1) = sS n (tW G sc n g) (sc g) := by
  show (if G g = true then _ else _) = _
  rw [if_pos h]
theorem tW_f {G : Nat → Bool} {sc : Nat → Nat → Int} {n g : Nat} (h : G g = false) : tW G sc n (g + 1) = tW G sc n g := by
  show (if G g = true then _ else _) = _
  rw [if_neg (by rw [h]; decide)]
theorem tF_skip {G : Nat → Bool} {a : Nat} (n : Nat) (h : ∀ k : Nat, k < n → G (a + k) = false) : tF G (a + n) = tF G a := by
  induction n with
  | zero => rfl
  | succ n ih =>
    show tF G (a + n + 1) = _
    rw [tF_f (h n (by omega)), ih (fun k hk => h k (by omega))]
theorem tW_skip {G : Nat → Bool} {sc : Nat → Nat → Int} {m a : Nat} (n : Nat) (h : ∀ k : Nat, k < n → G (a + k) = false) : tW G sc m (a + n) = tW G sc m a := by
  induction n with
  | zero => rfl
  | succ n ih =>
    show tW G sc m (a + n + 1) = _
    rw [tW_f (h n (by omega)), ih (fun k hk => h k (by omega))]
theorem sS_congr {n : Nat} {w w' s s' : Nat → Int} (hw : ∀ k : Nat, k < 16 → w k = w' k) (hs : ∀ i : Nat, i < n → s i = s' i) : ∀ k : Nat, k < 16 → sS n w s k = sS n w' s' k := by
  unfold sS
  have key : ∀ m : Nat, m ≤ n → ∀ k : Nat, k < 16 → kit (fun i w => kup w (sP s i) (klor (w (sP s i)) (klshl 1 (kand (s i) 63)))) m w k = kit (fun i w => kup w (sP s' i) (klor (w (sP s' i)) (klshl 1 (kand (s' i) 63)))) m w' k := by
    intro m
    induction m with
    | zero => intro _; exact hw
    | succ m ih =>
      intro hm k hk
      have h1 := ih (by omega)
      show kup (kit (fun i w => kup w (sP s i) (klor (w (sP s i)) (klshl 1 (kand (s i) 63)))) m w) (sP s m) _ k = kup (kit (fun i w => kup w (sP s' i) (klor (w (sP s' i)) (klshl 1 (kand (s' i) 63)))) m w') (sP s' m) _ k
      have e : sP s m = sP s' m := by
        unfold sP
        rw [hs m (by omega)]
      rw [e, hs m (by omega)]
      generalize kit (fun i w => kup w (sP s i) (klor (w (sP s i)) (klshl 1 (kand (s i) 63)))) m w = x at h1
      generalize kit (fun i w => kup w (sP s' i) (klor (w (sP s' i)) (klshl 1 (kand (s' i) 63)))) m w' = x' at h1
      by_cases ek : k = sP s' m
      · subst ek
        rw [kup_eq, kup_eq, h1 _ hk]
      · rw [kup_ne ek, kup_ne ek]
        exact h1 k hk
  exact key n (Nat.le_refl _)
section TRY2
variable {N M tp : Int} {L : Nat → Int} {PH PF PB : List Int} {σ σ' μ μ' : kM} {q q' : Nat → Int} {f : Int} {F : Nat → Int}
theorem c_see (hN : σ 3 1 = N) (hn : 0 ≤ N ∧ N ≤ 8) : pf_Oracle_seeScars_57 σ = some (kst σ 61 (sS N.toNat (σ 61) (σ 60))) := by
  obtain ⟨σ1, b1, b2⟩ := kl_M (body := fun st => pf_Oracle_seeScars_57_l2 st.1 st.2) (fun i σ1 => σ1 = kst σ 61 (sS i (σ 61) (σ 60))) (fun i => (i : Int)) N.toNat (by omega) (fun i σ1 hi hs => by
    have ew := kw_inc (i := i) (by omega)
    have hs : σ1 = kst σ 61 (sS i (σ 61) (σ 60)) := hs
    have e60 : σ1 60 = σ 60 := by rw [hs, kst_ne (by decide)]
    have e61 : σ1 61 = sS i (σ 61) (σ 60) := by rw [hs, kst_eq]
    have e3 : σ1 3 = σ 3 := by rw [hs, kst_ne (by decide)]
    have estep : sS (i + 1) (σ 61) (σ 60) = kup (sS i (σ 61) (σ 60)) (sP (σ 60) i) (klor (sS i (σ 61) (σ 60) (sP (σ 60) i)) (klshl 1 (kand (σ 60 i) 63))) := rfl
    refine ⟨_, ?_, rfl⟩
    show pf_Oracle_seeScars_57_l2 σ1 (i : Int) = _
    unfold pf_Oracle_seeScars_57_l2 pf_Oracle_seeScars_57_l2_j38
    rw [e3, hN, if_neg (by omega), kchk_t (by omega), klet_eq, Int.toNat_natCast, e60, w32_s (v := (i : Int) * 2) (by omega) (by omega), estep]
    unfold sP
    by_cases c : σ 60 i < 64
    · have e2 : w32 ((i : Int) * 2 + 0) = ((2 * i + 0 : Nat) : Int) := by
        rw [w32_s (by omega) (by omega)]
        omega
      rw [if_pos c, if_pos c, e2, klet_eq, kchk_t (by omega), kchk_t (by omega), klet_eq, klet_eq, ew, Int.toNat_natCast, e61, hs, kst_st]
    · have e2 : w32 ((i : Int) * 2 + 1) = ((2 * i + 1 : Nat) : Int) := by
        rw [w32_s (by omega) (by omega)]
        omega
      rw [if_neg c, if_neg c, e2, klet_eq, kchk_t (by omega), kchk_t (by omega), klet_eq, klet_eq, ew, Int.toNat_natCast, e61, hs, kst_st]) (fun σ1 hs => by
    refine ⟨σ1, ?_, hs⟩
    have hs : σ1 = kst σ 61 (sS N.toNat (σ 61) (σ 60)) := hs
    have e3 : σ1 3 = σ 3 := by rw [hs, kst_ne (by decide)]
    show pf_Oracle_seeScars_57_l2 σ1 ((N.toNat : Nat) : Int) = _
    unfold pf_Oracle_seeScars_57_l2
    rw [e3, hN, if_pos (by omega)]) (σ := σ) (by show σ = kst σ 61 (σ 61); rw [kst_id]) (b0 := 0) rfl
  unfold pf_Oracle_seeScars_57
  rw [kbind_eq b1, b2]
theorem c_addF' {x : Int} (h2 : 0 ≤ σ 57 2 ∧ σ 57 2 < 100000) : ∃ σ', pf_Oracle_addFound_57 σ x = some σ' ∧ σ' 57 2 = σ 57 2 + 1 ∧ σ' 57 3 = (if σ 57 2 = 0 then x else σ 57 3) ∧ (∀ c : Nat, c ≠ 57 → σ' c = σ c) := by
  unfold pf_Oracle_addFound_57 pf_Oracle_addFound_57_j12
  by_cases e : σ 57 2 = 0
  · rw [if_pos e, if_pos e, klet_eq, klet_eq]
    refine ⟨_, rfl, ?_, ?_, fun c hc => by rw [kst_ne hc, kst_ne hc]⟩
    · rw [kst_eq, kup_eq, kst_eq, kup_ne (by decide), w32_s (by omega) (by omega)]
    · rw [kst_eq, kup_ne (by decide), kst_eq, kup_eq]
  · rw [if_neg e, if_neg e, klet_eq]
    refine ⟨_, rfl, ?_, ?_, fun c hc => by rw [kst_ne hc]⟩
    · rw [kst_eq, kup_eq, w32_s (by omega) (by omega)]
    · rw [kst_eq, kup_ne (by decide)]
theorem g_sum {p t : Int} {g v : Nat} (hp : 0 ≤ p ∧ p < 8) (ht : 0 ≤ t ∧ t < 4) (hv : v < 10) (hg : (g : Int) = 100 * p + 10 * t + (v : Int)) : w32 (w32 (w32 (p * 100) + w32 (t * 10)) + (v : Int)) = (g : Int) := by
  rw [w32_s (v := p * 100) (by omega) (by omega), w32_s (v := t * 10) (by omega) (by omega), w32_s (v := p * 100 + t * 10) (by omega) (by omega), w32_s (by omega) (by omega)]
  omega
theorem g_9 {p t : Int} {g v : Nat} (hp : 0 ≤ p ∧ p < 8) (ht : 0 ≤ t ∧ t < 4) (hv : v < 10) (hg : (g : Int) = 100 * p + 10 * t + (v : Int)) : (g : Int) < 100000 := by omega
/-- a guess that holds, or not, is noted -/
theorem c_j130 {G : Nat → Bool} {x1 p t x4 x5 x6 : Int} {g v : Nat} (hp : 0 ≤ p ∧ p < 8) (ht : 0 ≤ t ∧ t < 4) (hv : v < 10) (hg : (g : Int) = 100 * p + 10 * t + (v : Int)) (h2 : σ 57 2 = (tF G g).1) (h3 : σ 57 3 = (tF G g).2) (hN : σ 3 1 = N) (hn : 0 ≤ N ∧ N ≤ 8) (hx : x6 = 0 ∧ G g = false ∨ x6 = 1 ∧ G g = true) :
    ∃ σ', pf_Oracle_tryTruths_57_l80_j130 σ x1 p t x4 x5 x6 (v : Int) = some (Sum.inl (σ', x5, x6, ((v + 1 : Nat) : Int))) ∧ (∀ c : Nat, c ≠ 57 → c ≠ 61 → σ' c = σ c) ∧ σ' 57 2 = (tF G (g + 1)).1 ∧ σ' 57 3 = (tF G (g + 1)).2 ∧ σ' 61 = (if G g = true then sS N.toNat (σ 61) (σ 60) else σ 61) := by
  have ew := kw_inc (i := v) (by omega)
  have ex := g_sum hp ht hv hg
  have hg9 := g_9 hp ht hv hg
  unfold pf_Oracle_tryTruths_57_l80_j130 pf_Oracle_tryTruths_57_l80_j155
  rcases hx with ⟨rfl, hG⟩ | ⟨rfl, hG⟩
  · rw [if_pos rfl, klet_eq, ew, tF_f hG, if_neg (by rw [hG]; decide)]
    exact ⟨σ, rfl, fun _ _ _ => rfl, h2, h3, rfl⟩
  · have hinv := tF_inv G g
    obtain ⟨σ1, a1, a2, a3, a4⟩ := c_addF' (σ := σ) (x := (g : Int)) (by rw [h2]; exact ⟨hinv.1, Int.lt_of_le_of_lt hinv.2.1 hg9⟩)
    have s1 := c_see (σ := σ1) (N := N) (by rw [a4 3 (by decide)]; exact hN) hn
    rw [if_neg (by decide), ex, kbind_eq a1, kbind_eq s1, klet_eq, ew, tF_t hG, if_pos hG]
    refine ⟨_, rfl, fun c c1 c2 => by rw [kst_ne c2]; exact a4 c c1, ?_, ?_, ?_⟩
    · rw [kst_ne (by decide), a2, h2]
    · rw [kst_ne (by decide), a3, h2, h3]
    · rw [kst_eq, a4 61 (by decide), a4 60 (by decide)]
/-- where the number makes no difference -/
theorem tH_indep {k0 n : Nat} {r r' : Nat → Int} (h : agr (fun k => k ≠ k0) r r') (hk : 113 ≤ k0) (hk2 : k0 < 145) (hI : IV M tp L r) (hA : nmA M L PH k0 r) (hE : EN N M tp L PH PF PB) : (tH N M PH PF PB L f F n r ↔ tH N M PH PF PB L f F n r') ∧ ∀ j : Nat, j < 113 → yrs N M PH PF PB L 5 r j = yrs N M PH PF PB L 5 r' j := by
  have hy := fun n => (agx.yrs h hk hk2 hI hA hE n).1
  refine ⟨⟨fun hh k a b => ?_, fun hh k a b => ?_⟩, fun j hj => (hy 5).x (by omega)⟩
  · rw [← (hy k).x (k := 195) (by omega)]
    exact hh k a b
  · rw [(hy k).x (k := 195) (by omega)]
    exact hh k a b
theorem CN.eq (h : CN N M tp L PH PF PB σ q) (h3 : σ' 3 = σ 3) (h4 : σ' 4 = σ 4) (h5 : σ' 5 = σ 5) (h6 : σ' 6 = σ 6) (h8 : σ' 8 = σ 8) (h9 : σ' 9 = σ 9) (h10 : σ' 10 = σ 10) (h31 : σ' 31 = σ 31) : CN N M tp L PH PF PB σ' q :=
  ⟨h.1, h.2.1.kept h3 h4 h8 h9 h10, h.2.2.1.kept h31 h4 h5 h6, h.2.2.2⟩
/-- all but the law's truths, the trial, what is found -/
def frG (σ σ' : kM) : Prop := ∀ c : Nat, c < 5 ∨ (6 ≤ c ∧ c ≤ 10) ∨ (12 ≤ c ∧ c ≤ 56) ∨ c = 58 ∨ (62 ≤ c ∧ c ≤ 64) ∨ 71 ≤ c → σ' c = σ c
theorem frG.rfl {σ : kM} : frG σ σ := fun _ _ => Eq.refl _
theorem frG.trans {σ σ' σ'' : kM} (h : frG σ σ') (h' : frG σ' σ'') : frG σ σ'' := fun c hc => (h' c hc).trans (h c hc)
theorem frG.frF {σ σ' : kM} (h : frF σ σ') : frG σ σ' := fun c hc => h c (by omega)
theorem frG.put5 {σ : kM} {g : Nat → Int} : frG σ (kst σ 5 g) := fun c hc => kst_ne (by omega)
theorem frG.k2 {σ σ' : kM} (h : ∀ c : Nat, c ≠ 57 → c ≠ 61 → σ' c = σ c) : frG σ σ' := fun c hc => h c (by omega) (by omega)
theorem frG.cn {i : Nat} {u : Int} (h : frG σ σ') (h5 : σ' 5 = kup (σ 5) i u) (hC : CN N M tp L PH PF PB σ q) (hi : i < 32) (hu : 0 ≤ u ∧ u ≤ 9) : CN N M tp L PH PF PB σ' (kup q (113 + i) u) :=
  (hC.setT hi hu).eq (by rw [h 3 (by decide), kst_ne (by decide)]) (by rw [h 4 (by decide), kst_ne (by decide)]) (by rw [h5, kst_eq]) (by rw [h 6 (by decide), kst_ne (by decide)]) (by rw [h 8 (by decide), kst_ne (by decide)]) (by rw [h 9 (by decide), kst_ne (by decide)]) (by rw [h 10 (by decide), kst_ne (by decide)]) (by rw [h 31 (by decide), kst_ne (by decide)])
theorem CF.frG (h : CF σ f F) (hk : frG σ σ') : CF σ' f F := by
  unfold CF at *
  rw [hk 29 (by decide), hk 33 (by decide), hk 34 (by decide), hk 35 (by decide)]
  exact h
/-- what stands behind the guesses ahead of g -/
def TI (n : Int) (G : Nat → Bool) (sc : Nat → Nat → Int) (nn : Nat) (σ0 σ : kM) (g : Nat) : Prop := frG σ0 σ ∧ σ 57 2 = (tF G g).1 ∧ σ 57 3 = (tF G g).2 ∧ (5 ≤ n → ∀ k : Nat, k < 16 → σ 61 k = tW G sc nn g k)
end TRY2

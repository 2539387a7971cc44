/-! two rows that agree where it matters give years that agree there; hits by years -/
def agr (D : Nat → Prop) (q q' : Nat → Int) : Prop := ∀ k : Nat, D k → q k = q' k
section AGR
variable {N M tp : Int} {L : Nat → Int} {PH PF PB : List Int} {D : Nat → Prop} {q q' : Nat → Int}
theorem agr.up (h : agr D q q') {i : Nat} {v v' : Int} (hv : D i → v = v') : agr D (kup q i v) (kup q' i v') := by
  intro k hk
  by_cases e : k = i
  · subst e
    rw [kup_eq, kup_eq]
    exact hv hk
  · rw [kup_ne e, kup_ne e]
    exact h k hk
theorem agr.sub {D' : Nat → Prop} (h : agr D q q') (hs : ∀ k, D' k → D k) : agr D' q q' := fun k hk => h k (hs k hk)
theorem agr.upN (h : agr D q q') {i : Nat} (v : Int) : agr (fun k => D k ∨ k = i) (kup q i v) (kup q' i v) := by
  intro k hk
  by_cases e : k = i
  · subst e
    rw [kup_eq, kup_eq]
  · rw [kup_ne e, kup_ne e]
    exact h k (hk.resolve_right e)
theorem agr.inc (h : agr D q q') (hD : ∀ k : Nat, k < 145 → D k) {w p t d : Int} (hw0 : 0 ≤ w) (hw : w < 4) (hp0 : 0 ≤ p) (hp : p < 8) (ht : t < 4) : sp_in PH q w p t d = sp_in PH q' w p t d := by
  unfold sp_in sp_tv
  rw [h (113 + 4 * p + t).toNat (hD _ (by omega)), h (17 + w).toNat (hD _ (by omega)), h (9 + p).toNat (hD _ (by omega)), h (29 + 8 * w + p).toNat (hD _ (by omega)), h 0 (hD _ (by omega))]
theorem agr.rh (h : agr D q q') (hD : ∀ k : Nat, k < 145 → D k) {w l : Int} (hw0 : 0 ≤ w) (hw : w < 4) (hl : l < 6) (hL : L w.toNat ≤ 6) : sp_rh L q w l = sp_rh L q' w l := by
  unfold sp_rh
  have h1 : (if l = 0 then L w.toNat - 1 else l - 1) < 6 := by split <;> omega
  generalize (if l = 0 then L w.toNat - 1 else l - 1) = m at h1
  rw [h (65 + 6 * w + l).toNat (hD _ (by omega)), h (65 + 6 * w + m).toNat (hD _ (by omega))]
theorem agr.fi (h : agr D q q') (hD : ∀ k : Nat, k < 145 → D k) {w p l i : Int} (hw0 : 0 ≤ w) (hw : w < 4) (hp0 : 0 ≤ p) (hp : p < 8) (hl : l < 6) (hL : L w.toNat ≤ 6) : sp_fi PF L q w p l i = sp_fi PF L q' w p l i := by
  unfold sp_fi sp_tv
  rw [h.rh hD hw0 hw hl hL, h (17 + w).toNat (hD _ (by omega)), h (9 + p).toNat (hD _ (by omega)), h (29 + 8 * w + p).toNat (hD _ (by omega)), h 0 (hD _ (by omega))]
theorem agr.bv (h : agr D q q') (hD : ∀ k : Nat, k < 145 → D k) {w p : Int} (hw0 : 0 ≤ w) (hw : w < 4) (hp0 : 0 ≤ p) (hp : p < 8) : sp_bv PB q w p = sp_bv PB q' w p := by
  unfold sp_bv sp_tv
  rw [h (1 + p).toNat (hD _ (by omega)), h (9 + p).toNat (hD _ (by omega)), h (29 + 8 * w + p).toNat (hD _ (by omega)), h 0 (hD _ (by omega))]
theorem agr.sell (h : agr D q q') (hD : ∀ k : Nat, k < 145 → D k) {w p : Int} (hw0 : 0 ≤ w) (hw : w < 4) (hp0 : 0 ≤ p) (hp : p < 8) : agr D (sp_sell PB w p q) (sp_sell PB w p q') := by
  unfold sp_sell
  rw [h (1 + p).toNat (hD _ (by omega)), h.bv hD hw0 hw hp0 hp]
  split
  · exact h
  · split
    · exact h
    · have h1 : agr D (kup q (1 + p).toNat (w32 (q' (1 + p).toNat - 1))) (kup q' (1 + p).toNat (w32 (q' (1 + p).toNat - 1))) := h.up (fun _ => rfl)
      generalize kup q (1 + p).toNat (w32 (q' (1 + p).toNat - 1)) = r at h1
      generalize kup q' (1 + p).toNat (w32 (q' (1 + p).toNat - 1)) = r' at h1
      unfold sp_s2
      rw [h1 (17 + w).toNat (hD _ (by omega))]
      split
      · exact h1
      · exact (h1.up (fun _ => rfl)).up (fun hd => by rw [h1 _ hd])
theorem agr.fold {f f' : Nat → (Nat → Int) → Nat → Int} : ∀ n : Nat, (∀ i q q', i < n → agr D q q' → agr D (f i q) (f' i q')) → agr D q q' → agr D (kit f n q) (kit f' n q') := by
  intro n
  induction n with
  | zero => intro _ h; exact h
  | succ n ih => intro hs h; exact hs n _ _ (Nat.lt_succ_self n) (ih (fun i q q' hi => hs i q q' (Nat.lt_succ_of_lt hi)) h)
theorem agr.sells (h : agr D q q') (hD : ∀ k : Nat, k < 145 → D k) {w : Int} (hw0 : 0 ≤ w) (hw : w < 4) (hN : N ≤ 8) : agr D (sp_sells N PB w q) (sp_sells N PB w q') :=
  agr.fold _ (fun i q q' hi h => h.sell hD hw0 hw (by omega) (by omega)) h
theorem agr.hq (h : agr D q q') {w p i y : Int} : agr D (sp_hq q w p i y) (sp_hq q' w p i y) := by
  unfold sp_hq
  refine agr.up (agr.up (agr.up (agr.up (agr.up (agr.up (agr.up (agr.up (agr.up (agr.up (agr.up (agr.up h ?_) ?_) ?_) ?_) ?_) ?_) ?_) ?_) ?_) ?_) ?_) ?_
  all_goals intro hd; rw [h _ hd]
theorem agr.hits (h : agr D q q') (hD : ∀ k : Nat, k < 145 → D k) {w l t d : Int} (hw0 : 0 ≤ w) (hw : w < 4) (hN : N ≤ 8) (ht : t < 4) (hl : l < 6) (hL : L w.toNat ≤ 6) : agr D (sp_hits N PH PF L w l t d q).1 (sp_hits N PH PF L w l t d q').1 ∧ (sp_hits N PH PF L w l t d q).2 = (sp_hits N PH PF L w l t d q').2 := by
  unfold sp_hits
  have key : ∀ n : Nat, n ≤ N.toNat → agr D (kit (fun i s => sp_hit PH PF L w l t d (i : Int) s) n (q, 0)).1 (kit (fun i s => sp_hit PH PF L w l t d (i : Int) s) n (q', 0)).1 ∧ (kit (fun i s => sp_hit PH PF L w l t d (i : Int) s) n (q, 0)).2 = (kit (fun i s => sp_hit PH PF L w l t d (i : Int) s) n (q', 0)).2 := by
    intro n
    induction n with
    | zero => intro _; exact ⟨h, rfl⟩
    | succ n ih =>
      intro hn
      obtain ⟨h1, h2⟩ := ih (by omega)
      show agr D (sp_hit PH PF L w l t d (n : Int) (kit (fun i s => sp_hit PH PF L w l t d (i : Int) s) n (q, 0))).1 (sp_hit PH PF L w l t d (n : Int) (kit (fun i s => sp_hit PH PF L w l t d (i : Int) s) n (q', 0))).1 ∧ (sp_hit PH PF L w l t d (n : Int) (kit (fun i s => sp_hit PH PF L w l t d (i : Int) s) n (q, 0))).2 = (sp_hit PH PF L w l t d (n : Int) (kit (fun i s => sp_hit PH PF L w l t d (i : Int) s) n (q', 0))).2
      generalize kit (fun i s => sp_hit PH PF L w l t d (i : Int) s) n (q, 0) = s at h1 h2
      generalize kit (fun i s => sp_hit PH PF L w l t d (i : Int) s) n (q', 0) = s' at h1 h2
      unfold sp_hit
      rw [h1.inc hD hw0 hw (by omega) (by omega) ht, h1.fi hD hw0 hw (by omega) (by omega) hl hL, h2, h1 (17 + w).toNat (hD _ (by omega))]
      split
      · exact ⟨h1, h2⟩
      · exact ⟨h1.hq, rfl⟩
  exact key N.toNat (Nat.le_refl _)
theorem agr.read (h : agr D q q') (hD : ∀ k : Nat, k < 145 → D k) (hI : IV M tp L q) {acc w : Int} (hw0 : 0 ≤ w) (hw : w < M) (hM : M ≤ 4) (hN : N ≤ 8) (htp : tp ≤ 4) (hL : 1 ≤ L w.toNat ∧ L w.toNat ≤ 6) : agr D (sp_read N PH PF L acc w q) (sp_read N PH PF L acc w q') := by
  unfold sp_read
  have hn := hI.next hw0 (by omega) hw
  have ht := hI.topic hw0 (by omega) hn.1 (by omega)
  rw [← h (21 + w).toNat (hD _ (by omega))]
  generalize q (21 + w).toNat = l at *
  rw [← h (65 + 6 * w + l).toNat (hD _ (by omega)), ← h (89 + 6 * w + l).toNat (hD _ (by omega))]
  obtain ⟨h1, h2⟩ := h.hits (N := N) (PH := PH) (PF := PF) (L := L) (w := w) (l := l) (t := q (65 + 6 * w + l).toNat) (d := if acc = 0 then q (89 + 6 * w + l).toNat else 9) hD hw0 (by omega) hN (by omega) (by omega) hL.2
  unfold sp_rd2
  rw [h2]
  exact agr.up (agr.up (agr.up h1 (fun _ => rfl)) (fun hd => by rw [h1 _ hd])) (fun _ => rfl)
theorem agr.poet (h : agr D q q') (hD : ∀ k : Nat, k < 145 → D k) (hI : IV M tp L q) {acc w : Int} (hw0 : 0 ≤ w) (hw : w < M) (hM : M ≤ 4) (hN : N ≤ 8) (htp : tp ≤ 4) (hL : 1 ≤ L w.toNat ∧ L w.toNat ≤ 6) : agr (fun k => D k ∨ k = (197 + w).toNat) (sp_poet N PH PF PB L acc w q) (sp_poet N PH PF PB L acc w q') := by
  unfold sp_poet
  rw [h (25 + w).toNat (hD _ (by omega))]
  have h1 := h.upN (i := (197 + w).toNat) 0
  have hI1 : IV M tp L (kup q (197 + w).toNat 0) := hI.hi (by omega)
  have hD1 : ∀ k : Nat, k < 145 → D k ∨ k = (197 + w).toNat := fun k hk => Or.inl (hD k hk)
  split
  · exact agr.read (agr.sells h1 hD1 hw0 (by omega) hN) hD1 (IV.sells hI1 hw0 (by omega) hN) hw0 hw hM hN htp hL
  · unfold sp_sit
    rw [h1 (25 + w).toNat (hD1 _ (by omega))]
    exact (h1.up (fun _ => rfl)).up (fun hd => by rw [h1 _ hd])
theorem agr.year (h : agr D q q') (hD : ∀ k : Nat, k < 145 → D k) (hI : IV M tp L q) (hE : EN N M tp L PH PF PB) (acc : Int) : agr (fun k => D k ∨ k = 195 ∨ k = 196 ∨ (197 ≤ k ∧ k < 197 + M.toNat)) (sp_year N M PH PF PB L acc q) (sp_year N M PH PF PB L acc q') := by
  obtain ⟨n1, n2, n3, n4, -⟩ := hE
  unfold sp_year
  have h0 : agr (fun k => D k ∨ k = 195 ∨ k = 196 ∨ (197 ≤ k ∧ k < 197 + 0)) (kup (kup q 195 0) 196 0) (kup (kup q' 195 0) 196 0) :=
    ((h.upN (i := 195) 0).upN (i := 196) 0).sub (fun k hk => by
      rcases hk with hk | hk | hk | hk
      · exact Or.inl (Or.inl hk)
      · exact Or.inl (Or.inr hk)
      · exact Or.inr hk
      · omega)
  have i0 : IV M tp L (kup (kup q 195 0) 196 0) := IV.hi (IV.hi hI (by omega)) (by omega)
  have key : ∀ n : Nat, n ≤ M.toNat → agr (fun k => D k ∨ k = 195 ∨ k = 196 ∨ (197 ≤ k ∧ k < 197 + n)) (kit (fun i q => sp_poet N PH PF PB L acc (i : Int) q) n (kup (kup q 195 0) 196 0)) (kit (fun i q => sp_poet N PH PF PB L acc (i : Int) q) n (kup (kup q' 195 0) 196 0)) ∧ IV M tp L (kit (fun i q => sp_poet N PH PF PB L acc (i : Int) q) n (kup (kup q 195 0) 196 0)) := by
    intro n
    induction n with
    | zero => intro _; exact ⟨h0, i0⟩
    | succ n ih =>
      intro hn
      obtain ⟨h1, h2⟩ := ih (by omega)
      refine ⟨(h1.poet (acc := acc) (w := (n : Int)) (fun k hk => Or.inl (hD k hk)) h2 (by omega) (by omega) n2.2 n1.2 n3.2 (n4 _ (by omega) (by omega))).sub (fun k hk => ?_), h2.poet (by omega) (by omega) n2.2 n1.2 n3.2 (n4 _ (by omega) (by omega))⟩
      rcases hk with hk | hk | hk | hk
      · exact Or.inl (Or.inl hk)
      · exact Or.inl (Or.inr (Or.inl hk))
      · exact Or.inl (Or.inr (Or.inr (Or.inl hk)))
      · by_cases e : k = 197 + n
        · exact Or.inr (by omega)
        · exact Or.inl (Or.inr (Or.inr (Or.inr (by omega))))
  have h1 := (key M.toNat (Nat.le_refl _)).1
  generalize kit (fun i q => sp_poet N PH PF PB L acc (i : Int) q) M.toNat (kup (kup q 195 0) 196 0) = r at h1
  generalize kit (fun i q => sp_poet N PH PF PB L acc (i : Int) q) M.toNat (kup (kup q' 195 0) 196 0) = r' at h1
  unfold sp_end
  have e1 : r 195 = r' 195 := h1 195 (Or.inr (Or.inl rfl))
  exact agr.up (agr.up (agr.up h1 (fun hd => by rw [h1 _ hd])) (fun hd => by rw [h1 _ hd, e1])) (fun hd => by rw [h1 _ hd, e1])
end AGR
/-! bits -/
theorem kb_set : ∀ v : Fin 256, ∀ p : Fin 8, (0 ≤ kor (v.val : Int) (kshl 1 (p.val : Int)) ∧ kor (v.val : Int) (kshl 1 (p.val : Int)) < 256) ∧ ∀ p' : Fin 8, kand (kshr (kor (v.val : Int) (kshl 1 (p.val : Int))) (p'.val : Int)) 1 = if p' = p then 1 else kand (kshr (v.val : Int) (p'.val : Int)) 1 := by decide +kernel
theorem kb_zero : ∀ p : Fin 8, kand (kshr 0 (p.val : Int)) 1 = 0 := by decide +kernel
theorem kb_or {v p : Int} (hv0 : 0 ≤ v) (hv : v < 256) (hp0 : 0 ≤ p) (hp : p < 8) : 0 ≤ kor v (kshl 1 p) ∧ kor v (kshl 1 p) < 256 := by
  have h := (kb_set ⟨v.toNat, by omega⟩ ⟨p.toNat, by omega⟩).1
  simp only [Int.toNat_of_nonneg hv0, Int.toNat_of_nonneg hp0] at h
  exact h
theorem kb_bit {v p p' : Int} (hv0 : 0 ≤ v) (hv : v < 256) (hp0 : 0 ≤ p) (hp : p < 8) (hq0 : 0 ≤ p') (hq : p' < 8) : kand (kshr (kor v (kshl 1 p)) p') 1 = if p' = p then 1 else kand (kshr v p') 1 := by
  have h := (kb_set ⟨v.toNat, by omega⟩ ⟨p.toNat, by omega⟩).2 ⟨p'.toNat, by omega⟩
  simp only [Int.toNat_of_nonneg hv0, Int.toNat_of_nonneg hp0, Int.toNat_of_nonneg hq0, Fin.mk.injEq] at h
  rw [h]
  by_cases e : p' = p
  · rw [if_pos e, if_pos (by omega)]
  · rw [if_neg e, if_neg (by omega)]
theorem kb_0 {p : Int} (hp0 : 0 ≤ p) (hp : p < 8) : kand (kshr 0 p) 1 = 0 := by
  have h := kb_zero ⟨p.toNat, by omega⟩
  simp only [Int.toNat_of_nonneg hp0] at h
  exact h

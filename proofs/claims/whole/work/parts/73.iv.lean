/-! what holds of a row of numbers, always -/
theorem kit_ind {α : Type} {f : Nat → α → α} {P : α → Prop} {a : α} : ∀ n : Nat, P a → (∀ i a, i < n → P a → P (f i a)) → P (kit f n a) := by
  intro n
  induction n with
  | zero => intro h _; exact h
  | succ n ih => intro h hs; exact hs n _ (Nat.lt_succ_self n) (ih h (fun i a hi => hs i a (Nat.lt_succ_of_lt hi)))
theorem kit_indN {α : Type} {f : Nat → α → α} {P : Nat → α → Prop} {a : α} : ∀ n : Nat, P 0 a → (∀ i a, i < n → P i a → P (i + 1) (f i a)) → P n (kit f n a) := by
  intro n
  induction n with
  | zero => intro h _; exact h
  | succ n ih => intro h hs; exact hs n _ (Nat.lt_succ_self n) (ih h (fun i a hi => hs i a (Nat.lt_succ_of_lt hi)))
def bd (M tp : Int) (L : Nat → Int) (k : Nat) (v : Int) : Prop :=
  (1 ≤ k → k < 9 → 0 ≤ v ∧ v ≤ 999) ∧ (9 ≤ k → k < 17 → 0 ≤ v ∧ v ≤ 99) ∧ (17 ≤ k → k < 21 → 0 ≤ v ∧ v ≤ 999) ∧ (21 ≤ k → k < 25 → ((k - 21 : Nat) : Int) < M → 0 ≤ v ∧ v < L (k - 21)) ∧ (25 ≤ k → k < 29 → 0 ≤ v ∧ v ≤ 9) ∧
  (61 ≤ k → k < 65 → v = L (k - 61)) ∧ (65 ≤ k → k < 89 → 0 ≤ v ∧ v < tp) ∧ (89 ≤ k → k < 113 → 0 ≤ v ∧ v ≤ 9) ∧ (113 ≤ k → 0 ≤ v ∧ v ≤ 9)
def IV (M tp : Int) (L : Nat → Int) (q : Nat → Int) : Prop := ∀ k : Nat, k < 145 → bd M tp L k (q k)
section IVS
variable {N M tp : Int} {L : Nat → Int} {q : Nat → Int} {PH PF PB : List Int}
theorem IV.up (h : IV M tp L q) {i : Nat} {v : Int} (hv : i < 145 → bd M tp L i v) : IV M tp L (kup q i v) := by
  intro k hk
  by_cases e : k = i
  · subst e
    rw [kup_eq]
    exact hv hk
  · rw [kup_ne e]
    exact h k hk
theorem IV.hi (h : IV M tp L q) {i : Nat} {v : Int} (hi : 145 ≤ i) : IV M tp L (kup q i v) := h.up (fun h => absurd h (by omega))
theorem IV.money (h : IV M tp L q) {p : Int} (h0 : 0 ≤ p) (h1 : p < 8) : 0 ≤ q (1 + p).toNat ∧ q (1 + p).toNat ≤ 999 := (h (1 + p).toNat (by omega)).1 (by omega) (by omega)
theorem IV.scars (h : IV M tp L q) {p : Int} (h0 : 0 ≤ p) (h1 : p < 8) : 0 ≤ q (9 + p).toNat ∧ q (9 + p).toNat ≤ 99 := (h (9 + p).toNat (by omega)).2.1 (by omega) (by omega)
theorem IV.pence (h : IV M tp L q) {w : Int} (h0 : 0 ≤ w) (h1 : w < 4) : 0 ≤ q (17 + w).toNat ∧ q (17 + w).toNat ≤ 999 := (h (17 + w).toNat (by omega)).2.2.1 (by omega) (by omega)
theorem IV.next (h : IV M tp L q) {w : Int} (h0 : 0 ≤ w) (h1 : w < 4) (hM : w < M) : 0 ≤ q (21 + w).toNat ∧ q (21 + w).toNat < L w.toNat := by
  have h2 := (h (21 + w).toNat (by omega)).2.2.2.1 (by omega) (by omega) (by omega)
  rw [show (21 + w).toNat - 21 = w.toNat by omega] at h2
  exact h2
theorem IV.sits (h : IV M tp L q) {w : Int} (h0 : 0 ≤ w) (h1 : w < 4) : 0 ≤ q (25 + w).toNat ∧ q (25 + w).toNat ≤ 9 := (h (25 + w).toNat (by omega)).2.2.2.2.1 (by omega) (by omega)
theorem IV.many (h : IV M tp L q) {w : Int} (h0 : 0 ≤ w) (h1 : w < 4) : q (61 + w).toNat = L w.toNat := by
  have h2 := (h (61 + w).toNat (by omega)).2.2.2.2.2.1 (by omega) (by omega)
  rw [show (61 + w).toNat - 61 = w.toNat by omega] at h2
  exact h2
theorem IV.topic (h : IV M tp L q) {w l : Int} (h0 : 0 ≤ w) (h1 : w < 4) (h2 : 0 ≤ l) (h3 : l < 6) : 0 ≤ q (65 + 6 * w + l).toNat ∧ q (65 + 6 * w + l).toNat < tp := (h (65 + 6 * w + l).toNat (by omega)).2.2.2.2.2.2.1 (by omega) (by omega)
theorem IV.depth (h : IV M tp L q) {w l : Int} (h0 : 0 ≤ w) (h1 : w < 4) (h2 : 0 ≤ l) (h3 : l < 6) : 0 ≤ q (89 + 6 * w + l).toNat ∧ q (89 + 6 * w + l).toNat ≤ 9 := (h (89 + 6 * w + l).toNat (by omega)).2.2.2.2.2.2.2.1 (by omega) (by omega)
theorem IV.truth (h : IV M tp L q) {p t : Int} (h0 : 0 ≤ p) (h1 : p < 8) (h2 : 0 ≤ t) (h3 : t < 4) : 0 ≤ q (113 + 4 * p + t).toNat ∧ q (113 + 4 * p + t).toNat ≤ 9 := (h (113 + 4 * p + t).toNat (by omega)).2.2.2.2.2.2.2.2 (by omega)
theorem rv_cl_rng {m v : Int} (hm : 0 ≤ m) : 0 ≤ rv_cl m v ∧ rv_cl m v ≤ m := by
  unfold rv_cl
  split
  · split <;> omega
  · omega
theorem sp_in_rng (h : IV M tp L q) {w p t d : Int} (h0 : 0 ≤ p) (h1 : p < 8) (h2 : 0 ≤ t) (h3 : t < 4) (hd : 0 ≤ d ∧ d ≤ 9) : 0 ≤ sp_in PH q w p t d ∧ sp_in PH q w p t d ≤ 9 := by
  unfold sp_in
  split
  · have := h.truth h0 h1 h2 h3
    omega
  · exact rv_cl_rng (by omega)
theorem sp_fi_rng {w p l i : Int} (hi : 0 ≤ i ∧ i ≤ 20) : 0 ≤ sp_fi PF L q w p l i ∧ sp_fi PF L q w p l i ≤ 20 := by
  unfold sp_fi
  split
  · exact hi
  · exact rv_cl_rng (by omega)
theorem IV.sell (h : IV M tp L q) {w p : Int} (hw0 : 0 ≤ w) (hw : w < 4) (hp0 : 0 ≤ p) (hp : p < 8) : IV M tp L (sp_sell PB w p q) := by
  unfold sp_sell
  split
  · exact h
  · split
    · exact h
    · have hm := h.money hp0 hp
      have h1 : IV M tp L (kup q (1 + p).toNat (w32 (q (1 + p).toNat - 1))) := h.up (fun _ => by
        rw [w32_s (by omega) (by omega)]
        unfold bd
        omega)
      generalize kup q (1 + p).toNat (w32 (q (1 + p).toNat - 1)) = q1 at h1
      unfold sp_s2
      split
      · exact h1
      · have hm := h1.pence hw0 hw
        refine IV.hi (h1.up (fun _ => ?_)) (by omega)
        rw [w32_s (by omega) (by omega)]
        unfold bd
        omega
theorem IV.sells (h : IV M tp L q) {w : Int} (hw0 : 0 ≤ w) (hw : w < 4) (hN : N ≤ 8) : IV M tp L (sp_sells N PB w q) :=
  kit_ind _ h (fun i q hi h => h.sell hw0 hw (by omega) (by omega))
theorem IV.hq (h : IV M tp L q) {w p i y : Int} (hw0 : 0 ≤ w) (hw : w < 4) (hp0 : 0 ≤ p) (hp : p < 8) (hi : 0 ≤ i ∧ i ≤ 9) (hy : 0 ≤ y ∧ y ≤ q (17 + w).toNat) : IV M tp L (sp_hq q w p i y) := by
  unfold sp_hq
  have h1 := h.money hp0 hp
  have h2 := h.scars hp0 hp
  have h3 := h.pence hw0 hw
  refine IV.hi (IV.hi (IV.hi (IV.hi (IV.hi (IV.hi (IV.hi (IV.up (IV.up (IV.hi (IV.up (IV.up h (fun _ => ?_)) (fun _ => ?_)) (by omega)) (fun _ => ?_)) (fun _ => ?_)) (by omega)) (by omega)) (by omega)) (by omega)) (by omega)) (by omega)) (by omega)
  · rw [w32_s (by omega) (by omega)]
    unfold bd
    omega
  · rw [w32_s (by omega) (by omega)]
    unfold bd
    omega
  · rw [w32_s (by omega) (by omega)]
    unfold bd
    omega
  · unfold bd
    omega
theorem IV.hits {w l t d : Int} (h : IV M tp L q) (hw0 : 0 ≤ w) (hw : w < 4) (hN : N ≤ 8) (ht0 : 0 ≤ t) (ht : t < 4) (hd : 0 ≤ d ∧ d ≤ 9) : IV M tp L (sp_hits N PH PF L w l t d q).1 ∧ 0 ≤ (sp_hits N PH PF L w l t d q).2 := by
  unfold sp_hits
  refine kit_ind (P := fun (s : (Nat → Int) × Int) => IV M tp L s.1 ∧ 0 ≤ s.2) _ ⟨h, Int.le_refl 0⟩ (fun i s hi hs => ?_)
  obtain ⟨h1, h2⟩ := hs
  unfold sp_hit
  have hr := sp_in_rng (PH := PH) (w := w) (d := d) h1 (p := (i : Int)) (by omega) (by omega) ht0 ht hd
  have hf := sp_fi_rng (PF := PF) (L := L) (q := s.1) (w := w) (p := (i : Int)) (l := l) (i := sp_in PH s.1 w (i : Int) t d) (by omega)
  have hp := h1.pence hw0 hw
  split
  · exact ⟨h1, h2⟩
  · exact ⟨h1.hq hw0 hw (by omega) (by omega) hr ⟨by omega, by omega⟩, by omega⟩
theorem IV.read {acc w : Int} (h : IV M tp L q) (hw0 : 0 ≤ w) (hw : w < M) (hM : M ≤ 4) (hN : N ≤ 8) (htp : tp ≤ 4) (hL : 1 ≤ L w.toNat ∧ L w.toNat ≤ 6) : IV M tp L (sp_read N PH PF L acc w q) := by
  unfold sp_read
  have hn := h.next hw0 (by omega) hw
  have ht := h.topic hw0 (by omega) hn.1 (by omega)
  have hdp := h.depth hw0 (by omega) hn.1 (by omega)
  have hs := IV.hits (N := N) (PH := PH) (PF := PF) (w := w) (l := q (21 + w).toNat) (t := q (65 + 6 * w + q (21 + w).toNat).toNat) (d := if acc = 0 then q (89 + 6 * w + q (21 + w).toNat).toNat else 9) h hw0 (by omega) hN ht.1 (by omega) (by split <;> omega)
  generalize sp_hits N PH PF L w (q (21 + w).toNat) (q (65 + 6 * w + q (21 + w).toNat).toNat) (if acc = 0 then q (89 + 6 * w + q (21 + w).toNat).toNat else 9) q = s at hs
  obtain ⟨h1, h2⟩ := hs
  unfold sp_rd2
  refine IV.up (IV.hi (IV.up h1 (fun _ => ?_)) (by omega)) (fun _ => ?_)
  · unfold bd
    omega
  · rw [w32_s (by omega) (by omega)]
    have e : (21 + w).toNat - 21 = w.toNat := by omega
    unfold bd
    refine ⟨by omega, by omega, by omega, fun _ _ _ => ?_, by omega, by omega, by omega, by omega, by omega⟩
    rw [e]
    split <;> omega
theorem IV.poet {acc w : Int} (h : IV M tp L q) (hw0 : 0 ≤ w) (hw : w < M) (hM : M ≤ 4) (hN : N ≤ 8) (htp : tp ≤ 4) (hL : 1 ≤ L w.toNat ∧ L w.toNat ≤ 6) : IV M tp L (sp_poet N PH PF PB L acc w q) := by
  unfold sp_poet
  have h1 : IV M tp L (kup q (197 + w).toNat 0) := h.hi (by omega)
  split
  · exact IV.read (IV.sells h1 hw0 (by omega) hN) hw0 hw hM hN htp hL
  · rename_i hs
    have hs2 := h1.sits hw0 (by omega)
    rw [kup_ne (by omega)] at hs2
    unfold sp_sit
    refine IV.hi (IV.up h1 (fun _ => ?_)) (by omega)
    rw [kup_ne (by omega), w32_s (by omega) (by omega)]
    unfold bd
    omega
theorem IV.year {acc : Int} (h : IV M tp L q) (hE : EN N M tp L PH PF PB) : IV M tp L (sp_year N M PH PF PB L acc q) := by
  obtain ⟨n1, n2, n3, n4, -⟩ := hE
  unfold sp_year
  have h1 : IV M tp L (kit (fun i q => sp_poet N PH PF PB L acc (i : Int) q) M.toNat (kup (kup q 195 0) 196 0)) :=
    kit_ind _ (IV.hi (IV.hi h (by omega)) (by omega)) (fun i q hi h => h.poet (by omega) (by omega) n2.2 n1.2 n3.2 (n4 _ (by omega) (by omega)))
  generalize kit (fun i q => sp_poet N PH PF PB L acc (i : Int) q) M.toNat (kup (kup q 195 0) 196 0) = q1 at h1
  unfold sp_end
  refine IV.hi (IV.hi (IV.up h1 (fun _ => ?_)) (by omega)) (by omega)
  unfold bd
  omega
end IVS

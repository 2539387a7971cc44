/-! CALLS: truths, listen. Where a number can't make a difference -/
theorem rv_run_ne {e e' : Nat → Int} (P : List Int) : ∀ s : (Nat → Int) × Nat, (∀ c ∈ P, -9 < c → c < 0 → e (-1 - c).toNat = e' (-1 - c).toNat) → rv_run e P s = rv_run e' P s := by
  induction P with
  | nil => intro s _; rfl
  | cons c P ih =>
    intro s h
    show rv_run e P (rv_st e s c) = rv_run e' P (rv_st e' s c)
    have e1 : rv_st e s c = rv_st e' s c := by
      unfold rv_st
      by_cases h1 : -9 < c
      · rw [if_pos h1, if_pos h1]
        by_cases h2 : 0 ≤ c
        · rw [if_pos h2, if_pos h2]
        · rw [if_neg h2, if_neg h2, h c List.mem_cons_self h1 (by omega)]
      · rw [if_neg h1, if_neg h1]
    rw [e1]
    exact ih _ (fun c hc => h c (List.mem_cons_of_mem _ hc))
theorem sp_tv5 {q : Nat → Int} {w p v d t t' i y : Int} {j : Nat} (hj : j ≠ 5) : sp_tv q w p v d t i y j = sp_tv q w p v d t' i y j := by
  unfold sp_tv
  rw [if_neg hj, if_neg hj]
section AGX
variable {N M tp : Int} {L : Nat → Int} {PH PF PB : List Int} {q q' : Nat → Int} {k0 : Nat}
theorem agr.x (h : agr (fun k => k ≠ k0) q q') {k : Nat} (hk : k ≠ k0) : q k = q' k := h k hk
/-- what is true of a topic can make no difference for this line -/
def nmT (PH : List Int) (k0 : Nat) (t : Int) : Prop := (PH ≠ [] ∧ (-6 : Int) ∉ PH) ∨ ∀ p : Int, 0 ≤ p → p < 8 → (113 + 4 * p + t).toNat ≠ k0
theorem agx.inc (h : agr (fun k => k ≠ k0) q q') (hk : 113 ≤ k0) {w p t d : Int} (hw0 : 0 ≤ w) (hw : w < 4) (hp0 : 0 ≤ p) (hp : p < 8) (ht : nmT PH k0 t) : sp_in PH q w p t d = sp_in PH q' w p t d := by
  have etv : ∀ v d t i y : Int, sp_tv q w p v d t i y = sp_tv q' w p v d t i y := by
    intro v d t i y
    unfold sp_tv
    rw [h.x (k := (9 + p).toNat) (by omega), h.x (k := (29 + 8 * w + p).toNat) (by omega), h.x (k := 0) (by omega)]
  unfold sp_in
  rcases ht with ⟨h1, h2⟩ | h1
  · rw [if_neg h1, if_neg h1, etv, h.x (k := (17 + w).toNat) (by omega)]
    have e : rv_ev PH (sp_tv q' w p (q' (17 + w).toNat) d (q (113 + 4 * p + t).toNat) 0 0) = rv_ev PH (sp_tv q' w p (q' (17 + w).toNat) d (q' (113 + 4 * p + t).toNat) 0 0) := by
      unfold rv_ev
      rw [rv_run_ne PH _ (fun c hc c1 c2 => sp_tv5 (fun hj => h2 (by
        have : c = -6 := by omega
        rw [← this]
        exact hc)))]
    rw [e]
  · rw [etv, h.x (k := (17 + w).toNat) (by omega), h.x (h1 p hp0 hp)]
theorem agx.rh (h : agr (fun k => k ≠ k0) q q') (hk : 113 ≤ k0) {w l : Int} (hw0 : 0 ≤ w) (hw : w < 4) (hl : l < 6) (hL : L w.toNat ≤ 6) : sp_rh L q w l = sp_rh L q' w l := by
  unfold sp_rh
  have h1 : (if l = 0 then L w.toNat - 1 else l - 1) < 6 := by split <;> omega
  generalize (if l = 0 then L w.toNat - 1 else l - 1) = m at h1
  rw [h.x (k := (65 + 6 * w + l).toNat) (by omega), h.x (k := (65 + 6 * w + m).toNat) (by omega)]
theorem agx.fi (h : agr (fun k => k ≠ k0) q q') (hk : 113 ≤ k0) {w p l i : Int} (hw0 : 0 ≤ w) (hw : w < 4) (hp0 : 0 ≤ p) (hp : p < 8) (hl : l < 6) (hL : L w.toNat ≤ 6) : sp_fi PF L q w p l i = sp_fi PF L q' w p l i := by
  unfold sp_fi sp_tv
  rw [agx.rh h hk hw0 hw hl hL, h.x (k := (17 + w).toNat) (by omega), h.x (k := (9 + p).toNat) (by omega), h.x (k := (29 + 8 * w + p).toNat) (by omega), h.x (k := 0) (by omega)]
theorem agx.bv (h : agr (fun k => k ≠ k0) q q') (hk : 113 ≤ k0) {w p : Int} (hw0 : 0 ≤ w) (hw : w < 4) (hp0 : 0 ≤ p) (hp : p < 8) : sp_bv PB q w p = sp_bv PB q' w p := by
  unfold sp_bv sp_tv
  rw [h.x (k := (1 + p).toNat) (by omega), h.x (k := (9 + p).toNat) (by omega), h.x (k := (29 + 8 * w + p).toNat) (by omega), h.x (k := 0) (by omega)]
theorem agx.sell (h : agr (fun k => k ≠ k0) q q') (hk : 113 ≤ k0) (hk2 : k0 < 145) {w p : Int} (hw0 : 0 ≤ w) (hw : w < 4) (hp0 : 0 ≤ p) (hp : p < 8) : agr (fun k => k ≠ k0) (sp_sell PB w p q) (sp_sell PB w p q') := by
  unfold sp_sell
  rw [h.x (k := (1 + p).toNat) (by omega), agx.bv h hk hw0 hw hp0 hp]
  split
  · exact h
  · split
    · exact h
    · have h1 : agr (fun k => k ≠ k0) (kup q (1 + p).toNat (w32 (q' (1 + p).toNat - 1))) (kup q' (1 + p).toNat (w32 (q' (1 + p).toNat - 1))) := h.up (fun _ => rfl)
      generalize kup q (1 + p).toNat (w32 (q' (1 + p).toNat - 1)) = r at h1
      generalize kup q' (1 + p).toNat (w32 (q' (1 + p).toNat - 1)) = r' at h1
      unfold sp_s2
      rw [h1.x (k := (17 + w).toNat) (by omega)]
      split
      · exact h1
      · exact (h1.up (fun _ => rfl)).up (fun hd => by rw [h1 _ hd])
theorem agx.sells (h : agr (fun k => k ≠ k0) q q') (hk : 113 ≤ k0) (hk2 : k0 < 145) {w : Int} (hw0 : 0 ≤ w) (hw : w < 4) (hN : N ≤ 8) : agr (fun k => k ≠ k0) (sp_sells N PB w q) (sp_sells N PB w q') :=
  agr.fold _ (fun i q q' hi h => agx.sell h hk hk2 hw0 hw (by omega) (by omega)) h
theorem agx.hits (h : agr (fun k => k ≠ k0) q q') (hk : 113 ≤ k0) {w l t d : Int} (hw0 : 0 ≤ w) (hw : w < 4) (hN : N ≤ 8) (ht : nmT PH k0 t) (hl : l < 6) (hL : L w.toNat ≤ 6) : agr (fun k => k ≠ k0) (sp_hits N PH PF L w l t d q).1 (sp_hits N PH PF L w l t d q').1 ∧ (sp_hits N PH PF L w l t d q).2 = (sp_hits N PH PF L w l t d q').2 := by
  unfold sp_hits
  have key : ∀ n : Nat, n ≤ N.toNat → agr (fun k => k ≠ k0) (kit (fun i s => sp_hit PH PF L w l t d (i : Int) s) n (q, 0)).1 (kit (fun i s => sp_hit PH PF L w l t d (i : Int) s) n (q', 0)).1 ∧ (kit (fun i s => sp_hit PH PF L w l t d (i : Int) s) n (q, 0)).2 = (kit (fun i s => sp_hit PH PF L w l t d (i : Int) s) n (q', 0)).2 := by
    intro n
    induction n with
    | zero => intro _; exact ⟨h, rfl⟩
    | succ n ih =>
      intro hn
      obtain ⟨h1, h2⟩ := ih (by omega)
      show agr (fun k => k ≠ k0) (sp_hit PH PF L w l t d (n : Int) (kit (fun i s => sp_hit PH PF L w l t d (i : Int) s) n (q, 0))).1 (sp_hit PH PF L w l t d (n : Int) (kit (fun i s => sp_hit PH PF L w l t d (i : Int) s) n (q', 0))).1 ∧ (sp_hit PH PF L w l t d (n : Int) (kit (fun i s => sp_hit PH PF L w l t d (i : Int) s) n (q, 0))).2 = (sp_hit PH PF L w l t d (n : Int) (kit (fun i s => sp_hit PH PF L w l t d (i : Int) s) n (q', 0))).2
      generalize kit (fun i s => sp_hit PH PF L w l t d (i : Int) s) n (q, 0) = s at h1 h2
      generalize kit (fun i s => sp_hit PH PF L w l t d (i : Int) s) n (q', 0) = s' at h1 h2
      unfold sp_hit
      rw [agx.inc h1 hk hw0 hw (by omega) (by omega) ht, agx.fi h1 hk hw0 hw (by omega) (by omega) hl hL, h2, h1.x (k := (17 + w).toNat) (by omega)]
      split
      · exact ⟨h1, h2⟩
      · exact ⟨h1.hq, rfl⟩
  exact key N.toNat (Nat.le_refl _)
/-- of none of the lines -/
def nmA (M : Int) (L : Nat → Int) (PH : List Int) (k0 : Nat) (q : Nat → Int) : Prop := ∀ w l : Int, 0 ≤ w → w < M → 0 ≤ l → l < L w.toNat → nmT PH k0 (q (65 + 6 * w + l).toNat)
theorem agx.read (h : agr (fun k => k ≠ k0) q q') (hk : 113 ≤ k0) (hI : IV M tp L q) (hA : nmA M L PH k0 q) {acc w : Int} (hw0 : 0 ≤ w) (hw : w < M) (hM : M ≤ 4) (hN : N ≤ 8) (hL : 1 ≤ L w.toNat ∧ L w.toNat ≤ 6) : agr (fun k => k ≠ k0) (sp_read N PH PF L acc w q) (sp_read N PH PF L acc w q') := by
  unfold sp_read
  have hn := hI.next hw0 (by omega) hw
  have ht := hA w _ hw0 hw hn.1 hn.2
  rw [← h.x (k := (21 + w).toNat) (by omega)]
  generalize q (21 + w).toNat = l at *
  rw [← h.x (k := (65 + 6 * w + l).toNat) (by omega), ← h.x (k := (89 + 6 * w + l).toNat) (by omega)]
  obtain ⟨h1, h2⟩ := agx.hits (N := N) (PH := PH) (PF := PF) (L := L) (w := w) (l := l) (t := q (65 + 6 * w + l).toNat) (d := if acc = 0 then q (89 + 6 * w + l).toNat else 9) h hk hw0 (by omega) hN ht (by omega) hL.2
  unfold sp_rd2
  rw [h2]
  exact agr.up (agr.up (agr.up h1 (fun _ => rfl)) (fun hd => by rw [h1 _ hd])) (fun _ => rfl)
theorem sp_poet_top {acc w : Int} (hw0 : 0 ≤ w) (hw : w < 4) (hN : N ≤ 8) {k : Nat} (hk : 61 ≤ k ∧ k < 145) : sp_poet N PH PF PB L acc w q k = q k := by
  unfold sp_poet
  split
  · unfold sp_read sp_rd2
    rw [kup_ne (by omega), kup_ne (by omega), kup_ne (by omega), sp_hits_ne (by omega), sp_sells_ne hw0 hw hN (by omega), kup_ne (by omega)]
  · unfold sp_sit
    rw [kup_ne (by omega), kup_ne (by omega), kup_ne (by omega)]
theorem sp_year_top {acc : Int} (hE : EN N M tp L PH PF PB) {k : Nat} (hk : 61 ≤ k ∧ k < 145) : sp_year N M PH PF PB L acc q k = q k := by
  have hn1 := hE.1
  have hn2 := hE.2.1
  have h1 : kit (fun i q => sp_poet N PH PF PB L acc (i : Int) q) M.toNat (kup (kup q 195 0) 196 0) k = q k := by
    refine kit_ind (P := fun (s : Nat → Int) => s k = q k) _ (by rw [kup_ne (by omega), kup_ne (by omega)]) (fun i s hi hs => ?_)
    rw [sp_poet_top (by omega) (by omega) hn1.2 hk]
    exact hs
  unfold sp_year sp_end
  rw [kup_ne (by omega), kup_ne (by omega), kup_ne (by omega)]
  exact h1
theorem nmA.congr (hA : nmA M L PH k0 q) (hM : M ≤ 4) (hL : ∀ w : Int, 0 ≤ w → w < M → 1 ≤ L w.toNat ∧ L w.toNat ≤ 6) (hq : ∀ k : Nat, 65 ≤ k → k < 89 → q' k = q k) : nmA M L PH k0 q' := by
  intro w l h0 h1 h2 h3
  have := hL w h0 h1
  rw [hq _ (by omega) (by omega)]
  exact hA w l h0 h1 h2 h3
theorem agx.poet (h : agr (fun k => k ≠ k0) q q') (hk : 113 ≤ k0) (hk2 : k0 < 145) (hI : IV M tp L q) (hA : nmA M L PH k0 q) {acc w : Int} (hw0 : 0 ≤ w) (hw : w < M) (hE : EN N M tp L PH PF PB) : agr (fun k => k ≠ k0) (sp_poet N PH PF PB L acc w q) (sp_poet N PH PF PB L acc w q') := by
  have hn1 := hE.1
  have hn2 := hE.2.1
  have hL := hE.2.2.2.1 w hw0 hw
  unfold sp_poet
  rw [h.x (k := (25 + w).toNat) (by omega)]
  have h1 : agr (fun k => k ≠ k0) (kup q (197 + w).toNat 0) (kup q' (197 + w).toNat 0) := h.up (fun _ => rfl)
  have hI1 : IV M tp L (kup q (197 + w).toNat 0) := hI.hi (by omega)
  split
  · refine agx.read (agx.sells h1 hk hk2 hw0 (by omega) hn1.2) hk (IV.sells hI1 hw0 (by omega) hn1.2) (hA.congr hn2.2 hE.2.2.2.1 (fun k a b => ?_)) hw0 hw hn2.2 hn1.2 hL
    rw [sp_sells_ne hw0 (by omega) hn1.2 (by omega), kup_ne (by omega)]
  · unfold sp_sit
    rw [h1.x (k := (25 + w).toNat) (by omega)]
    exact (h1.up (fun _ => rfl)).up (fun hd => by rw [h1 _ hd])
theorem agx.year (h : agr (fun k => k ≠ k0) q q') (hk : 113 ≤ k0) (hk2 : k0 < 145) (hI : IV M tp L q) (hA : nmA M L PH k0 q) (hE : EN N M tp L PH PF PB) (acc : Int) : agr (fun k => k ≠ k0) (sp_year N M PH PF PB L acc q) (sp_year N M PH PF PB L acc q') := by
  have hn1 := hE.1
  have hn2 := hE.2.1
  have hn3 := hE.2.2.1
  unfold sp_year
  have h0 : agr (fun k => k ≠ k0) (kup (kup q 195 0) 196 0) (kup (kup q' 195 0) 196 0) := (h.up (fun _ => rfl)).up (fun _ => rfl)
  have i0 : IV M tp L (kup (kup q 195 0) 196 0) := IV.hi (IV.hi hI (by omega)) (by omega)
  have a0 : nmA M L PH k0 (kup (kup q 195 0) 196 0) := hA.congr hn2.2 hE.2.2.2.1 (fun k a b => by rw [kup_ne (by omega), kup_ne (by omega)])
  have key : ∀ n : Nat, n ≤ M.toNat → agr (fun k => k ≠ k0) (kit (fun i q => sp_poet N PH PF PB L acc (i : Int) q) n (kup (kup q 195 0) 196 0)) (kit (fun i q => sp_poet N PH PF PB L acc (i : Int) q) n (kup (kup q' 195 0) 196 0)) ∧ IV M tp L (kit (fun i q => sp_poet N PH PF PB L acc (i : Int) q) n (kup (kup q 195 0) 196 0)) ∧ nmA M L PH k0 (kit (fun i q => sp_poet N PH PF PB L acc (i : Int) q) n (kup (kup q 195 0) 196 0)) := by
    intro n
    induction n with
    | zero => intro _; exact ⟨h0, i0, a0⟩
    | succ n ih =>
      intro hn
      obtain ⟨h1, h2, h3⟩ := ih (by omega)
      exact ⟨agx.poet h1 hk hk2 h2 h3 (by omega) (by omega) hE, h2.poet (by omega) (by omega) hn2.2 hn1.2 hn3.2 (hE.2.2.2.1 _ (by omega) (by omega)), h3.congr hn2.2 hE.2.2.2.1 (fun k a b => sp_poet_top (by omega) (by omega) hn1.2 (by omega))⟩
  have h1 := (key M.toNat (Nat.le_refl _)).1
  generalize kit (fun i q => sp_poet N PH PF PB L acc (i : Int) q) M.toNat (kup (kup q 195 0) 196 0) = r at h1
  generalize kit (fun i q => sp_poet N PH PF PB L acc (i : Int) q) M.toNat (kup (kup q' 195 0) 196 0) = r' at h1
  unfold sp_end
  have e1 : r 195 = r' 195 := h1.x (by omega)
  exact agr.up (agr.up (agr.up h1 (fun hd => by rw [h1 _ hd])) (fun hd => by rw [h1 _ hd, e1])) (fun hd => by rw [h1 _ hd, e1])
theorem agx.yrs (h : agr (fun k => k ≠ k0) q q') (hk : 113 ≤ k0) (hk2 : k0 < 145) (hI : IV M tp L q) (hA : nmA M L PH k0 q) (hE : EN N M tp L PH PF PB) (n : Nat) : agr (fun k => k ≠ k0) (yrs N M PH PF PB L n q) (yrs N M PH PF PB L n q') ∧ nmA M L PH k0 (yrs N M PH PF PB L n q) := by
  have hn2 := hE.2.1
  induction n with
  | zero => exact ⟨h, hA⟩
  | succ n ih =>
    exact ⟨agx.year ih.1 hk hk2 (yrs_IV hE hI n) ih.2 hE 0, ih.2.congr hn2.2 hE.2.2.2.1 (fun k a b => sp_year_top hE (by omega))⟩
end AGX

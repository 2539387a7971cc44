/-! CALLS: listen -/
theorem tF_mono {G : Nat → Bool} {g : Nat} (k : Nat) : (tF G g).1 ≤ (tF G (g + k)).1 ∧ (tF G (g + k)).1 ≤ (tF G g).1 + (k : Int) := by
  induction k with
  | zero => exact ⟨Int.le_refl _, by show (tF G g).1 ≤ (tF G g).1 + ((0 : Nat) : Int); omega⟩
  | succ k ih =>
    show (tF G g).1 ≤ (tF G (g + k + 1)).1 ∧ (tF G (g + k + 1)).1 ≤ _
    cases e : G (g + k) with
    | true =>
      rw [tF_t e]
      generalize (tF G (g + k)).1 = x at *
      generalize (tF G g).1 = y at *
      show y ≤ x + 1 ∧ x + 1 ≤ y + ((k + 1 : Nat) : Int)
      omega
    | false =>
      rw [tF_f e]
      generalize (tF G (g + k)).1 = x at *
      generalize (tF G g).1 = y at *
      omega
theorem tF_9 {G : Nat → Bool} {g v : Nat} (hv : v < 10) (h : G (g + v) = false) : (tF G (g + 10)).1 ≤ (tF G g).1 + 9 := by
  have h1 := (tF_mono (G := G) (g := g) v).2
  have h2 : tF G (g + v + 1) = tF G (g + v) := tF_f h
  have h3 := (tF_mono (G := G) (g := g + v + 1) (9 - v)).2
  rw [h2, show g + v + 1 + (9 - v) = g + 10 by omega] at h3
  generalize (tF G (g + 10)).1 = z at *
  generalize (tF G (g + v)).1 = x at *
  generalize (tF G g).1 = y at *
  omega
noncomputable def eC (r : Nat → Int) : Nat → Nat
  | 0 => 0
  | m + 1 => @ite _ (∀ b : Nat, b < m → r m ≠ r b) (Classical.propDecidable _) (eC r m + 1) (eC r m)
theorem eC_1 {r : Nat → Int} {m : Nat} (h : ∀ b : Nat, b < m → r m ≠ r b) : eC r (m + 1) = eC r m + 1 := @if_pos _ (Classical.propDecidable _) h ..
theorem eC_0 {r : Nat → Int} {m : Nat} (h : ¬ ∀ b : Nat, b < m → r m ≠ r b) : eC r (m + 1) = eC r m := @if_neg _ (Classical.propDecidable _) h ..
theorem eC_le (r : Nat → Int) (m : Nat) : eC r m ≤ m := by
  induction m with
  | zero => exact Nat.le_refl _
  | succ m ih =>
    by_cases c : ∀ b : Nat, b < m → r m ≠ r b
    · rw [eC_1 c]
      omega
    · rw [eC_0 c]
      omega
theorem eC_congr {r r' : Nat → Int} (m : Nat) (h : ∀ a : Nat, a < m → r a = r' a) : eC r m = eC r' m := by
  induction m with
  | zero => rfl
  | succ m ih =>
    have h1 := ih (fun a ha => h a (by omega))
    by_cases c : ∀ b : Nat, b < m → r m ≠ r b
    · rw [eC_1 c, eC_1 (fun b hb => by rw [← h m (by omega), ← h b (by omega)]; exact c b hb), h1]
    · rw [eC_0 c, eC_0 (fun hh => c (fun b hb => by rw [h m (by omega), h b (by omega)]; exact hh b hb)), h1]
section LISTEN
variable {N M tp : Int} {L : Nat → Int} {PH PF PB : List Int} {σ σ' σb μ μ' : kM} {q q' : Nat → Int} {f n : Int} {F : Nat → Int} {p t : Nat}
/-- at most nine of a topic of a person -/
theorem tF_blk (hE : EN N M tp L PH PF PB) (hI : IV M tp L q) (hp : p < 8) (ht : (t : Int) < tp) : (tF (tB N M tp PH PF PB L f F q) (100 * p + 10 * (t + 1))).1 ≤ (tF (tB N M tp PH PF PB L f F q) (100 * p + 10 * t)).1 + 9 := by
  have hn3 := hE.2.2.1
  have t4 : t < 4 := by omega
  have htr := hI.truth (p := (p : Int)) (t := (t : Int)) (by omega) (by omega) (by omega) (by omega)
  rw [show (113 + 4 * (p : Int) + (t : Int)).toNat = 113 + (4 * p + t) by omega] at htr
  obtain ⟨v, hv⟩ : ∃ v : Nat, q (113 + (4 * p + t)) = (v : Int) := ⟨(q (113 + (4 * p + t))).toNat, by omega⟩
  have v10 : v < 10 := by omega
  have gf : tB N M tp PH PF PB L f F q (100 * p + 10 * t + v) = false := tB_f (fun hh => ((gOK_iff hp t4 ht v10).mp hh).1 hv)
  have e : 100 * p + 10 * t + 10 = 100 * p + 10 * (t + 1) := by omega
  rw [← e]
  exact tF_9 v10 gf
theorem tF_prs (hE : EN N M tp L PH PF PB) (hI : IV M tp L q) (hp : p < 8) : (tF (tB N M tp PH PF PB L f F q) (100 * (p + 1))).1 ≤ (tF (tB N M tp PH PF PB L f F q) (100 * p)).1 + 36 := by
  have hn3 := hE.2.2.1
  have T4 : tp.toNat ≤ 4 := by omega
  have tp0 : 0 ≤ tp := by omega
  have eT : ∀ t : Nat, t + 1 ≤ tp.toNat → (t : Int) < tp := fun t h => by omega
  have e1 : 100 * p + 10 * tp.toNat + (100 - 10 * tp.toNat) = 100 * (p + 1) := by omega
  have hG : ∀ k : Nat, k < 100 - 10 * tp.toNat → tB N M tp PH PF PB L f F q (100 * p + 10 * tp.toNat + k) = false := fun k hk => tB_f (fun hh => g_skip rfl T4 tp0 hk hh.1)
  have k1 := tF_skip (100 - 10 * tp.toNat) hG
  rw [e1] at k1
  have h2 : ∀ t : Nat, t ≤ tp.toNat → (tF (tB N M tp PH PF PB L f F q) (100 * p + 10 * t)).1 ≤ (tF (tB N M tp PH PF PB L f F q) (100 * p)).1 + 9 * (t : Int) := by
    intro t
    induction t with
    | zero => intro _; exact Int.le_of_eq (Int.add_zero _).symm
    | succ t iht =>
      intro ht
      have h3 := iht (Nat.le_of_succ_le ht)
      have h4 := tF_blk (f := f) (F := F) hE hI hp (eT t ht)
      generalize (tF (tB N M tp PH PF PB L f F q) (100 * p + 10 * t)).1 = x at *
      generalize (tF (tB N M tp PH PF PB L f F q) (100 * p + 10 * (t + 1))).1 = y at *
      generalize (tF (tB N M tp PH PF PB L f F q) (100 * p)).1 = z at *
      clear k1 hG
      omega
  have h5 := h2 tp.toNat (Nat.le_refl _)
  rw [k1]
  clear h2 k1 hG
  generalize (tF (tB N M tp PH PF PB L f F q) (100 * p + 10 * tp.toNat)).1 = x at *
  generalize (tF (tB N M tp PH PF PB L f F q) (100 * p)).1 = z at *
  omega
theorem tF_288 (hE : EN N M tp L PH PF PB) (hI : IV M tp L q) : (tF (tB N M tp PH PF PB L f F q) (100 * N.toNat)).1 ≤ 288 := by
  have hn1 := hE.1
  have N8 : N.toNat ≤ 8 := by omega
  have key : ∀ p : Nat, p ≤ 8 → (tF (tB N M tp PH PF PB L f F q) (100 * p)).1 ≤ 36 * (p : Int) := by
    intro p
    induction p with
    | zero => intro _; exact Int.le_refl 0
    | succ p ih =>
      intro hp
      have h1 := ih (Nat.le_of_succ_le hp)
      have h2 := tF_prs (f := f) (F := F) hE hI (p := p) hp
      generalize (tF (tB N M tp PH PF PB L f F q) (100 * p)).1 = x at *
      generalize (tF (tB N M tp PH PF PB L f F q) (100 * (p + 1))).1 = y at *
      omega
  have h6 := key N.toNat N8
  clear key
  generalize (tF (tB N M tp PH PF PB L f F q) (100 * N.toNat)).1 = x at *
  omega
theorem scG_rng (hE : EN N M tp L PH PF PB) (hI : IV M tp L q) (g p : Nat) (hp : p < N.toNat) (hg : g < 100 * N.toNat) : 0 ≤ scG N M PH PF PB L q g p ∧ scG N M PH PF PB L q g p < 128 := by
  have hn1 := hE.1
  have hI2 : IV M tp L (gRow q g) := (trow_IV hI).up (fun _ => by
    have ha : gAt g = 113 + 4 * (g / 100) + g / 10 % 10 := rfl
    unfold bd
    omega)
  have h1 := (yrs_IV hE hI2 5).scars (p := (p : Int)) (by omega) (by omega)
  rw [show (9 + (p : Int)).toNat = 9 + p by omega] at h1
  unfold scG
  omega
/-- rows that are laid out, behind the guesses ahead of g -/
def LI (N : Int) (G : Nat → Bool) (sc : Nat → Nat → Int) (g : Nat) (μ : kM) : Prop := ∀ p : Nat, (p : Int) < N → (∀ v : Int, (∃ a : Nat, (a : Int) < (tF G g).1 ∧ μ 21 (8 * a + p) = v) ↔ sN G sc p g v) ∧ eC (fun a => μ 21 (8 * a + p)) (tF G g).1.toNat = dC G sc p g
end LISTEN

/-! rows of fields, arrays, returns, calls over the flat memory -/
section KWM
variable {x : kX} {cc : ByteArray} {own : String} {ret : Option FieldType} {cl0 : List vw_C} {Y0 : List kD} {n0 : Nat} {l0 : Launch} {R0 : Room} {cells slots : Nat} {Q : State → Prop} {σ : kM} {pc : Nat} {L : List (Option kV)} {S : List kV}
/-- a field that is read: cell k, place j, of kind d, by the pool's entry index of the class own -/
def kFd (own : String) (index : Nat) (cl0 : List vw_C) (Y0 : List kD) (k j : Nat) (d : kF) : Prop :=
  ∃ (ci : Nat) (fs : List kF) (C : String) (T : u_T) (N : Nat), Y0[k]? = some (.inr (ci, fs)) ∧ fs[j]? = some d ∧ cl0[ci]? = some (C, T, N) ∧ j < N ∧ (∀ w ∈ u_ws C T N, w ∈ kG) ∧ Cond.fieldLink own index (T j).1 (T j).2.1 (T j).2.2.1 ∈ kG
/-- and one that is written: its type, not final -/
def kFp (own : String) (index : Nat) (cl0 : List vw_C) (Y0 : List kD) (k j : Nat) (d : kF) (ty : FieldType) : Prop :=
  ∃ (ci : Nat) (fs : List kF) (C : String) (T : u_T) (N : Nat) (ty0 : Nat → FieldType), Y0[k]? = some (.inr (ci, fs)) ∧ fs[j]? = some d ∧ cl0[ci]? = some (C, T, N) ∧ j < N ∧ (∀ w ∈ u_ws C T N, w ∈ kG) ∧ Cond.fieldLink own index (T j).1 (T j).2.1 (T j).2.2.1 ∈ kG ∧
    (∀ k, k < N → parseFieldDescriptor (T k).2.2.1 = some (ty0 k)) ∧ (∀ a, a < N → ∀ b, b < N → a ≠ b → (T a).2.1 ≠ (T b).2.1) ∧ (T j).2.2.2 = false ∧ parseFieldDescriptor (T j).2.2.1 = some ty
theorem klong_f {Y : List kD} {k j ci : Nat} {fs : List kF} {b : Bool} (hY : Y[k]? = some (.inr (ci, fs))) (hf : fs[j]? = some (.inl b)) : klong Y k j = b := by
  unfold klong
  rw [hY]
  dsimp only
  rw [hf]
  cases b <;> rfl
theorem klong_a {Y : List kD} {k j t n : Nat} (hY : Y[k]? = some (.inl (t, n))) : klong Y k j = (t == 3) := by
  unfold klong
  rw [hY]
theorem kw_getI {index k j : Nat} (C : kCx x cc own ret cl0 Y0 n0 l0 R0) (hd : decode cc pc = .ok (.getfield index, 3)) (pc' : Nat) (hpc : pc + 3 = pc') (hF : kFd own index cl0 Y0 k j (.inl false)) (kk : KW x cells slots Q σ pc' L (ki (σ k j) :: S)) : KW x cells slots Q σ pc L (kr k :: S) := by
  obtain ⟨⟨p, l, e, R, s, m, args, below, meth, c⟩, ⟨D, cl, cA, ad, ae, Y, A, nL⟩⟩ := x
  obtain ⟨rfl, rfl, rfl, rfl, rfl, hEn, hx, hb, hml, hr, hown, hts, hK, hlocks, hA⟩ := C
  subst hpc
  obtain ⟨ci, fs, Cn, T, N, hY, hf, hc, hj, hin, hlk⟩ := hF
  intro hg hL hS H locs ls hP hD hSv hl
  obtain ⟨-, hS⟩ := kS1 hS
  refine va_get hx hb hts hin hown hK hP k (kws_at hY) hc j hj (hts _ hlk) (fun _ h => h) (v := kc ad ae (ki (σ k j))) ?_ hd (kk hg hL (kS1' (v := ki (σ k j)) (hg.i (klong_f hY hf)) hS) H locs ls hP hD hSv hl)
  rw [List.getElem?_mapIdx, hf]
  rfl
theorem kw_getL {index k j : Nat} (C : kCx x cc own ret cl0 Y0 n0 l0 R0) (hd : decode cc pc = .ok (.getfield index, 3)) (pc' : Nat) (hpc : pc + 3 = pc') (hF : kFd own index cl0 Y0 k j (.inl true)) (kk : KW x cells slots Q σ pc' L (kl (σ k j) :: S)) : KW x cells slots Q σ pc L (kr k :: S) := by
  obtain ⟨⟨p, l, e, R, s, m, args, below, meth, c⟩, ⟨D, cl, cA, ad, ae, Y, A, nL⟩⟩ := x
  obtain ⟨rfl, rfl, rfl, rfl, rfl, hEn, hx, hb, hml, hr, hown, hts, hK, hlocks, hA⟩ := C
  subst hpc
  obtain ⟨ci, fs, Cn, T, N, hY, hf, hc, hj, hin, hlk⟩ := hF
  intro hg hL hS H locs ls hP hD hSv hl
  obtain ⟨-, hS⟩ := kS1 hS
  refine va_get hx hb hts hin hown hK hP k (kws_at hY) hc j hj (hts _ hlk) (fun _ h => h) (v := kc ad ae (kl (σ k j))) ?_ hd (kk hg hL (kS1' (v := kl (σ k j)) (hg.l (klong_f hY hf)) hS) H locs ls hP hD hSv hl)
  rw [List.getElem?_mapIdx, hf]
  rfl
theorem kw_getR {index k j q : Nat} (C : kCx x cc own ret cl0 Y0 n0 l0 R0) (hd : decode cc pc = .ok (.getfield index, 3)) (pc' : Nat) (hpc : pc + 3 = pc') (hF : kFd own index cl0 Y0 k j (.inr q)) (kk : KW x cells slots Q σ pc' L (kr q :: S)) : KW x cells slots Q σ pc L (kr k :: S) := by
  obtain ⟨⟨p, l, e, R, s, m, args, below, meth, c⟩, ⟨D, cl, cA, ad, ae, Y, A, nL⟩⟩ := x
  obtain ⟨rfl, rfl, rfl, rfl, rfl, hEn, hx, hb, hml, hr, hown, hts, hK, hlocks, hA⟩ := C
  subst hpc
  obtain ⟨ci, fs, Cn, T, N, hY, hf, hc, hj, hin, hlk⟩ := hF
  intro hg hL hS H locs ls hP hD hSv hl
  obtain ⟨-, hS⟩ := kS1 hS
  refine va_get hx hb hts hin hown hK hP k (kws_at hY) hc j hj (hts _ hlk) (fun _ h => h) (v := kc ad ae (kr q)) ?_ hd (kk hg hL (kS1' (v := kr q) trivial hS) H locs ls hP hD hSv hl)
  rw [List.getElem?_mapIdx, hf]
  rfl
theorem kw_putI {index k j : Nat} {v : Int} (C : kCx x cc own ret cl0 Y0 n0 l0 R0) (hd : decode cc pc = .ok (.putfield index, 3)) (pc' : Nat) (hpc : pc + 3 = pc') (hF : kFp own index cl0 Y0 k j (.inl false) .int) (kk : KW x cells slots Q (kst σ k (kup (σ k) j v)) pc' L S) : KW x cells slots Q σ pc L (ki v :: kr k :: S) := by
  obtain ⟨⟨p, l, e, R, s, m, args, below, meth, c⟩, ⟨D, cl, cA, ad, ae, Y, A, nL⟩⟩ := x
  obtain ⟨rfl, rfl, rfl, rfl, rfl, hEn, hx, hb, hml, hr, hown, hts, hK, hlocks, hA⟩ := C
  subst hpc
  obtain ⟨ci, fs, Cn, T, N, ty0, hY, hf, hc, hj, hin, hlk, hty, hnm, hfin, hpd⟩ := hF
  intro hg hL hS H locs ls hP hD hSv hl
  obtain ⟨hv, hS⟩ := kS1 hS
  obtain ⟨-, hS⟩ := kS1 hS
  have hlt : j < fs.length := (List.getElem?_eq_some_iff.mp hf).1
  refine va_put hx hb hts hin ty0 hty hnm hown hK hP hD hSv k (kws_at hY) hc j hj (hts _ hlk) (fun _ h => h) hfin hpd (v := kc ad ae (ki v)) (rfl) (rfl) (by simpa using hlt) hd (fun H1 locs1 hP1 hD1 hS1 => ?_)
  have e1 : (kws ad cA Y σ).set k (ad k, .inr (ci, (fs.mapIdx (fun j d => kfv ad (σ k) j d)).set j (kc ad ae (ki v)))) = kws ad cA Y (kst σ k (kup (σ k) j v)) := by
    rw [← kws_set hY (kup (σ k) j v)]
    rw [show kc ad ae (ki v) = kfv ad (fun _ => v) j (.inl false) from rfl, kfs_set hf]
    rfl
  rw [e1] at hP1 hD1
  exact kk (hg.set (by rw [klong_f hY hf]; exact (show kR32 v from hv))) hL hS H1 locs1 ls hP1 hD1 hS1 hl
theorem kw_putZ {index k j : Nat} {v : Int} (C : kCx x cc own ret cl0 Y0 n0 l0 R0) (hd : decode cc pc = .ok (.putfield index, 3)) (pc' : Nat) (hpc : pc + 3 = pc') (hF : kFp own index cl0 Y0 k j (.inl false) .boolean) (hz : v = 0 ∨ v = 1) (kk : KW x cells slots Q (kst σ k (kup (σ k) j v)) pc' L S) : KW x cells slots Q σ pc L (ki v :: kr k :: S) := by
  obtain ⟨⟨p, l, e, R, s, m, args, below, meth, c⟩, ⟨D, cl, cA, ad, ae, Y, A, nL⟩⟩ := x
  obtain ⟨rfl, rfl, rfl, rfl, rfl, hEn, hx, hb, hml, hr, hown, hts, hK, hlocks, hA⟩ := C
  subst hpc
  obtain ⟨ci, fs, Cn, T, N, ty0, hY, hf, hc, hj, hin, hlk, hty, hnm, hfin, hpd⟩ := hF
  intro hg hL hS H locs ls hP hD hSv hl
  obtain ⟨hv, hS⟩ := kS1 hS
  obtain ⟨-, hS⟩ := kS1 hS
  have hlt : j < fs.length := (List.getElem?_eq_some_iff.mp hf).1
  refine va_put hx hb hts hin ty0 hty hnm hown hK hP hD hSv k (kws_at hY) hc j hj (hts _ hlk) (fun _ h => h) hfin hpd (v := kc ad ae (ki v)) (by rcases hz with rfl | rfl <;> rfl) (by rcases hz with rfl | rfl <;> rfl) (by simpa using hlt) hd (fun H1 locs1 hP1 hD1 hS1 => ?_)
  have e1 : (kws ad cA Y σ).set k (ad k, .inr (ci, (fs.mapIdx (fun j d => kfv ad (σ k) j d)).set j (kc ad ae (ki v)))) = kws ad cA Y (kst σ k (kup (σ k) j v)) := by
    rw [← kws_set hY (kup (σ k) j v)]
    rw [show kc ad ae (ki v) = kfv ad (fun _ => v) j (.inl false) from rfl, kfs_set hf]
    rfl
  rw [e1] at hP1 hD1
  exact kk (hg.set (by rw [klong_f hY hf]; exact (show kR32 v from hv))) hL hS H1 locs1 ls hP1 hD1 hS1 hl
theorem kw_putL {index k j : Nat} {v : Int} (C : kCx x cc own ret cl0 Y0 n0 l0 R0) (hd : decode cc pc = .ok (.putfield index, 3)) (pc' : Nat) (hpc : pc + 3 = pc') (hF : kFp own index cl0 Y0 k j (.inl true) .long) (kk : KW x cells slots Q (kst σ k (kup (σ k) j v)) pc' L S) : KW x cells slots Q σ pc L (kl v :: kr k :: S) := by
  obtain ⟨⟨p, l, e, R, s, m, args, below, meth, c⟩, ⟨D, cl, cA, ad, ae, Y, A, nL⟩⟩ := x
  obtain ⟨rfl, rfl, rfl, rfl, rfl, hEn, hx, hb, hml, hr, hown, hts, hK, hlocks, hA⟩ := C
  subst hpc
  obtain ⟨ci, fs, Cn, T, N, ty0, hY, hf, hc, hj, hin, hlk, hty, hnm, hfin, hpd⟩ := hF
  intro hg hL hS H locs ls hP hD hSv hl
  obtain ⟨hv, hS⟩ := kS1 hS
  obtain ⟨-, hS⟩ := kS1 hS
  have hlt : j < fs.length := (List.getElem?_eq_some_iff.mp hf).1
  refine va_put hx hb hts hin ty0 hty hnm hown hK hP hD hSv k (kws_at hY) hc j hj (hts _ hlk) (fun _ h => h) hfin hpd (v := kc ad ae (kl v)) (rfl) (rfl) (by simpa using hlt) hd (fun H1 locs1 hP1 hD1 hS1 => ?_)
  have e1 : (kws ad cA Y σ).set k (ad k, .inr (ci, (fs.mapIdx (fun j d => kfv ad (σ k) j d)).set j (kc ad ae (kl v)))) = kws ad cA Y (kst σ k (kup (σ k) j v)) := by
    rw [← kws_set hY (kup (σ k) j v)]
    rw [show kc ad ae (kl v) = kfv ad (fun _ => v) j (.inl true) from rfl, kfs_set hf]
    rfl
  rw [e1] at hP1 hD1
  exact kk (hg.set (by rw [klong_f hY hf]; exact (show kR64 v from hv))) hL hS H1 locs1 ls hP1 hD1 hS1 hl
theorem kw_iald {k n : Nat} {i : Int} (C : kCx x cc own ret cl0 Y0 n0 l0 R0) (hd : decode cc pc = .ok (.iaload, 1)) (pc' : Nat) (hpc : pc + 1 = pc') (hY : Y0[k]? = some (.inl (0, n))) (h0 : 0 ≤ i) (h1 : i < (n : Int)) (kk : KW x cells slots Q σ pc' L (ki (σ k i.toNat) :: S)) : KW x cells slots Q σ pc L (ki i :: kr k :: S) := by
  obtain ⟨⟨p, l, e, R, s, m, args, below, meth, c⟩, ⟨D, cl, cA, ad, ae, Y, A, nL⟩⟩ := x
  obtain ⟨rfl, rfl, rfl, rfl, rfl, hEn, hx, hb, hml, hr, hown, hts, hK, hlocks, hA⟩ := C
  subst hpc
  intro hg hL hS H locs ls hP hD hSv hl
  obtain ⟨hv, hS⟩ := kS1 hS
  obtain ⟨-, hS⟩ := kS1 hS
  have hv : kR32 i := hv
  refine va_iald hx hb hK hP k 0 (kws_at hY) rfl (k32_in hv h0 h1) hd ?_
  rw [k32_cl hv]
  exact kk hg hL (kS1' (v := ki (σ k i.toNat)) (hg.i (klong_a hY)) hS) H locs ls hP hD hSv hl
theorem kw_bald {k n : Nat} {i : Int} (C : kCx x cc own ret cl0 Y0 n0 l0 R0) (hd : decode cc pc = .ok (.baload, 1)) (pc' : Nat) (hpc : pc + 1 = pc') (hY : Y0[k]? = some (.inl (1, n))) (h0 : 0 ≤ i) (h1 : i < (n : Int)) (kk : KW x cells slots Q σ pc' L (ki (σ k i.toNat) :: S)) : KW x cells slots Q σ pc L (ki i :: kr k :: S) := by
  obtain ⟨⟨p, l, e, R, s, m, args, below, meth, c⟩, ⟨D, cl, cA, ad, ae, Y, A, nL⟩⟩ := x
  obtain ⟨rfl, rfl, rfl, rfl, rfl, hEn, hx, hb, hml, hr, hown, hts, hK, hlocks, hA⟩ := C
  subst hpc
  intro hg hL hS H locs ls hP hD hSv hl
  obtain ⟨hv, hS⟩ := kS1 hS
  obtain ⟨-, hS⟩ := kS1 hS
  have hv : kR32 i := hv
  refine va_bald hx hb hK hP k 1 (kws_at hY) rfl (k32_in hv h0 h1) hd ?_
  rw [k32_cl hv]
  exact kk hg hL (kS1' (v := ki (σ k i.toNat)) (hg.i (klong_a hY)) hS) H locs ls hP hD hSv hl
theorem kw_zald {k n : Nat} {i : Int} (C : kCx x cc own ret cl0 Y0 n0 l0 R0) (hd : decode cc pc = .ok (.baload, 1)) (pc' : Nat) (hpc : pc + 1 = pc') (hY : Y0[k]? = some (.inl (2, n))) (h0 : 0 ≤ i) (h1 : i < (n : Int)) (kk : KW x cells slots Q σ pc' L (ki (σ k i.toNat) :: S)) : KW x cells slots Q σ pc L (ki i :: kr k :: S) := by
  obtain ⟨⟨p, l, e, R, s, m, args, below, meth, c⟩, ⟨D, cl, cA, ad, ae, Y, A, nL⟩⟩ := x
  obtain ⟨rfl, rfl, rfl, rfl, rfl, hEn, hx, hb, hml, hr, hown, hts, hK, hlocks, hA⟩ := C
  subst hpc
  intro hg hL hS H locs ls hP hD hSv hl
  obtain ⟨hv, hS⟩ := kS1 hS
  obtain ⟨-, hS⟩ := kS1 hS
  have hv : kR32 i := hv
  refine va_zald hx hb hK hP k 2 (kws_at hY) rfl (k32_in hv h0 h1) hd ?_
  rw [k32_cl hv]
  exact kk hg hL (kS1' (v := ki (σ k i.toNat)) (hg.i (klong_a hY)) hS) H locs ls hP hD hSv hl
theorem kw_lald {k n : Nat} {i : Int} (C : kCx x cc own ret cl0 Y0 n0 l0 R0) (hd : decode cc pc = .ok (.laload, 1)) (pc' : Nat) (hpc : pc + 1 = pc') (hY : Y0[k]? = some (.inl (3, n))) (h0 : 0 ≤ i) (h1 : i < (n : Int)) (kk : KW x cells slots Q σ pc' L (kl (σ k i.toNat) :: S)) : KW x cells slots Q σ pc L (ki i :: kr k :: S) := by
  obtain ⟨⟨p, l, e, R, s, m, args, below, meth, c⟩, ⟨D, cl, cA, ad, ae, Y, A, nL⟩⟩ := x
  obtain ⟨rfl, rfl, rfl, rfl, rfl, hEn, hx, hb, hml, hr, hown, hts, hK, hlocks, hA⟩ := C
  subst hpc
  intro hg hL hS H locs ls hP hD hSv hl
  obtain ⟨hv, hS⟩ := kS1 hS
  obtain ⟨-, hS⟩ := kS1 hS
  have hv : kR32 i := hv
  refine va_lald hx hb hK hP k 3 (kws_at hY) rfl (k32_in hv h0 h1) hd ?_
  rw [k32_cl hv]
  exact kk hg hL (kS1' (v := kl (σ k i.toNat)) (hg.l (klong_a hY)) hS) H locs ls hP hD hSv hl
theorem kw_alen {k n t : Nat} {v : Int} (C : kCx x cc own ret cl0 Y0 n0 l0 R0) (hd : decode cc pc = .ok (.arraylength, 1)) (pc' : Nat) (hpc : pc + 1 = pc') (hY : Y0[k]? = some (.inl (t, n))) (ht : t < 4) (hv : (n : Int) = v) (hr2 : kR32 v) (kk : KW x cells slots Q σ pc' L (ki v :: S)) : KW x cells slots Q σ pc L (kr k :: S) := by
  obtain ⟨⟨p, l, e, R, s, m, args, below, meth, c⟩, ⟨D, cl, cA, ad, ae, Y, A, nL⟩⟩ := x
  obtain ⟨rfl, rfl, rfl, rfl, rfl, hEn, hx, hb, hml, hr, hown, hts, hK, hlocks, hA⟩ := C
  subst hpc
  subst hv
  intro hg hL hS H locs ls hP hD hSv hl
  obtain ⟨-, hS⟩ := kS1 hS
  have k' := kk hg hL (kS1' (v := ki (n : Int)) hr2 hS) H locs ls hP hD hSv hl
  rcases (show t = 0 ∨ t = 1 ∨ t = 2 ∨ t = 3 by omega) with rfl | rfl | rfl | rfl
  · exact va_alen (ty := .int) hx hb hK hP k 0 (kws_at hY) rfl (v := Int32.ofInt (n : Int)) Int32.ofInt_eq_ofNat.symm hd k'
  · exact va_alen (ty := .byte) hx hb hK hP k 1 (kws_at hY) rfl (v := Int32.ofInt (n : Int)) Int32.ofInt_eq_ofNat.symm hd k'
  · exact va_alen (ty := .boolean) hx hb hK hP k 2 (kws_at hY) rfl (v := Int32.ofInt (n : Int)) Int32.ofInt_eq_ofNat.symm hd k'
  · exact va_alen (ty := .long) hx hb hK hP k 3 (kws_at hY) rfl (v := Int32.ofInt (n : Int)) Int32.ofInt_eq_ofNat.symm hd k'
theorem kup_32 (f : Nat → Int) (j : Nat) (v : Int) : upd (fun i => Int32.ofInt (f i)) j (Int32.ofInt v) = fun i => Int32.ofInt (kup f j v i) := by
  funext i
  unfold upd kup
  by_cases h : i = j
  · simp [h]
  · simp [h]
theorem kup_64 (f : Nat → Int) (j : Nat) (v : Int) : vp_updL (fun i => Int64.ofInt (f i)) j (Int64.ofInt v) = fun i => Int64.ofInt (kup f j v i) := by
  funext i
  unfold vp_updL kup
  by_cases h : i = j
  · simp [h]
  · simp [h]
theorem kw_iast {k n : Nat} {i v : Int} (C : kCx x cc own ret cl0 Y0 n0 l0 R0) (hd : decode cc pc = .ok (.iastore, 1)) (pc' : Nat) (hpc : pc + 1 = pc') (hY : Y0[k]? = some (.inl (0, n))) (h0 : 0 ≤ i) (h1 : i < (n : Int)) (kk : KW x cells slots Q (kst σ k (kup (σ k) i.toNat v)) pc' L S) : KW x cells slots Q σ pc L (ki v :: ki i :: kr k :: S) := by
  obtain ⟨⟨p, l, e, R, s, m, args, below, meth, c⟩, ⟨D, cl, cA, ad, ae, Y, A, nL⟩⟩ := x
  obtain ⟨rfl, rfl, rfl, rfl, rfl, hEn, hx, hb, hml, hr, hown, hts, hK, hlocks, hA⟩ := C
  subst hpc
  intro hg hL hS H locs ls hP hD hSv hl
  obtain ⟨hv, hS⟩ := kS1 hS
  obtain ⟨hi, hS⟩ := kS1 hS
  obtain ⟨-, hS⟩ := kS1 hS
  have hi : kR32 i := hi
  refine va_iast hx hb hK hP hD hSv k 0 (kws_at hY) rfl (k32_in hi h0 h1) hd (fun H1 locs1 hP1 hD1 hS1 => ?_)
  rw [k32_cl hi] at hP1 hD1
  rw [kup_32] at hP1 hD1
  have e1 := kws_set (ad := ad) (cA := cA) (σ := σ) hY (kup (σ k) i.toNat v)
  have hP2 : va_P D cl ((kws ad cA Y σ).set k (ad k, kE ad cA (kup (σ k) i.toNat v) (.inl (0, n)))) H1 := hP1
  have hD2 : va_D A ((kws ad cA Y σ).set k (ad k, kE ad cA (kup (σ k) i.toNat v) (.inl (0, n)))) := hD1
  rw [e1] at hP2 hD2
  exact kk (hg.set (by rw [klong_a hY]; exact (show kR32 v from hv))) hL hS H1 locs1 ls hP2 hD2 hS1 hl
theorem kw_bast {k n : Nat} {i v : Int} (C : kCx x cc own ret cl0 Y0 n0 l0 R0) (hd : decode cc pc = .ok (.bastore, 1)) (pc' : Nat) (hpc : pc + 1 = pc') (hY : Y0[k]? = some (.inl (1, n))) (h0 : 0 ≤ i) (h1 : i < (n : Int)) (kk : KW x cells slots Q (kst σ k (kup (σ k) i.toNat (kb8s v))) pc' L S) : KW x cells slots Q σ pc L (ki v :: ki i :: kr k :: S) := by
  obtain ⟨⟨p, l, e, R, s, m, args, below, meth, c⟩, ⟨D, cl, cA, ad, ae, Y, A, nL⟩⟩ := x
  obtain ⟨rfl, rfl, rfl, rfl, rfl, hEn, hx, hb, hml, hr, hown, hts, hK, hlocks, hA⟩ := C
  subst hpc
  intro hg hL hS H locs ls hP hD hSv hl
  obtain ⟨hv, hS⟩ := kS1 hS
  obtain ⟨hi, hS⟩ := kS1 hS
  obtain ⟨-, hS⟩ := kS1 hS
  have hi : kR32 i := hi
  refine va_bast hx hb hK hP hD hSv k 1 (kws_at hY) rfl (k32_in hi h0 h1) hd (fun H1 locs1 hP1 hD1 hS1 => ?_)
  rw [k32_cl hi] at hP1 hD1
  rw [show vp_nar .byte (Int32.ofInt v) = Int32.ofInt (kb8s v) from (k32_of _).symm] at hP1 hD1
  rw [kup_32] at hP1 hD1
  have e1 := kws_set (ad := ad) (cA := cA) (σ := σ) hY (kup (σ k) i.toNat (kb8s v))
  have hP2 : va_P D cl ((kws ad cA Y σ).set k (ad k, kE ad cA (kup (σ k) i.toNat (kb8s v)) (.inl (1, n)))) H1 := hP1
  have hD2 : va_D A ((kws ad cA Y σ).set k (ad k, kE ad cA (kup (σ k) i.toNat (kb8s v)) (.inl (1, n)))) := hD1
  rw [e1] at hP2 hD2
  exact kk (hg.set (by rw [klong_a hY]; exact (k32_rng _))) hL hS H1 locs1 ls hP2 hD2 hS1 hl
theorem kw_zast {k n : Nat} {i v : Int} (C : kCx x cc own ret cl0 Y0 n0 l0 R0) (hd : decode cc pc = .ok (.bastore, 1)) (pc' : Nat) (hpc : pc + 1 = pc') (hY : Y0[k]? = some (.inl (2, n))) (h0 : 0 ≤ i) (h1 : i < (n : Int)) (kk : KW x cells slots Q (kst σ k (kup (σ k) i.toNat (kz1s v))) pc' L S) : KW x cells slots Q σ pc L (ki v :: ki i :: kr k :: S) := by
  obtain ⟨⟨p, l, e, R, s, m, args, below, meth, c⟩, ⟨D, cl, cA, ad, ae, Y, A, nL⟩⟩ := x
  obtain ⟨rfl, rfl, rfl, rfl, rfl, hEn, hx, hb, hml, hr, hown, hts, hK, hlocks, hA⟩ := C
  subst hpc
  intro hg hL hS H locs ls hP hD hSv hl
  obtain ⟨hv, hS⟩ := kS1 hS
  obtain ⟨hi, hS⟩ := kS1 hS
  obtain ⟨-, hS⟩ := kS1 hS
  have hi : kR32 i := hi
  refine va_zast hx hb hK hP hD hSv k 2 (kws_at hY) rfl (k32_in hi h0 h1) hd (fun H1 locs1 hP1 hD1 hS1 => ?_)
  rw [k32_cl hi] at hP1 hD1
  rw [show vp_nar .boolean (Int32.ofInt v) = Int32.ofInt (kz1s v) from (k32_of _).symm] at hP1 hD1
  rw [kup_32] at hP1 hD1
  have e1 := kws_set (ad := ad) (cA := cA) (σ := σ) hY (kup (σ k) i.toNat (kz1s v))
  have hP2 : va_P D cl ((kws ad cA Y σ).set k (ad k, kE ad cA (kup (σ k) i.toNat (kz1s v)) (.inl (2, n)))) H1 := hP1
  have hD2 : va_D A ((kws ad cA Y σ).set k (ad k, kE ad cA (kup (σ k) i.toNat (kz1s v)) (.inl (2, n)))) := hD1
  rw [e1] at hP2 hD2
  exact kk (hg.set (by rw [klong_a hY]; exact (k32_rng _))) hL hS H1 locs1 ls hP2 hD2 hS1 hl
theorem kw_last {k n : Nat} {i v : Int} (C : kCx x cc own ret cl0 Y0 n0 l0 R0) (hd : decode cc pc = .ok (.lastore, 1)) (pc' : Nat) (hpc : pc + 1 = pc') (hY : Y0[k]? = some (.inl (3, n))) (h0 : 0 ≤ i) (h1 : i < (n : Int)) (kk : KW x cells slots Q (kst σ k (kup (σ k) i.toNat v)) pc' L S) : KW x cells slots Q σ pc L (kl v :: ki i :: kr k :: S) := by
  obtain ⟨⟨p, l, e, R, s, m, args, below, meth, c⟩, ⟨D, cl, cA, ad, ae, Y, A, nL⟩⟩ := x
  obtain ⟨rfl, rfl, rfl, rfl, rfl, hEn, hx, hb, hml, hr, hown, hts, hK, hlocks, hA⟩ := C
  subst hpc
  intro hg hL hS H locs ls hP hD hSv hl
  obtain ⟨hv, hS⟩ := kS1 hS
  obtain ⟨hi, hS⟩ := kS1 hS
  obtain ⟨-, hS⟩ := kS1 hS
  have hi : kR32 i := hi
  refine va_last hx hb hK hP hD hSv k 3 (kws_at hY) rfl (k32_in hi h0 h1) hd (fun H1 locs1 hP1 hD1 hS1 => ?_)
  rw [k32_cl hi] at hP1 hD1
  rw [kup_64] at hP1 hD1
  have e1 := kws_set (ad := ad) (cA := cA) (σ := σ) hY (kup (σ k) i.toNat v)
  have hP2 : va_P D cl ((kws ad cA Y σ).set k (ad k, kE ad cA (kup (σ k) i.toNat v) (.inl (3, n)))) H1 := hP1
  have hD2 : va_D A ((kws ad cA Y σ).set k (ad k, kE ad cA (kup (σ k) i.toNat v) (.inl (3, n)))) := hD1
  rw [e1] at hP2 hD2
  exact kk (hg.set (by rw [klong_a hY]; exact (show kR64 v from hv))) hL hS H1 locs1 ls hP2 hD2 hS1 hl
/-- what a method leaves: its answer, the memory, nothing else changed -/
def kPost (D : va_G) (cl : List vw_C) (cA : Nat → ClassId) (ad ae : Nat → Nat) (Y : List kD) (A : Nat → Prop) (r : Option kV) (σ' : kM) : Array Value → State → Outcome → State → Prop := fun _ st o t =>
  o = .returned (r.map (kc ad ae)) ∧ va_P D cl (kws ad cA Y σ') t.heap ∧ va_F A st t ∧ kgood Y σ' ∧ ∀ v ∈ r, kok v
def kPre (D : va_G) (cl : List vw_C) (cA : Nat → ClassId) (ad ae : Nat → Nat) (Y : List kD) (A : Nat → Prop) (σ : kM) (vs : List Value) : Array Value → State → Prop := fun a U =>
  a = vs.toArray ∧ va_P D cl (kws ad cA Y σ) U.heap ∧ va_K D cl (ktys cA) U ∧ va_D A (kws ad cA Y σ) ∧ (∀ q : Nat, U.heap.size ≤ q → A q) ∧ kEn ae A U U.heap ∧ kgood Y σ
def kQ (x : kX) (r : Option kV) (σ' : kM) (cells slots : Nat) : State → Prop := match x with
  | ((_, _, _, _, s, _, args, below, _, _), (D, cl, cA, ad, ae, Y, A, _)) => MQ below (kPost D cl cA ad ae Y A r σ') args s cells slots A
theorem kw_ireturn {v : Int} (C : kCx x cc own (some .int) cl0 Y0 n0 l0 R0) (hd : decode cc pc = .ok (.ireturn, 1)) : KW x cells slots (kQ x (some (ki v)) σ cells slots) σ pc L [ki v] := by
  obtain ⟨⟨p, l, e, R, s, m, args, below, meth, c⟩, ⟨D, cl, cA, ad, ae, Y, A, nL⟩⟩ := x
  obtain ⟨rfl, rfl, rfl, rfl, rfl, hEn, hx, hb, hml, hr, hown, hts, hK, hlocks, hA⟩ := C
  intro hg hL hS H locs ls hP hD hSv hl
  exact W.iret hx hb hr (fun t ht hW => ⟨rfl, by rw [ht]; exact hP, hSv.F ht, hg, fun u hu => by cases hu; exact (kS1 hS).1⟩) hSv.2.2 hd
theorem kw_zreturn {v : Int} (C : kCx x cc own (some .boolean) cl0 Y0 n0 l0 R0) (hd : decode cc pc = .ok (.ireturn, 1)) (hz : v = 0 ∨ v = 1) : KW x cells slots (kQ x (some (ki v)) σ cells slots) σ pc L [ki v] := by
  obtain ⟨⟨p, l, e, R, s, m, args, below, meth, c⟩, ⟨D, cl, cA, ad, ae, Y, A, nL⟩⟩ := x
  obtain ⟨rfl, rfl, rfl, rfl, rfl, hEn, hx, hb, hml, hr, hown, hts, hK, hlocks, hA⟩ := C
  intro hg hL hS H locs ls hP hD hSv hl
  exact W.zret hx hb hr (by rcases hz with rfl | rfl <;> rfl) (fun t ht hW => ⟨rfl, by rw [ht]; exact hP, hSv.F ht, hg, fun u hu => by cases hu; exact (kS1 hS).1⟩) hSv.2.2 hd
theorem kw_lreturn {v : Int} (C : kCx x cc own (some .long) cl0 Y0 n0 l0 R0) (hd : decode cc pc = .ok (.lreturn, 1)) : KW x cells slots (kQ x (some (kl v)) σ cells slots) σ pc L [kl v] := by
  obtain ⟨⟨p, l, e, R, s, m, args, below, meth, c⟩, ⟨D, cl, cA, ad, ae, Y, A, nL⟩⟩ := x
  obtain ⟨rfl, rfl, rfl, rfl, rfl, hEn, hx, hb, hml, hr, hown, hts, hK, hlocks, hA⟩ := C
  intro hg hL hS H locs ls hP hD hSv hl
  exact W.lret hx hb hr (fun t ht hW => ⟨rfl, by rw [ht]; exact hP, hSv.F ht, hg, fun u hu => by cases hu; exact (kS1 hS).1⟩) hSv.2.2 hd
theorem kw_areturn {v : Int} {cn : String} (C : kCx x cc own (some (.object cn)) cl0 Y0 n0 l0 R0) (hd : decode cc pc = .ok (.areturn, 1)) : KW x cells slots (kQ x (some (ke v)) σ cells slots) σ pc L [ke v] := by
  obtain ⟨⟨p, l, e, R, s, m, args, below, meth, c⟩, ⟨D, cl, cA, ad, ae, Y, A, nL⟩⟩ := x
  obtain ⟨rfl, rfl, rfl, rfl, rfl, hEn, hx, hb, hml, hr, hown, hts, hK, hlocks, hA⟩ := C
  intro hg hL hS H locs ls hP hD hSv hl
  exact W.aret hx hb hr (Or.inl ⟨_, rfl⟩) (by show (if v < 0 then Value.null else Value.ref (ae v.toNat)) = .null ∨ ∃ a, (if v < 0 then Value.null else Value.ref (ae v.toNat)) = .ref a; split <;> simp) (fun t ht hW => ⟨rfl, by rw [ht]; exact hP, hSv.F ht, hg, fun u hu => by cases hu; exact (kS1 hS).1⟩) hSv.2.2 hd
theorem kw_return (C : kCx x cc own none cl0 Y0 n0 l0 R0) (hd : decode cc pc = .ok (.return_, 1)) : KW x cells slots (kQ x none σ cells slots) σ pc L [] := by
  obtain ⟨⟨p, l, e, R, s, m, args, below, meth, c⟩, ⟨D, cl, cA, ad, ae, Y, A, nL⟩⟩ := x
  obtain ⟨rfl, rfl, rfl, rfl, rfl, hEn, hx, hb, hml, hr, hown, hts, hK, hlocks, hA⟩ := C
  intro hg hL hS H locs ls hP hD hSv hl
  exact W.vret hx hb hr (fun t ht hW => ⟨rfl, by rw [ht]; exact hP, hSv.F ht, hg, fun u hu => by cases hu⟩) hSv.2.2 hd
/-- a method's contract at the memory σ and the arguments As: it returns r, the memory is σ' then -/
def kMet (l : Launch) (y : MethodName) (cc : ByteArray) (nL : Nat) (ret : Option FieldType) (rm : Room) (cl : List vw_C) (Y : List kD) (σ : kM) (As : List kV) (r : Option kV) (σ' : kM) : Prop :=
  (∀ v ∈ As, kok v) → ∀ (D : va_G) (cA : Nat → ClassId) (ad ae : Nat → Nat) (A : Nat → Prop), Met l y (Cond.code y cc nL ret :: kG) rm (kPre D cl cA ad ae Y A σ (As.map (kc ad ae))) (kPost D cl cA ad ae Y A r σ') 0 0 A
def kEnt : List kV → List (Option kV)
  | [] => []
  | .inr (.inl v) :: t => some (kl v) :: none :: kEnt t
  | v :: t => some v :: kEnt t
theorem kEnt_args (ad ae : Nat → Nat) : ∀ (As : List kV) (n : Nat) (i : Nat) (v : kV), (kEnt As)[i]? = some (some v) → (n + i, kc ad ae v) ∈ lv_args n (As.map (kc ad ae)) := by
  intro As
  induction As with
  | nil => intro n i v h; simp [kEnt] at h
  | cons a t ih =>
    intro n i v h
    rw [List.map_cons]
    have e1 : lv_args n (kc ad ae a :: t.map (kc ad ae)) = (n, kc ad ae a) :: lv_args (if (kc ad ae a).category = 2 then n + 2 else n + 1) (t.map (kc ad ae)) := rfl
    rw [e1]
    by_cases hc : kcat1 a = true
    · rw [if_neg (by rw [kcat ad ae a hc]; decide)]
      have hE : kEnt (a :: t) = some a :: kEnt t := by rcases a with a | a | a | a <;> first | rfl | cases hc
      rw [hE] at h
      cases i with
      | zero => cases h; exact List.mem_cons_self
      | succ i =>
        have h2 := ih (n + 1) i v h
        rw [show n + (i + 1) = n + 1 + i by omega]
        exact List.mem_cons_of_mem _ h2
    · rcases a with a | a | a | a
      · exact absurd rfl hc
      · rw [if_pos (show (kc ad ae (Sum.inr (Sum.inl a))).category = 2 from rfl)]
        match i, h with
        | 0, h => cases h; exact List.mem_cons_self
        | 1, h => cases h
        | i + 2, h =>
          have h2 := ih (n + 2) i v h
          rw [show n + (i + 2) = n + 2 + i by omega]
          exact List.mem_cons_of_mem _ h2
      · exact absurd rfl hc
      · exact absurd rfl hc
theorem kEnt_ok : ∀ (As : List kV), (∀ v ∈ As, kok v) → ∀ v, some v ∈ kEnt As → kok v := by
  intro As
  induction As with
  | nil => intro _ v h; simp [kEnt] at h
  | cons a t ih =>
    intro hA v h
    obtain ⟨h1, h2⟩ := kS1 hA
    rcases a with a | a | a | a <;> simp [kEnt] at h <;> rcases h with rfl | h <;> first | exact h1 | exact ih h2 v h
end KWM
theorem kls_len (ad ae : Nat → Nat) : ∀ As : List kV, (lg_sl (As.map (kc ad ae))).length = (kEnt As).length := by
  intro As
  induction As with
  | nil => rfl
  | cons a t ih =>
    have e1 : lg_sl ((a :: t).map (kc ad ae)) = (if (kc ad ae a).category = 2 then [Slot.val (kc ad ae a), Slot.second] else [Slot.val (kc ad ae a)]) ++ lg_sl (t.map (kc ad ae)) := rfl
    rw [e1, List.length_append, ih]
    rcases a with a | a | a | a
    · rw [if_neg (by rw [kcat ad ae _ rfl]; decide)]
      show 1 + _ = (kEnt t).length + 1
      omega
    · rw [if_pos (show (kc ad ae (Sum.inr (Sum.inl a))).category = 2 from rfl)]
      show 2 + _ = (kEnt t).length + 1 + 1
      omega
    · rw [if_neg (by rw [kcat ad ae _ rfl]; decide)]
      show 1 + _ = (kEnt t).length + 1
      omega
    · rw [if_neg (by rw [kcat ad ae _ rfl]; decide)]
      show 1 + _ = (kEnt t).length + 1
      omega
/-- a contract out of a walk from the entry -/
theorem kMet.of {l : Launch} {y : MethodName} {cc : ByteArray} {nL : Nat} {ret : Option FieldType} {rm : Room} {cl : List vw_C} {Y : List kD} {σ : kM} {As : List kV} {r : Option kV} {σ' : kM} (L0 : List (Option kV)) (hy : plainName y.cls = true) (hlen : (kEnt As).length ≤ nL) (hL0 : ∀ (i : Nat) (v : kV), L0[i]? = some (some v) → (kEnt As)[i]? = some (some v))
    (body : ∀ x : kX, kCx x cc y.cls ret cl Y nL l rm → KW x 0 0 (kQ x r σ' 0 0) σ 0 L0 []) : kMet l y cc nL ret rm cl Y σ As r σ' := by
  intro hA D cA ad ae A
  refine Met.ofW (cc := cc) (maxL := nL) (ret := ret) hy rfl ?_
  intro p e s m args below meth c s₁ B hml hv
  obtain ⟨rfl, hP, hK, hD, hsz, hEn, hg⟩ := hv
  have hts := atoms_spec (ws := Cond.code y cc nL ret :: kG) B.pre
  have hown : s.vm.findClass y.cls = some m.cls := findClass_of_methodNamed B.named
  have hl := lv_entry (As.map (kc ad ae)) (n := nL) ?_
  · rw [lg_entry_eq]
    refine body ((p, l, e, rm, s, m, _, below, meth, c), (D, cl, cA, ad, ae, Y, A, nL)) ⟨rfl, rfl, rfl, rfl, rfl, hEn, B.exec, B.bytes, hml, B.returns, hown, fun w hw => hts w (List.mem_cons_of_mem _ hw), hK, B.notSynchronized, hsz⟩ hg (fun v hv => ?_) (fun v h => by cases h) s.heap [] _ hP hD va_S.rf ⟨hl.1, hl.2.1, fun q hq => ?_⟩
    · obtain ⟨i, hi⟩ := List.getElem?_of_mem hv
      exact kEnt_ok As hA v (List.mem_of_getElem? (hL0 i v hi))
    · obtain ⟨v, h1, h2⟩ := klv_of hq
      have h3 := kEnt_args ad ae As 0 q.1 v (hL0 _ _ h1)
      rw [Nat.zero_add, ← h2] at h3
      exact hl.2.2 _ h3
  · rw [kls_len]
    exact hlen
section KWC
variable {x : kX} {cc : ByteArray} {own : String} {ret : Option FieldType} {cl0 : List vw_C} {Y0 : List kD} {n0 : Nat} {l0 : Launch} {R0 : Room} {l0 : Launch} {R0 : Room} {cells slots : Nat} {Q : State → Prop} {σ : kM} {pc : Nat} {L : List (Option kV)} {S : List kV}
theorem kws_D {ad : Nat → Nat} {cA : Nat → ClassId} {Y : List kD} {σ σ' : kM} {A : Nat → Prop} (h : va_D A (kws ad cA Y σ)) : va_D A (kws ad cA Y σ') := by
  have e1 : ∀ (τ : kM) (k : Nat) (q : Nat × va_E), (kws ad cA Y τ)[k]? = some q → ∃ d, Y[k]? = some d ∧ q.1 = ad k := by
    intro τ k q hq
    unfold kws at hq
    rw [List.getElem?_mapIdx] at hq
    cases hY : Y[k]? with
    | none => rw [hY] at hq; simp at hq
    | some d => rw [hY] at hq; simp at hq; exact ⟨d, rfl, by rw [← hq]⟩
  refine ⟨fun i j p q hp hq hpq => ?_, fun k q hq => ?_⟩
  · obtain ⟨d1, y1, z1⟩ := e1 σ' i p hp
    obtain ⟨d2, y2, z2⟩ := e1 σ' j q hq
    exact h.1 i j _ _ (kws_at y1) (kws_at y2) (by rw [← z1, ← z2]; exact hpq)
  · obtain ⟨d1, y1, z1⟩ := e1 σ' k q hq
    rw [z1]
    exact h.2 k _ (kws_at y1)
/-- the words of a call -/
def kCb (own : String) (index : Nat) (y : MethodName) (bytes : ByteArray) (maxL : Nat) (rt : Option FieldType) (n : Nat) : Prop :=
  Cond.methodLink own index y ∈ kG ∧ Cond.initialized y.cls ∈ kG ∧ Cond.code y bytes maxL rt ∈ kG ∧ (y.cls ≠ "java/lang/invoke/MethodHandle" ∧ y.cls ≠ "java/lang/invoke/VarHandle") ∧ (parseMethodDescriptor y.desc).map (fun d => d.parameters.length) = some n
def kCv (own : String) (index : Nat) (y : MethodName) (bytes : ByteArray) (maxL : Nat) (rt : Option FieldType) (n : Nat) (Cn : String) : Prop := kCb own index y bytes maxL rt n ∧ Cond.instanceMethod y ∈ kG ∧ Cond.selects Cn y y ∈ kG
def kCs (own : String) (index : Nat) (y : MethodName) (bytes : ByteArray) (maxL : Nat) (rt : Option FieldType) (n : Nat) : Prop := kCb own index y bytes maxL rt n ∧ Cond.static y ∈ kG
theorem kCb.to {own : String} {index : Nat} {y : MethodName} {bytes : ByteArray} {maxL : Nat} {rt : Option FieldType} {n : Nat} {R : Room} {s : State} {args : Array Value} {rm : Room} {mc ms : Nat} (h : kCb own index y bytes maxL rt n) (hts : ∀ w ∈ kG, w.before args s = true) (hrc : rm.cells = mc) (hrs : rm.slots = ms) (hR : rm.frames + 1 ≤ R.frames ∧ 8 + (maxL + 11) + rm.locals ≤ R.locals) :
    CallB R s args own index y bytes maxL rt (Cond.code y bytes maxL rt :: kG) rm mc ms n := by
  obtain ⟨h1, h2, h3, h4, h5⟩ := h
  have good : ∀ w ∈ kG, ∀ (a' : Array Value) (U : State), s.WarmedH U.vm → w.before a' U = true := fun w hw a' U hW => word_at hW (good_of_word (List.mem_filter.mp hw).2) (hts w hw)
  refine ⟨hrc, hrs, hR.1, hR.2, fun w hw => ?_, List.mem_cons_self, hts _ h3, hts _ h2, h4, fun sig hs => ?_, hts _ h1⟩
  · rcases List.mem_cons.mp hw with rfl | hw
    · exact good _ h3
    · exact good w hw
  · rw [hs] at h5
    exact (Option.some.inj h5).symm
theorem kPre.blind {D : va_G} {cl : List vw_C} {cA : Nat → ClassId} {ad ae : Nat → Nat} {Y : List kD} {A : Nat → Prop} {σ : kM} {vs : List Value} : FrameBlind (kPre D cl cA ad ae Y A σ vs) := by
  intro a U g mk h
  obtain ⟨h1, h2, h3, h4, h5, h6, h7⟩ := h
  exact ⟨h1, h2, va_K.moved (u := U) (U := U.calling g mk a) (Vm.Alike.refl U.vm) h3, h4, h5, h6.kept (U := U.calling g mk a) (State.WarmedH.refl U) (fun _ _ _ => rfl), h7⟩
theorem kap {ad ae : Nat → Nat} (r : Option kV) (S : List kV) : (r.map (kc ad ae)).toList ++ S.map (kc ad ae) = (r.toList ++ S).map (kc ad ae) := by cases r <;> rfl
theorem kw_run {index : Nat} {y : MethodName} {bytes : ByteArray} {maxL : Nat} {rt : Option FieldType} {rm : Room} {S0 : List kV} {r : Option kV} {σ1 : kM} (C : kCx x cc own ret cl0 Y0 n0 l0 R0) (pc' : Nat) (hpc : pc + 3 = pc') (a0 : Array Value)
    (hrun : match x with
      | ((p, l, e, R, s, m, args, below, meth, c), (D, cl, cA, ad, ae, Y, A, nL)) => ∀ (H : Heap) (locs : List Loc) (ls : Array Slot), kgood Y σ → (∀ v ∈ S0, kok v) → va_P D cl (kws ad cA Y σ) H → va_D A (kws ad cA Y σ) → va_S A s.heap H locs → ls.size = nL →
        va_Run p l e R s m args below meth c H locs cells slots 0 0 (F0 m pc ls (S0.map (kc ad ae))) (S.map (kc ad ae)) (kPost D cl cA ad ae Y A r σ1 a0) A)
    (hSo : (∀ v ∈ S0, kok v) → ∀ v ∈ S, kok v)
    (kk : KW x cells slots Q σ1 pc' L (r.toList ++ S)) : KW x cells slots Q σ pc L S0 := by
  obtain ⟨⟨p, l, e, R, s, m, args, below, meth, c⟩, ⟨D, cl, cA, ad, ae, Y, A, nL⟩⟩ := x
  obtain ⟨rfl, rfl, rfl, rfl, rfl, hEn, hx, hb, hml, hr, hown, hts, hK, hlocks, hA⟩ := C
  subst hpc
  intro hg hL hS H locs ls hP hD hSv hl
  have hru := hrun H locs ls hg hS hP hD hSv hl.1
  intro T hT X
  obtain ⟨v, st₀, t, T', L2, h0, X', hL2, e1, e2, ⟨hv, hP1, hF, hg1, hr1⟩, st⟩ := hru T hT X
  have hv : v = r.map (kc ad ae) := by injection hv
  subst hv
  have hF1 : H.size ≤ t.heap.size := by have := hF.1; rw [h0] at this; exact this
  have hF2 : ∀ q : Nat, q < H.size → ¬ A q → t.heap[q]? = H[q]? := by have := hF.2; rw [h0] at this; exact this
  obtain ⟨t2, a1, b1⟩ := kk hg1 hL (fun u hu => by
      rcases List.mem_append.mp hu with h | h
      · exact hr1 u (by simpa using h)
      · exact hSo hS u h) T'.heap (locs ++ L2) ls (by rw [e1]; exact hP1) (kws_D hD)
    ⟨Nat.le_trans hSv.1 (by rw [e1]; exact hF1), fun q h1 h2 => by rw [e1, hF2 q (Nat.lt_of_lt_of_le h1 hSv.1) h2]; exact hSv.2.1 q h1 h2, fun q hq => by
      rcases List.mem_append.mp hq with h | h
      · exact hSv.2.2 q h
      · exact hL2 q h⟩ hl T' rfl X'
  refine ⟨t2, st t2 ?_, b1⟩
  rw [← kap] at a1
  exact a1
theorem kw_callV {index b ci : Nat} {fs : List kF} {Cn : String} {T : u_T} {N : Nat} {y : MethodName} {bytes : ByteArray} {maxL : Nat} {rt : Option FieldType} {rm : Room} {As S0 : List kV} {r : Option kV} {σ1 : kM} (C : kCx x cc own ret cl0 Y0 n0 l0 R0) (hd : decode cc pc = .ok (.invokevirtual index, 3)) (pc' : Nat) (hpc : pc + 3 = pc')
    (hc : kCv own index y bytes maxL rt As.length Cn) (hY : Y0[b]? = some (.inr (ci, fs))) (hcl : cl0[ci]? = some (Cn, T, N)) (hM : kMet l0 y bytes maxL rt rm cl0 Y0 σ (kr b :: As) r σ1) (hrm : rm.cells = 0 ∧ rm.slots = 0) (hR : rm.frames + 1 ≤ R0.frames ∧ 8 + (maxL + 11) + rm.locals ≤ R0.locals) (hcs : cells ≤ R0.cells ∧ slots ≤ R0.slots)
    (hS0 : S0 = As.reverse ++ kr b :: S) (hcat : (S.map (fun v => if kcat1 v then 1 else 2)).sum ≤ 8) (kk : KW x cells slots Q σ1 pc' L (r.toList ++ S)) : KW x cells slots Q σ pc L S0 := by
  refine kw_run (y := y) (bytes := bytes) (maxL := maxL) (rt := rt) (rm := rm) (index := index) C pc' hpc ((kr b :: As).map (kc x.2.2.2.2.1 x.2.2.2.2.2.1)).toArray ?_ (fun h v hv => h v (by rw [hS0]; exact List.mem_append_right _ (List.mem_cons_of_mem _ hv))) kk
  obtain ⟨⟨p, l, e, R, s, m, args, below, meth, c⟩, ⟨D, cl, cA, ad, ae, Y, A, nL⟩⟩ := x
  obtain ⟨rfl, rfl, rfl, rfl, rfl, hEn, hx, hb, hml, hr, hown, hts, hK, hlocks, hA⟩ := C
  intro H locs ls hg hS hP hD hSv hls
  subst hS0
  have hA' : ∀ v ∈ kr b :: As, kok v := fun v hv => by
    rcases List.mem_cons.mp hv with rfl | h
    · trivial
    · exact hS v (List.mem_append_left _ (List.mem_reverse.mpr h))
  have hcs2 : (((S.map (kc ad ae)).map fun v => v.category)).sum ≤ 8 := by
    refine Nat.le_trans (Nat.le_of_eq ?_) hcat
    rw [List.map_map]
    congr 1
    apply List.map_congr_left
    intro v _
    rcases v with v | v | v | v <;> first | rfl | exact (kcat ad ae _ rfl)
  refine va_runV (As := As.map (kc ad ae)) (b := ad b) (rest := S.map (kc ad ae)) ⟨hx, hb, hml, hown, hts⟩ (hM hA' D cA ad ae A) ⟨hc.1.to hts hrm.1 hrm.2 hR, hts _ hc.2.1, hts _ hc.2.2⟩ ⟨kPre.blind, va_recv (q := (Cn, T, N)) hK hP hcl (kws_at hY), fun U hU hW => ⟨rfl, by rw [hU]; exact hP, va_K.moved hW.alike hK, hD, fun q hq => hA q (by rw [hU] at hq; exact Nat.le_trans hSv.1 hq), hEn.kept hW (by rw [hU]; exact hSv.2.1), hg⟩⟩ rfl (by simp) hls ?_ (lv_room hcs2) hd ⟨hcs.1, hcs.2⟩
  simp [kc]
theorem kw_callS {index : Nat} {y : MethodName} {bytes : ByteArray} {maxL : Nat} {rt : Option FieldType} {rm : Room} {As S0 : List kV} {r : Option kV} {σ1 : kM} (C : kCx x cc own ret cl0 Y0 n0 l0 R0) (hd : decode cc pc = .ok (.invokestatic index, 3)) (pc' : Nat) (hpc : pc + 3 = pc')
    (hc : kCs own index y bytes maxL rt As.length) (hM : kMet l0 y bytes maxL rt rm cl0 Y0 σ As r σ1) (hrm : rm.cells = 0 ∧ rm.slots = 0) (hR : rm.frames + 1 ≤ R0.frames ∧ 8 + (maxL + 11) + rm.locals ≤ R0.locals) (hcs : cells ≤ R0.cells ∧ slots ≤ R0.slots)
    (hS0 : S0 = As.reverse ++ S) (hcat : (S.map (fun v => if kcat1 v then 1 else 2)).sum ≤ 8) (kk : KW x cells slots Q σ1 pc' L (r.toList ++ S)) : KW x cells slots Q σ pc L S0 := by
  refine kw_run (y := y) (bytes := bytes) (maxL := maxL) (rt := rt) (rm := rm) (index := index) C pc' hpc (As.map (kc x.2.2.2.2.1 x.2.2.2.2.2.1)).toArray ?_ (fun h v hv => h v (by rw [hS0]; exact List.mem_append_right _ hv)) kk
  obtain ⟨⟨p, l, e, R, s, m, args, below, meth, c⟩, ⟨D, cl, cA, ad, ae, Y, A, nL⟩⟩ := x
  obtain ⟨rfl, rfl, rfl, rfl, rfl, hEn, hx, hb, hml, hr, hown, hts, hK, hlocks, hA⟩ := C
  intro H locs ls hg hS hP hD hSv hls
  subst hS0
  have hA' : ∀ v ∈ As, kok v := fun v hv => hS v (List.mem_append_left _ (List.mem_reverse.mpr hv))
  have hcs2 : (((S.map (kc ad ae)).map fun v => v.category)).sum ≤ 8 := by
    refine Nat.le_trans (Nat.le_of_eq ?_) hcat
    rw [List.map_map]
    congr 1
    apply List.map_congr_left
    intro v _
    rcases v with v | v | v | v <;> first | rfl | exact (kcat ad ae _ rfl)
  refine va_runS (As := As.map (kc ad ae)) (rest := S.map (kc ad ae)) ⟨hx, hb, hml, hown, hts⟩ (hM hA' D cA ad ae A) ⟨hc.1.to hts hrm.1 hrm.2 hR, hts _ hc.2⟩ ⟨kPre.blind, fun U hU hW => ⟨rfl, by rw [hU]; exact hP, va_K.moved hW.alike hK, hD, fun q hq => hA q (by rw [hU] at hq; exact Nat.le_trans hSv.1 hq), hEn.kept hW (by rw [hU]; exact hSv.2.1), hg⟩⟩ rfl (by simp) hls ?_ (lv_room hcs2) hd ⟨hcs.1, hcs.2⟩
  simp
theorem kmax32 {a b : Int} (ha : kR32 a) (hb : kR32 b) : (if Int32.ofInt a < Int32.ofInt b then Int32.ofInt b else Int32.ofInt a) = Int32.ofInt (max a b) := by
  by_cases h : a < b
  · rw [if_pos ((k32_lt ha hb).mpr h)]
    congr 1
    omega
  · rw [if_neg (fun q => h ((k32_lt ha hb).mp q))]
    congr 1
    omega
theorem kw_max {index : Nat} {a b : Int} (C : kCx x cc own ret cl0 Y0 n0 l0 R0) (hd : decode cc pc = .ok (.invokestatic index, 3)) (pc' : Nat) (hpc : pc + 3 = pc') (hw : Cond.methodLink own index Lib.Math.max.name ∈ kG ∧ Cond.static Lib.Math.max.name ∈ kG ∧ Cond.initialized "java/lang/Math" ∈ kG ∧ Cond.code Lib.Math.max.name Lib.Math.max.code 2 (some .int) ∈ kG)
    (hR : 1 ≤ R0.frames ∧ 21 ≤ R0.locals) (hcs : cells ≤ R0.cells ∧ slots ≤ R0.slots) (hcat : (S.map (fun v => if kcat1 v then 1 else 2)).sum ≤ 8) (kk : KW x cells slots Q σ pc' L (ki (max a b) :: S)) : KW x cells slots Q σ pc L (ki b :: ki a :: S) := by
  obtain ⟨⟨p, l, e, R, s, m, args, below, meth, c⟩, ⟨D, cl, cA, ad, ae, Y, A, nL⟩⟩ := x
  obtain ⟨rfl, rfl, rfl, rfl, rfl, hEn, hx, hb, hml, hr, hown, hts, hK, hlocks, hA⟩ := C
  subst hpc
  intro hg hL hS H locs ls hP hD hSv hl
  obtain ⟨hvb, hS⟩ := kS1 hS
  obtain ⟨hva, hS⟩ := kS1 hS
  have hvb : kR32 b := hvb
  have hva : kR32 a := hva
  have hcs2 : (((S.map (kc ad ae)).map fun v => v.category)).sum ≤ 8 := by
    refine Nat.le_trans (Nat.le_of_eq ?_) hcat
    rw [List.map_map]
    congr 1
    apply List.map_congr_left
    intro v _
    rcases v with v | v | v | v <;> first | rfl | exact (kcat ad ae _ rfl)
  have k' := kk hg hL (kS1' (v := ki (max a b)) (by obtain ⟨q1, q2⟩ := hva; obtain ⟨q3, q4⟩ := hvb; exact ⟨by omega, by omega⟩) hS) H locs ls hP hD hSv hl
  refine va_mmax hx hb (hml.trans hl.1.symm) hown (hts _ hw.1) (hts _ hw.2.1) (hts _ hw.2.2.1) (hts _ hw.2.2.2) hR.1 (by omega) hcs.1 hcs.2 hd ?_
  rw [kmax32 hva hvb]
  exact k'
theorem kmin32 {a b : Int} (ha : kR32 a) (hb : kR32 b) : (if Int32.ofInt b < Int32.ofInt a then Int32.ofInt b else Int32.ofInt a) = Int32.ofInt (min a b) := by
  by_cases h : b < a
  · rw [if_pos ((k32_lt hb ha).mpr h)]
    congr 1
    omega
  · rw [if_neg (fun q => h ((k32_lt hb ha).mp q))]
    congr 1
    omega
theorem kcpy32 (f g : Nat → Int) (sp dp n : Nat) : va_cpy (fun i => Int32.ofInt (f i)) (fun i => Int32.ofInt (g i)) sp dp n = fun i => Int32.ofInt (va_cpy f g sp dp n i) := by
  funext i
  unfold va_cpy
  by_cases h : dp ≤ i ∧ i < dp + n
  · rw [if_pos h, if_pos h]
  · rw [if_neg h, if_neg h]
theorem kw_copy {index ks kd ns nd : Nat} {n dp sp : Int} (C : kCx x cc own ret cl0 Y0 n0 l0 R0) (hd : decode cc pc = .ok (.invokestatic index, 3)) (pc' : Nat) (hpc : pc + 3 = pc') (hw : Cond.methodLink own index arraycopyName ∈ kG ∧ Cond.native arraycopyName ∈ kG ∧ Cond.static arraycopyName ∈ kG ∧ Cond.initialized "java/lang/System" ∈ kG)
    (hYs : Y0[ks]? = some (.inl (0, ns))) (hYd : Y0[kd]? = some (.inl (0, nd))) (h1 : 0 ≤ sp) (h2 : 0 ≤ dp) (h3 : 0 ≤ n) (h4 : sp + n ≤ (ns : Int)) (h5 : dp + n ≤ (nd : Int))
    (hR : 1 ≤ R0.frames ∧ 8 + (nativeFrameWords "java/lang/System" "arraycopy" 5 + 11) ≤ R0.locals) (hcat : (S.map (fun v => if kcat1 v then 1 else 2)).sum ≤ 8) (kk : KW x cells slots Q (kst σ kd (va_cpy (σ ks) (σ kd) sp.toNat dp.toNat n.toNat)) pc' L S) : KW x cells slots Q σ pc L (ki n :: ki dp :: kr kd :: ki sp :: kr ks :: S) := by
  obtain ⟨⟨p, l, e, R, s, m, args, below, meth, c⟩, ⟨D, cl, cA, ad, ae, Y, A, nL⟩⟩ := x
  obtain ⟨rfl, rfl, rfl, rfl, rfl, hEn, hx, hb, hml, hr, hown, hts, hK, hlocks, hA⟩ := C
  subst hpc
  intro hg hL hS H locs ls hP hD hSv hl
  obtain ⟨hn, hS⟩ := kS1 hS
  obtain ⟨hdp, hS⟩ := kS1 hS
  obtain ⟨-, hS⟩ := kS1 hS
  obtain ⟨hsp, hS⟩ := kS1 hS
  obtain ⟨-, hS⟩ := kS1 hS
  have hn : kR32 n := hn
  have hdp : kR32 dp := hdp
  have hsp : kR32 sp := hsp
  have hcs2 : (((S.map (kc ad ae)).map fun v => v.category)).sum ≤ 8 := by
    refine Nat.le_trans (Nat.le_of_eq ?_) hcat
    rw [List.map_map]
    congr 1
    apply List.map_congr_left
    intro v _
    rcases v with v | v | v | v <;> first | rfl | exact (kcat ad ae _ rfl)
  refine va_copyi hx hb (hml.trans hl.1.symm) hown (hts _ hw.1) (hts _ hw.2.1) (hts _ hw.2.2.1) (hts _ hw.2.2.2) hK hP hD hSv ks kd 0 0 (kws_at hYs) (kws_at hYd) rfl rfl rfl (k32_nlt0 hsp h1) (k32_nlt0 hdp h2) (k32_nlt0 hn h3) (by rw [k32_cl hsp, k32_cl hn]; omega) (by rw [k32_cl hdp, k32_cl hn]; omega) (fun _ _ => rfl) hR.1 (by omega) hd (fun H1 locs1 hP1 hD1 hS1 => ?_)
  rw [k32_cl hsp, k32_cl hdp, k32_cl hn, kcpy32] at hP1 hD1
  have e1 := kws_set (ad := ad) (cA := cA) (σ := σ) hYd (va_cpy (σ ks) (σ kd) sp.toNat dp.toNat n.toNat)
  have hP2 : va_P D cl ((kws ad cA Y σ).set kd (ad kd, kE ad cA (va_cpy (σ ks) (σ kd) sp.toNat dp.toNat n.toNat) (.inl (0, nd)))) H1 := hP1
  have hD2 : va_D A ((kws ad cA Y σ).set kd (ad kd, kE ad cA (va_cpy (σ ks) (σ kd) sp.toNat dp.toNat n.toNat) (.inl (0, nd)))) := hD1
  rw [e1] at hP2 hD2
  refine kk (fun k j => ?_) hL hS H1 locs1 ls hP2 hD2 hS1 hl
  unfold kst
  by_cases hk : k = kd
  · subst hk
    rw [if_pos rfl, klong_a hYd]
    show kR32 _
    unfold va_cpy
    split
    · exact hg.i (klong_a hYs)
    · exact hg.i (klong_a hYd)
  · rw [if_neg hk]
    exact hg k j
theorem kw_min {index : Nat} {a b : Int} (C : kCx x cc own ret cl0 Y0 n0 l0 R0) (hd : decode cc pc = .ok (.invokestatic index, 3)) (pc' : Nat) (hpc : pc + 3 = pc') (hw : Cond.methodLink own index Lib.Math.min.name ∈ kG ∧ Cond.static Lib.Math.min.name ∈ kG ∧ Cond.initialized "java/lang/Math" ∈ kG ∧ Cond.code Lib.Math.min.name Lib.Math.min.code 2 (some .int) ∈ kG)
    (hR : 1 ≤ R0.frames ∧ 21 ≤ R0.locals) (hcs : cells ≤ R0.cells ∧ slots ≤ R0.slots) (hcat : (S.map (fun v => if kcat1 v then 1 else 2)).sum ≤ 8) (kk : KW x cells slots Q σ pc' L (ki (min a b) :: S)) : KW x cells slots Q σ pc L (ki b :: ki a :: S) := by
  obtain ⟨⟨p, l, e, R, s, m, args, below, meth, c⟩, ⟨D, cl, cA, ad, ae, Y, A, nL⟩⟩ := x
  obtain ⟨rfl, rfl, rfl, rfl, rfl, hEn, hx, hb, hml, hr, hown, hts, hK, hlocks, hA⟩ := C
  subst hpc
  intro hg hL hS H locs ls hP hD hSv hl
  obtain ⟨hvb, hS⟩ := kS1 hS
  obtain ⟨hva, hS⟩ := kS1 hS
  have hvb : kR32 b := hvb
  have hva : kR32 a := hva
  have hcs2 : (((S.map (kc ad ae)).map fun v => v.category)).sum ≤ 8 := by
    refine Nat.le_trans (Nat.le_of_eq ?_) hcat
    rw [List.map_map]
    congr 1
    apply List.map_congr_left
    intro v _
    rcases v with v | v | v | v <;> first | rfl | exact (kcat ad ae _ rfl)
  have k' := kk hg hL (kS1' (v := ki (min a b)) (by obtain ⟨q1, q2⟩ := hva; obtain ⟨q3, q4⟩ := hvb; exact ⟨by omega, by omega⟩) hS) H locs ls hP hD hSv hl
  refine va_mmin hx hb (hml.trans hl.1.symm) hown (hts _ hw.1) (hts _ hw.2.1) (hts _ hw.2.2.1) (hts _ hw.2.2.2) hR.1 (by omega) hcs.1 hcs.2 hd ?_
  rw [kmin32 hva hvb]
  exact k'
end KWC

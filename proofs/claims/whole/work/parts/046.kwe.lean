/-! enum constants and their texts, by their places -/
theorem kc_e {ad ae : Nat → Nat} {i : Int} (h0 : 0 ≤ i) : kc ad ae (ke (4 * i)) = .ref (ae (4 * i.toNat)) := by
  show (if 4 * i < 0 then Value.null else Value.ref (ae (4 * i).toNat)) = _
  rw [if_neg (by omega), show (4 * i).toNat = 4 * i.toNat by omega]
theorem kc_t {ad ae : Nat → Nat} {i : Int} (h0 : 0 ≤ i) : kc ad ae (ke (4 * i + 1)) = .ref (ae (4 * i.toNat + 1)) := by
  show (if 4 * i + 1 < 0 then Value.null else Value.ref (ae (4 * i + 1).toNat)) = _
  rw [if_neg (by omega), show (4 * i + 1).toNat = 4 * i.toNat + 1 by omega]
theorem kc_v {ad ae : Nat → Nat} {i : Int} (h0 : 0 ≤ i) : kc ad ae (ke (4 * i + 2)) = .ref (ae (4 * i.toNat + 2)) := by
  show (if 4 * i + 2 < 0 then Value.null else Value.ref (ae (4 * i + 2).toNat)) = _
  rw [if_neg (by omega), show (4 * i + 2).toNat = 4 * i.toNat + 2 by omega]
def kLn (i : Int) : Int := ((kLen.getD i.toNat 0 : Nat) : Int)
def kBt (i j : Int) : Int := ((kByt.getD i.toNat []).getD j.toNat 0).toInt
def kPl (i : Int) : Int := (kPlL.getD i.toNat 0).toInt
def kRu (i : Int) : Int := (kRuL.getD i.toNat 0).toInt
section KWE
variable {x : kX} {cc : ByteArray} {own : String} {ret : Option FieldType} {cl0 : List vw_C} {Y0 : List kD} {n0 : Nat} {l0 : Launch} {R0 : Room} {cells slots : Nat} {Q : State → Prop} {σ : kM} {pc : Nat} {L : List (Option kV)} {S : List kV}
theorem kw_topE {v e : Int} (hv : v = e) (k : KW x cells slots Q σ pc L (ke (4 * v) :: S)) : KW x cells slots Q σ pc L (ke (4 * e) :: S) := hv ▸ k
theorem kw_gsE {index : Nat} {i : Int} (C : kCx x cc own ret cl0 Y0 n0 l0 R0) (hd : decode cc pc = .ok (.getstatic index, 3)) (pc' : Nat) (hpc : pc + 3 = pc') (h0 : 0 ≤ i) (h1 : i < 18) (hlk : Cond.fieldLink own index "PoetFines$Word" (kNm.getD i.toNat "") "LPoetFines$Word;" ∈ kG) (k : KW x cells slots Q σ pc' L (ke (4 * i) :: S)) : KW x cells slots Q σ pc L S := by
  obtain ⟨⟨p, l, e, R, s, m, args, below, meth, c⟩, ⟨D, cl, cA, ad, ae, Y, A, nL⟩⟩ := x
  obtain ⟨rfl, rfl, rfl, rfl, rfl, hEn, hx, hb, hml, hr, hown, hts, hK, hlocks, hA⟩ := C
  obtain ⟨hm1, hm2, hm3, hm4, hm5, hm6, hm7, hm8, hm9⟩ := hEn.2.2.2.2
  subst hpc
  intro hg hL hS H locs ls hP hD hSv hl
  have k' := k hg hL (kS1' (v := ke (4 * i)) trivial hS) H locs ls hP hD hSv hl
  rw [List.map_cons, kc_e h0] at k'
  exact va_gets hx hb ((hm1.1 i.toNat (by show i.toNat < 18; omega)).1) hSv hown (hts _ hlk) (fun _ h => h) hd k'
theorem kw_gsA {index : Nat} (C : kCx x cc own ret cl0 Y0 n0 l0 R0) (hd : decode cc pc = .ok (.getstatic index, 3)) (pc' : Nat) (hpc : pc + 3 = pc') (hlk : Cond.fieldLink own index "PoetFines$Word" "ALL" "[LPoetFines$Word;" ∈ kG) (k : KW x cells slots Q σ pc' L (ke 3 :: S)) : KW x cells slots Q σ pc L S := by
  obtain ⟨⟨p, l, e, R, s, m, args, below, meth, c⟩, ⟨D, cl, cA, ad, ae, Y, A, nL⟩⟩ := x
  obtain ⟨rfl, rfl, rfl, rfl, rfl, hEn, hx, hb, hml, hr, hown, hts, hK, hlocks, hA⟩ := C
  obtain ⟨hm1, hm2, hm3, hm4, hm5, hm6, hm7, hm8, hm9⟩ := hEn.2.2.2.2
  subst hpc
  intro hg hL hS H locs ls hP hD hSv hl
  exact va_gets hx hb hm2 hSv hown (hts _ hlk) (fun _ h => h) hd (k hg hL (kS1' (v := ke 3) trivial hS) H locs ls hP hD hSv hl)
theorem kw_gsAN (C : kCx x cc "PoetFines$Tokens" ret cl0 Y0 n0 l0 R0) (hd : decode cc pc = .ok (.getstatic kNestI, 3)) (pc' : Nat) (hpc : pc + 3 = pc') (k : KW x cells slots Q σ pc' L (ke 3 :: S)) : KW x cells slots Q σ pc L S := by
  obtain ⟨⟨p, l, e, R, s, m, args, below, meth, c⟩, ⟨D, cl, cA, ad, ae, Y, A, nL⟩⟩ := x
  obtain ⟨rfl, rfl, rfl, rfl, rfl, hEn, hx, hb, hml, hr, hown, hts, hK, hlocks, hA⟩ := C
  obtain ⟨hm1, hm2, hm3, hm4, hm5, hm6, hm7, hm8, hm9⟩ := hEn.2.2.2.2
  subst hpc
  intro hg hL hS H locs ls hP hD hSv hl
  exact va_getsN hx hb hm2 hSv hown (va_Nw.use rfl hm9) (fun _ h => h) hd (k hg hL (kS1' (v := ke 3) trivial hS) H locs ls hP hD hSv hl)
theorem kw_alenA (C : kCx x cc own ret cl0 Y0 n0 l0 R0) (hd : decode cc pc = .ok (.arraylength, 1)) (pc' : Nat) (hpc : pc + 1 = pc') (k : KW x cells slots Q σ pc' L (ki 18 :: S)) : KW x cells slots Q σ pc L (ke 3 :: S) := by
  obtain ⟨⟨p, l, e, R, s, m, args, below, meth, c⟩, ⟨D, cl, cA, ad, ae, Y, A, nL⟩⟩ := x
  obtain ⟨rfl, rfl, rfl, rfl, rfl, hEn, hx, hb, hml, hr, hown, hts, hK, hlocks, hA⟩ := C
  obtain ⟨hm1, hm2, hm3, hm4, hm5, hm6, hm7, hm8, hm9⟩ := hEn.2.2.2.2
  subst hpc
  intro hg hL hS H locs ls hP hD hSv hl
  exact va_tlen hx hb hm3 hSv (v := Int32.ofInt 18) rfl hd (k hg hL (kS1' (v := ki 18) ⟨by decide, by decide⟩ (kS1 hS).2) H locs ls hP hD hSv hl)
theorem kw_aald {i : Int} (C : kCx x cc own ret cl0 Y0 n0 l0 R0) (hd : decode cc pc = .ok (.aaload, 1)) (pc' : Nat) (hpc : pc + 1 = pc') (h0 : 0 ≤ i) (h1 : i < 18) (k : KW x cells slots Q σ pc' L (ke (4 * i) :: S)) : KW x cells slots Q σ pc L (ki i :: ke 3 :: S) := by
  obtain ⟨⟨p, l, e, R, s, m, args, below, meth, c⟩, ⟨D, cl, cA, ad, ae, Y, A, nL⟩⟩ := x
  obtain ⟨rfl, rfl, rfl, rfl, rfl, hEn, hx, hb, hml, hr, hown, hts, hK, hlocks, hA⟩ := C
  obtain ⟨hm1, hm2, hm3, hm4, hm5, hm6, hm7, hm8, hm9⟩ := hEn.2.2.2.2
  subst hpc
  intro hg hL hS H locs ls hP hD hSv hl
  obtain ⟨hi, hS⟩ := kS1 hS
  have hi : kR32 i := hi
  have k' := k hg hL (kS1' (v := ke (4 * i)) trivial (kS1 hS).2) H locs ls hP hD hSv hl
  rw [List.map_cons, kc_e h0] at k'
  exact vb_tq hx hb hm3 hSv (k32_in (n := 18) hi h0 h1) (by rw [k32_cl hi]) hd k'
theorem kw_getEp {index : Nat} {i : Int} (C : kCx x cc own ret cl0 Y0 n0 l0 R0) (hd : decode cc pc = .ok (.getfield index, 3)) (pc' : Nat) (hpc : pc + 3 = pc') (h0 : 0 ≤ i) (h1 : i < 18) (hlk : Cond.fieldLink own index "PoetFines$Word" "place" "I" ∈ kG) (k : KW x cells slots Q σ pc' L (ki (kPl i) :: S)) : KW x cells slots Q σ pc L (ke (4 * i) :: S) := by
  obtain ⟨⟨p, l, e, R, s, m, args, below, meth, c⟩, ⟨D, cl, cA, ad, ae, Y, A, nL⟩⟩ := x
  obtain ⟨rfl, rfl, rfl, rfl, rfl, hEn, hx, hb, hml, hr, hown, hts, hK, hlocks, hA⟩ := C
  obtain ⟨hm1, hm2, hm3, hm4, hm5, hm6, hm7, hm8, hm9⟩ := hEn.2.2.2.2
  subst hpc
  intro hg hL hS H locs ls hP hD hSv hl
  have k' := k hg hL (kS1' (v := ki (kPl i)) (k32_rng _) (kS1 hS).2) H locs ls hP hD hSv hl
  rw [List.map_cons, show kc ad ae (ki (kPl i)) = Value.int (kPlL.getD i.toNat 0) from congrArg Value.int (k32_of _)] at k'
  rw [List.map_cons, kc_e h0]
  exact va_getE hx hb hm1 (i := i.toNat) (by show i.toNat < 18; omega) hSv hown (q := ("PoetFines$Word", "place", "I", kPlL)) List.mem_cons_self (hts _ hlk) (fun _ h => h) hd k'
theorem kw_getEr {index : Nat} {i : Int} (C : kCx x cc own ret cl0 Y0 n0 l0 R0) (hd : decode cc pc = .ok (.getfield index, 3)) (pc' : Nat) (hpc : pc + 3 = pc') (h0 : 0 ≤ i) (h1 : i < 18) (hlk : Cond.fieldLink own index "PoetFines$Word" "rules" "I" ∈ kG) (k : KW x cells slots Q σ pc' L (ki (kRu i) :: S)) : KW x cells slots Q σ pc L (ke (4 * i) :: S) := by
  obtain ⟨⟨p, l, e, R, s, m, args, below, meth, c⟩, ⟨D, cl, cA, ad, ae, Y, A, nL⟩⟩ := x
  obtain ⟨rfl, rfl, rfl, rfl, rfl, hEn, hx, hb, hml, hr, hown, hts, hK, hlocks, hA⟩ := C
  obtain ⟨hm1, hm2, hm3, hm4, hm5, hm6, hm7, hm8, hm9⟩ := hEn.2.2.2.2
  subst hpc
  intro hg hL hS H locs ls hP hD hSv hl
  have k' := k hg hL (kS1' (v := ki (kRu i)) (k32_rng _) (kS1 hS).2) H locs ls hP hD hSv hl
  rw [List.map_cons, show kc ad ae (ki (kRu i)) = Value.int (kRuL.getD i.toNat 0) from congrArg Value.int (k32_of _)] at k'
  rw [List.map_cons, kc_e h0]
  exact va_getE hx hb hm1 (i := i.toNat) (by show i.toNat < 18; omega) hSv hown (q := ("PoetFines$Word", "rules", "I", kRuL)) (List.mem_cons_of_mem _ List.mem_cons_self) (hts _ hlk) (fun _ h => h) hd k'
theorem kw_getEt {index : Nat} {i : Int} (C : kCx x cc own ret cl0 Y0 n0 l0 R0) (hd : decode cc pc = .ok (.getfield index, 3)) (pc' : Nat) (hpc : pc + 3 = pc') (h0 : 0 ≤ i) (h1 : i < 18) (hlk : Cond.fieldLink own index "PoetFines$Word" "text" "Ljava/lang/String;" ∈ kG) (k : KW x cells slots Q σ pc' L (ke (4 * i + 1) :: S)) : KW x cells slots Q σ pc L (ke (4 * i) :: S) := by
  obtain ⟨⟨p, l, e, R, s, m, args, below, meth, c⟩, ⟨D, cl, cA, ad, ae, Y, A, nL⟩⟩ := x
  obtain ⟨rfl, rfl, rfl, rfl, rfl, hEn, hx, hb, hml, hr, hown, hts, hK, hlocks, hA⟩ := C
  obtain ⟨hm1, hm2, hm3, hm4, hm5, hm6, hm7, hm8, hm9⟩ := hEn.2.2.2.2
  subst hpc
  intro hg hL hS H locs ls hP hD hSv hl
  have k' := k hg hL (kS1' (v := ke (4 * i + 1)) trivial (kS1 hS).2) H locs ls hP hD hSv hl
  rw [List.map_cons, kc_t h0] at k'
  rw [List.map_cons, kc_e h0]
  exact va_getX hx hb hm4 (i := i.toNat) (by omega) hSv hown (hts _ hlk) (fun _ h => h) hd k'
theorem kw_ldcT {index : Nat} {tx : String} (C : kCx x cc own ret cl0 Y0 n0 l0 R0) (hd : decode cc pc = .ok (.ldc index, 2)) (pc' : Nat) (hpc : pc + 2 = pc') (hw : (own, index, tx) = kSig) (k : KW x cells slots Q σ pc' L (ke (4 * 18 + 1) :: S)) : KW x cells slots Q σ pc L S := by
  obtain ⟨⟨p, l, e, R, s, m, args, below, meth, c⟩, ⟨D, cl, cA, ad, ae, Y, A, nL⟩⟩ := x
  obtain ⟨rfl, rfl, rfl, rfl, rfl, hEn, hx, hb, hml, hr, hown, hts, hK, hlocks, hA⟩ := C
  obtain ⟨hm1, hm2, hm3, hm4, hm5, hm6, hm7, hm8, hm9⟩ := hEn.2.2.2.2
  subst hpc
  intro hg hL hS H locs ls hP hD hSv hl
  have e1 : own = kSig.1 := congrArg Prod.fst hw
  have e2 : index = kSig.2.1 := congrArg (fun q => q.2.1) hw
  have e3 : tx = kSig.2.2 := congrArg (fun q => q.2.2) hw
  have k' := k hg hL (kS1' (v := ke (4 * 18 + 1)) trivial hS) H locs ls hP hD hSv hl
  rw [List.map_cons, kc_t (by decide)] at k'
  exact va_ldcS (tx := tx) hx hb hown (by rw [e1, e2, e3]; exact hm6) hd k'
theorem kw_getTv {index : Nat} {i : Int} (C : kCx x cc own ret cl0 Y0 n0 l0 R0) (hd : decode cc pc = .ok (.getfield index, 3)) (pc' : Nat) (hpc : pc + 3 = pc') (h0 : 0 ≤ i) (h1 : i < 19) (hlk : Cond.fieldLink own index "java/lang/String" "value" "[B" ∈ kG) (k : KW x cells slots Q σ pc' L (ke (4 * i + 2) :: S)) : KW x cells slots Q σ pc L (ke (4 * i + 1) :: S) := by
  obtain ⟨⟨p, l, e, R, s, m, args, below, meth, c⟩, ⟨D, cl, cA, ad, ae, Y, A, nL⟩⟩ := x
  obtain ⟨rfl, rfl, rfl, rfl, rfl, hEn, hx, hb, hml, hr, hown, hts, hK, hlocks, hA⟩ := C
  obtain ⟨hm1, hm2, hm3, hm4, hm5, hm6, hm7, hm8, hm9⟩ := hEn.2.2.2.2
  subst hpc
  intro hg hL hS H locs ls hP hD hSv hl
  have k' := k hg hL (kS1' (v := ke (4 * i + 2)) trivial (kS1 hS).2) H locs ls hP hD hSv hl
  rw [List.map_cons, kc_v h0] at k'
  rw [List.map_cons, kc_t h0]
  exact vk_getf hx hb (hm5.1 i.toNat (by omega)).2.2.1 hSv hown (hts _ hlk) (fun _ h => h) hd k'
theorem kw_getTc {index : Nat} {i : Int} (C : kCx x cc own ret cl0 Y0 n0 l0 R0) (hd : decode cc pc = .ok (.getfield index, 3)) (pc' : Nat) (hpc : pc + 3 = pc') (h0 : 0 ≤ i) (h1 : i < 19) (hlk : Cond.fieldLink own index "java/lang/String" "coder" "B" ∈ kG) (k : KW x cells slots Q σ pc' L (ki 0 :: S)) : KW x cells slots Q σ pc L (ke (4 * i + 1) :: S) := by
  obtain ⟨⟨p, l, e, R, s, m, args, below, meth, c⟩, ⟨D, cl, cA, ad, ae, Y, A, nL⟩⟩ := x
  obtain ⟨rfl, rfl, rfl, rfl, rfl, hEn, hx, hb, hml, hr, hown, hts, hK, hlocks, hA⟩ := C
  obtain ⟨hm1, hm2, hm3, hm4, hm5, hm6, hm7, hm8, hm9⟩ := hEn.2.2.2.2
  subst hpc
  intro hg hL hS H locs ls hP hD hSv hl
  have k' := k hg hL (kS1' (v := ki 0) k32_0 (kS1 hS).2) H locs ls hP hD hSv hl
  rw [List.map_cons, kc_t h0]
  exact vk_getf hx hb (hm5.1 i.toNat (by omega)).2.1 hSv hown (hts _ hlk) (fun _ h => h) hd k'
theorem kw_alenV {i : Int} (C : kCx x cc own ret cl0 Y0 n0 l0 R0) (hd : decode cc pc = .ok (.arraylength, 1)) (pc' : Nat) (hpc : pc + 1 = pc') (h0 : 0 ≤ i) (h1 : i < 19) (k : KW x cells slots Q σ pc' L (ki (kLn i) :: S)) : KW x cells slots Q σ pc L (ke (4 * i + 2) :: S) := by
  obtain ⟨⟨p, l, e, R, s, m, args, below, meth, c⟩, ⟨D, cl, cA, ad, ae, Y, A, nL⟩⟩ := x
  obtain ⟨rfl, rfl, rfl, rfl, rfl, hEn, hx, hb, hml, hr, hown, hts, hK, hlocks, hA⟩ := C
  obtain ⟨hm1, hm2, hm3, hm4, hm5, hm6, hm7, hm8, hm9⟩ := hEn.2.2.2.2
  subst hpc
  intro hg hL hS H locs ls hP hD hSv hl
  have hlt : ∀ j : Nat, j < 19 → kLen.getD j 0 < 100 := by decide
  have h9 := hlt i.toNat (by omega)
  have k' := k hg hL (kS1' (v := ki (kLn i)) (by unfold kLn; exact ⟨by omega, by omega⟩) (kS1 hS).2) H locs ls hP hD hSv hl
  rw [List.map_cons, kc_v h0]
  exact va_tlen hx hb (hm5.1 i.toNat (by omega)).2.2.2 hSv (v := Int32.ofInt (kLn i)) Int32.ofInt_eq_ofNat.symm hd k'
theorem kw_baldV {i j : Int} (C : kCx x cc own ret cl0 Y0 n0 l0 R0) (hd : decode cc pc = .ok (.baload, 1)) (pc' : Nat) (hpc : pc + 1 = pc') (h0 : 0 ≤ i) (h1 : i < 19) (h2 : 0 ≤ j) (h3 : j < kLn i) (k : KW x cells slots Q σ pc' L (ki (kBt i j) :: S)) : KW x cells slots Q σ pc L (ki j :: ke (4 * i + 2) :: S) := by
  obtain ⟨⟨p, l, e, R, s, m, args, below, meth, c⟩, ⟨D, cl, cA, ad, ae, Y, A, nL⟩⟩ := x
  obtain ⟨rfl, rfl, rfl, rfl, rfl, hEn, hx, hb, hml, hr, hown, hts, hK, hlocks, hA⟩ := C
  obtain ⟨hm1, hm2, hm3, hm4, hm5, hm6, hm7, hm8, hm9⟩ := hEn.2.2.2.2
  subst hpc
  intro hg hL hS H locs ls hP hD hSv hl
  obtain ⟨hj, hS⟩ := kS1 hS
  have hj : kR32 j := hj
  have k' := k hg hL (kS1' (v := ki (kBt i j)) (k32_rng _) (kS1 hS).2) H locs ls hP hD hSv hl
  rw [List.map_cons, show kc ad ae (ki (kBt i j)) = Value.int ((kByt.getD i.toNat []).getD j.toNat 0) from congrArg Value.int (k32_of _)] at k'
  rw [List.map_cons, List.map_cons, kc_v h0]
  exact va_tb hx hb (hm5.1 i.toNat (by omega)).2.2.2 hSv (k32_in hj h2 h3) (by rw [k32_cl hj]) hd k'
theorem kw_gsC {index : Nat} (C : kCx x cc own ret cl0 Y0 n0 l0 R0) (hd : decode cc pc = .ok (.getstatic index, 3)) (pc' : Nat) (hpc : pc + 3 = pc') (hlk : Cond.fieldLink own index "java/lang/String" "COMPACT_STRINGS" "Z" ∈ kG) (k : KW x cells slots Q σ pc' L (ki 1 :: S)) : KW x cells slots Q σ pc L S := by
  obtain ⟨⟨p, l, e, R, s, m, args, below, meth, c⟩, ⟨D, cl, cA, ad, ae, Y, A, nL⟩⟩ := x
  obtain ⟨rfl, rfl, rfl, rfl, rfl, hEn, hx, hb, hml, hr, hown, hts, hK, hlocks, hA⟩ := C
  obtain ⟨hm1, hm2, hm3, hm4, hm5, hm6, hm7, hm8, hm9⟩ := hEn.2.2.2.2
  subst hpc
  intro hg hL hS H locs ls hP hD hSv hl
  exact va_gets hx hb hm7 hSv hown (hts _ hlk) (fun _ h => h) hd (k hg hL (kS1' (v := ki 1) ⟨by decide, by decide⟩ hS) H locs ls hP hD hSv hl)
theorem kw_gsU {index : Nat} (C : kCx x cc own ret cl0 Y0 n0 l0 R0) (hd : decode cc pc = .ok (.getstatic index, 3)) (pc' : Nat) (hpc : pc + 3 = pc') (hlk : Cond.fieldLink own index "jdk/internal/util/Preconditions" "SIOOBE_FORMATTER" "Ljava/util/function/BiFunction;" ∈ kG) (k : ∀ u : Int, KW x cells slots Q σ pc' L (ke u :: S)) : KW x cells slots Q σ pc L S := by
  obtain ⟨⟨p, l, e, R, s, m, args, below, meth, c⟩, ⟨D, cl, cA, ad, ae, Y, A, nL⟩⟩ := x
  obtain ⟨rfl, rfl, rfl, rfl, rfl, hEn, hx, hb, hml, hr, hown, hts, hK, hlocks, hA⟩ := C
  obtain ⟨hm1, hm2, hm3, hm4, hm5, hm6, hm7, hm8, hm9⟩ := hEn.2.2.2.2
  subst hpc
  intro hg hL hS H locs ls hP hD hSv hl
  rcases hm8 with h | h
  · exact va_gets hx hb h hSv hown (hts _ hlk) (fun _ h => h) hd (k (-1) hg hL (kS1' (v := ke (-1)) trivial hS) H locs ls hP hD hSv hl)
  · exact va_gets hx hb h hSv hown (hts _ hlk) (fun _ h => h) hd (k 7 hg hL (kS1' (v := ke 7) trivial hS) H locs ls hP hD hSv hl)
theorem kw_acmp_ne {i j off : Int} (C : kCx x cc own ret cl0 Y0 n0 l0 R0) (hd : decode cc pc = .ok (.if_acmp .ne off, 3)) (pt pc' : Nat) (ht : (pc : Int) + off = (pt : Int)) (hpc : pc + 3 = pc') (hi : 0 ≤ i ∧ i < 18) (hj : 0 ≤ j ∧ j < 18) (kt : ¬ i = j → KW x cells slots Q σ pt L S) (kf : i = j → KW x cells slots Q σ pc' L S) : KW x cells slots Q σ pc L (ke (4 * j) :: ke (4 * i) :: S) := by
  obtain ⟨⟨p, l, e, R, s, m, args, below, meth, c⟩, ⟨D, cl, cA, ad, ae, Y, A, nL⟩⟩ := x
  obtain ⟨rfl, rfl, rfl, rfl, rfl, hEn, hx, hb, hml, hr, hown, hts, hK, hlocks, hA⟩ := C
  obtain ⟨hm1, hm2, hm3, hm4, hm5, hm6, hm7, hm8, hm9⟩ := hEn.2.2.2.2
  subst hpc
  intro hg hL hS H locs ls hP hD hSv hl
  have hS := (kS1 (kS1 hS).2).2
  rw [List.map_cons, List.map_cons, kc_e hi.1, kc_e hj.1]
  refine lv_acmp_ne (rx := some (ae (4 * i.toNat))) (ry := some (ae (4 * j.toNat))) hx hb hd ht (fun h => kt (fun z => h (by rw [z])) hg hL hS H locs ls hP hD hSv hl) (fun h => kf ?_ hg hL hS H locs ls hP hD hSv hl)
  have h9 := hm1.2 i.toNat j.toNat (by show i.toNat < 18; omega) (by show j.toNat < 18; omega) (Option.some.inj h)
  omega
theorem kw_creturn {v : Int} (C : kCx x cc own (some .char) cl0 Y0 n0 l0 R0) (hd : decode cc pc = .ok (.ireturn, 1)) (hz : 0 ≤ v ∧ v < 65536) : KW x cells slots (kQ x (some (ki v)) σ cells slots) σ pc L [ki v] := by
  obtain ⟨⟨p, l, e, R, s, m, args, below, meth, c⟩, ⟨D, cl, cA, ad, ae, Y, A, nL⟩⟩ := x
  obtain ⟨rfl, rfl, rfl, rfl, rfl, hEn, hx, hb, hml, hr, hown, hts, hK, hlocks, hA⟩ := C
  obtain ⟨hm1, hm2, hm3, hm4, hm5, hm6, hm7, hm8, hm9⟩ := hEn.2.2.2.2
  intro hg hL hS H locs ls hP hD hSv hl
  refine W.zret hx hb hr ?_ (fun t ht hW => ⟨rfl, by rw [ht]; exact hP, hSv.F ht, hg, fun u hu => by cases hu; exact (kS1 hS).1⟩) hSv.2.2 hd
  have e1 : Int32.ofInt v = nI v.toNat := by
    show Int32.ofInt v = Int32.ofNat v.toNat
    rw [← Int32.ofInt_eq_ofNat]
    congr 1
    omega
  rw [e1]
  exact (pk_charN (by omega)).1
theorem kw_breturn (C : kCx x cc own (some .byte) cl0 Y0 n0 l0 R0) (hd : decode cc pc = .ok (.ireturn, 1)) : KW x cells slots (kQ x (some (ki 0)) σ cells slots) σ pc L [ki 0] := by
  obtain ⟨⟨p, l, e, R, s, m, args, below, meth, c⟩, ⟨D, cl, cA, ad, ae, Y, A, nL⟩⟩ := x
  obtain ⟨rfl, rfl, rfl, rfl, rfl, hEn, hx, hb, hml, hr, hown, hts, hK, hlocks, hA⟩ := C
  obtain ⟨hm1, hm2, hm3, hm4, hm5, hm6, hm7, hm8, hm9⟩ := hEn.2.2.2.2
  intro hg hL hS H locs ls hP hD hSv hl
  exact W.zret hx hb hr rfl (fun t ht hW => ⟨rfl, by rw [ht]; exact hP, hSv.F ht, hg, fun u hu => by cases hu; exact (kS1 hS).1⟩) hSv.2.2 hd
theorem kw_callE {index : Nat} {i : Int} {y : MethodName} {bytes : ByteArray} {maxL : Nat} {rt : Option FieldType} {rm : Room} {As S0 : List kV} {r : Option kV} {σ1 : kM} (C : kCx x cc own ret cl0 Y0 n0 l0 R0) (hd : decode cc pc = .ok (.invokevirtual index, 3)) (pc' : Nat) (hpc : pc + 3 = pc') (h0 : 0 ≤ i) (h1 : i < 18)
    (hc : kCv own index y bytes maxL rt As.length "PoetFines$Word") (hM : kMet l0 y bytes maxL rt rm cl0 Y0 σ (ke (4 * i) :: As) r σ1) (hrm : rm.cells = 0 ∧ rm.slots = 0) (hR : rm.frames + 1 ≤ R0.frames ∧ 8 + (maxL + 11) + rm.locals ≤ R0.locals) (hcs : cells ≤ R0.cells ∧ slots ≤ R0.slots)
    (hS0 : S0 = As.reverse ++ ke (4 * i) :: S) (hcat : (S.map (fun v => if kcat1 v then 1 else 2)).sum ≤ 8) (kk : KW x cells slots Q σ1 pc' L (r.toList ++ S)) : KW x cells slots Q σ pc L S0 := by
  refine kw_run (y := y) (bytes := bytes) (maxL := maxL) (rt := rt) (rm := rm) (index := index) C pc' hpc (Value.ref (x.2.2.2.2.2.1 (4 * i.toNat)) :: As.map (kc x.2.2.2.2.1 x.2.2.2.2.2.1)).toArray ?_ (fun h v hv => h v (by rw [hS0]; exact List.mem_append_right _ (List.mem_cons_of_mem _ hv))) kk
  obtain ⟨⟨p, l, e, R, s, m, args, below, meth, c⟩, ⟨D, cl, cA, ad, ae, Y, A, nL⟩⟩ := x
  obtain ⟨rfl, rfl, rfl, rfl, rfl, hEn, hx, hb, hml, hr, hown, hts, hK, hlocks, hA⟩ := C
  obtain ⟨hm1, hm2, hm3, hm4, hm5, hm6, hm7, hm8, hm9⟩ := hEn.2.2.2.2
  intro H locs ls hg hS hP hD hSv hls
  subst hS0
  have hA' : ∀ v ∈ ke (4 * i) :: As, kok v := fun v hv => by
    rcases List.mem_cons.mp hv with rfl | h
    · trivial
    · exact hS v (List.mem_append_left _ (List.mem_reverse.mpr h))
  have hcs2 := kcat_sum (ad := ad) (ae := ae) hcat
  have hM1 := hM hA' D cA ad ae A
  rw [List.map_cons, kc_e h0] at hM1
  refine va_runV (As := As.map (kc ad ae)) (b := ae (4 * i.toNat)) (rest := S.map (kc ad ae)) ⟨hx, hb, hml, hown, hts⟩ hM1 ⟨hc.1.to hts hrm.1 hrm.2 hR, hts _ hc.2.1, hts _ hc.2.2⟩ ⟨kPre.blind, va_recvE hm1 (i := i.toNat) (by show i.toNat < 18; omega) hSv, fun U hU hW => ⟨rfl, by rw [hU]; exact hP, va_K.moved hW.alike hK, hD, fun q hq => hA q (by rw [hU] at hq; exact Nat.le_trans hSv.1 hq), hEn.kept hW (by rw [hU]; exact hSv.2.1), hg⟩⟩ rfl (by simp) hls ?_ (lv_room hcs2) hd ⟨hcs.1, hcs.2⟩
  show (As.reverse ++ ke (4 * i) :: S).map (kc ad ae) = _
  rw [List.map_append, List.map_cons, kc_e h0, List.map_reverse]
theorem kw_callT {index : Nat} {i : Int} {y : MethodName} {bytes : ByteArray} {maxL : Nat} {rt : Option FieldType} {rm : Room} {As S0 : List kV} {r : Option kV} {σ1 : kM} (C : kCx x cc own ret cl0 Y0 n0 l0 R0) (hd : decode cc pc = .ok (.invokevirtual index, 3)) (pc' : Nat) (hpc : pc + 3 = pc') (h0 : 0 ≤ i) (h1 : i < 19)
    (hc : kCv own index y bytes maxL rt As.length "java/lang/String") (hM : kMet l0 y bytes maxL rt rm cl0 Y0 σ (ke (4 * i + 1) :: As) r σ1) (hrm : rm.cells = 0 ∧ rm.slots = 0) (hR : rm.frames + 1 ≤ R0.frames ∧ 8 + (maxL + 11) + rm.locals ≤ R0.locals) (hcs : cells ≤ R0.cells ∧ slots ≤ R0.slots)
    (hS0 : S0 = As.reverse ++ ke (4 * i + 1) :: S) (hcat : (S.map (fun v => if kcat1 v then 1 else 2)).sum ≤ 8) (kk : KW x cells slots Q σ1 pc' L (r.toList ++ S)) : KW x cells slots Q σ pc L S0 := by
  refine kw_run (y := y) (bytes := bytes) (maxL := maxL) (rt := rt) (rm := rm) (index := index) C pc' hpc (Value.ref (x.2.2.2.2.2.1 (4 * i.toNat + 1)) :: As.map (kc x.2.2.2.2.1 x.2.2.2.2.2.1)).toArray ?_ (fun h v hv => h v (by rw [hS0]; exact List.mem_append_right _ (List.mem_cons_of_mem _ hv))) kk
  obtain ⟨⟨p, l, e, R, s, m, args, below, meth, c⟩, ⟨D, cl, cA, ad, ae, Y, A, nL⟩⟩ := x
  obtain ⟨rfl, rfl, rfl, rfl, rfl, hEn, hx, hb, hml, hr, hown, hts, hK, hlocks, hA⟩ := C
  obtain ⟨hm1, hm2, hm3, hm4, hm5, hm6, hm7, hm8, hm9⟩ := hEn.2.2.2.2
  intro H locs ls hg hS hP hD hSv hls
  subst hS0
  have hA' : ∀ v ∈ ke (4 * i + 1) :: As, kok v := fun v hv => by
    rcases List.mem_cons.mp hv with rfl | h
    · trivial
    · exact hS v (List.mem_append_left _ (List.mem_reverse.mpr h))
  have hcs2 := kcat_sum (ad := ad) (ae := ae) hcat
  have hM1 := hM hA' D cA ad ae A
  rw [List.map_cons, kc_t h0] at hM1
  refine va_runV (As := As.map (kc ad ae)) (b := ae (4 * i.toNat + 1)) (rest := S.map (kc ad ae)) ⟨hx, hb, hml, hown, hts⟩ hM1 ⟨hc.1.to hts hrm.1 hrm.2 hR, hts _ hc.2.1, hts _ hc.2.2⟩ ⟨kPre.blind, vk_recv hm5 (i := i.toNat) (by omega) hSv, fun U hU hW => ⟨rfl, by rw [hU]; exact hP, va_K.moved hW.alike hK, hD, fun q hq => hA q (by rw [hU] at hq; exact Nat.le_trans hSv.1 hq), hEn.kept hW (by rw [hU]; exact hSv.2.1), hg⟩⟩ rfl (by simp) hls ?_ (lv_room hcs2) hd ⟨hcs.1, hcs.2⟩
  show (As.reverse ++ ke (4 * i + 1) :: S).map (kc ad ae) = _
  rw [List.map_append, List.map_cons, kc_t h0, List.map_reverse]
end KWE

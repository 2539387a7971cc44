/-! state: rows of numbers in memory; expressions, the class's steps -/
theorem rv_at_app (f : Nat → Int) : ∀ (P Q : List Int) (k : Nat), rv_at f k (P ++ Q) ↔ rv_at f k P ∧ rv_at f (k + P.length) Q := by
  intro P
  induction P with
  | nil => intro Q k; exact ⟨fun h => ⟨trivial, h⟩, fun h => h.2⟩
  | cons c P ih =>
    intro Q k
    have h := ih Q (k + 1)
    have e : k + 1 + P.length = k + (c :: P).length := by rw [List.length_cons]; omega
    rw [e] at h
    exact ⟨fun x => ⟨⟨x.1, (h.mp x.2).1⟩, (h.mp x.2).2⟩, fun x => ⟨x.1.1, h.mpr ⟨x.1.2, x.2⟩⟩⟩
theorem rv_at_congr {f g : Nat → Int} : ∀ (P : List Int) (k : Nat), (∀ j, k ≤ j → j < k + P.length → g j = f j) → rv_at f k P → rv_at g k P := by
  intro P
  induction P with
  | nil => intro k _ _; exact trivial
  | cons c P ih =>
    intro k hj h
    rw [List.length_cons] at hj
    exact ⟨(hj k (by omega) (by omega)).trans h.1, ih (k + 1) (fun j a b => hj j (by omega) (by omega)) h.2⟩
theorem rv_at_up {f : Nat → Int} {P : List Int} {v : Int} (h : rv_at f 0 P) : rv_at (kup f P.length v) 0 (P ++ [v]) := by
  rw [rv_at_app]
  refine ⟨rv_at_congr P 0 (fun j a b => kup_ne (by omega)) h, ?_, trivial⟩
  show kup f P.length v (0 + P.length) = v
  rw [Nat.zero_add, kup_eq]
/-- the reference's text of a program -/
def en1 (c : Int) : List Int := if 0 ≤ c then [1, c] else if -9 < c then [2, rv_v c] else [rv_o c]
def en : List Int → List Int
  | [] => []
  | c :: P => en1 c ++ en P
theorem en_app : ∀ P Q : List Int, en (P ++ Q) = en P ++ en Q := by
  intro P
  induction P with
  | nil => intro Q; rfl
  | cons c P ih =>
    intro Q
    show en1 c ++ en (P ++ Q) = (en1 c ++ en P) ++ en Q
    rw [ih, List.append_assoc]
theorem en_one (c : Int) : en [c] = en1 c := List.append_nil _
theorem en1_len (c : Int) : (en1 c).length ≤ 2 := by
  unfold en1
  split
  · exact Nat.le_refl _
  · split
    · exact Nat.le_refl _
    · exact (by decide : 1 ≤ 2)
theorem en_len : ∀ P : List Int, (en P).length ≤ 2 * P.length := by
  intro P
  induction P with
  | nil => exact Nat.le_refl _
  | cons c P ih =>
    have e : en (c :: P) = en1 c ++ en P := rfl
    have := en1_len c
    rw [e, List.length_append, List.length_cons]
    omega
theorem en_ops : ∀ P : List Int, (∀ c ∈ P, c ≤ -9) → en P = P.map rv_o := by
  intro P
  induction P with
  | nil => intro _; rfl
  | cons c P ih =>
    intro h
    have e : en (c :: P) = en1 c ++ en P := rfl
    have hc := h c List.mem_cons_self
    rw [e, ih (fun x hx => h x (List.mem_cons_of_mem _ hx))]
    unfold en1
    rw [if_neg (by omega), if_neg (by omega)]
    rfl
/-- levels -/
def lV (c : Int) : Int := if c = -10 then 0 else if c = -11 then 1 else if c = -9 then 2 else if -13 ≤ c then 3 else if -15 ≤ c then 4 else 5
/-- a program's part that puts one number more -/
def okE (b : Nat) (ok : Int → Prop) (E : List Int) : Prop := (∀ (Q : List Int) (d : Nat), d + b ≤ 40 → rv_ok Q (d + 1) → rv_ok (E ++ Q) d) ∧ ∀ c ∈ E, -9 < c → c < 0 → ok c
theorem okE.one {ok : Int → Prop} {c : Int} (h : -9 < c) (hc : c < 0 → ok c) : okE 1 ok [c] := by
  refine ⟨fun Q d hd hQ => ?_, fun x hx _ h0 => ?_⟩
  · show d ≤ 40 ∧ _ ∧ _ ∧ _
    exact ⟨by omega, fun _ => hQ, fun e => by omega, fun e => by omega⟩
  · rw [List.mem_singleton] at hx
    subst hx
    exact hc h0
theorem okE.mono {ok : Int → Prop} {a b : Nat} (h : a ≤ b) {E : List Int} (hE : okE a ok E) : okE b ok E := ⟨fun Q d hd hQ => hE.1 Q d (by omega) hQ, hE.2⟩
theorem okE.op {ok : Int → Prop} {b : Nat} (hb : 1 ≤ b) {E F : List Int} {c : Int} (hE : okE (b + 1) ok E) (hF : okE b ok F) (h1 : -17 ≤ c) (h2 : c < -9) : okE (b + 1) ok (E ++ (F ++ [c])) := by
  refine ⟨fun Q d hd hQ => ?_, fun x hx h9 h0 => ?_⟩
  · rw [List.append_assoc, List.append_assoc]
    refine hE.1 _ d hd (hF.1 _ (d + 1) (by omega) ?_)
    show d + 1 + 1 ≤ 40 ∧ _ ∧ _ ∧ _
    have hdd := rv_okd _ _ hQ
    refine ⟨?_, fun e => absurd e (by omega), fun e => absurd e (by omega), fun _ => ⟨h1, by omega, ?_⟩⟩
    · by_cases x : d + 1 + 1 ≤ 40
      · exact x
      · exfalso
        have hx : d + (b + 1) ≤ 40 := hd
        omega
    · show rv_ok Q (d + 1 + 1 - 1)
      exact hQ
  · rcases List.mem_append.mp hx with h | h
    · exact hE.2 x h h9 h0
    · rcases List.mem_append.mp h with h | h
      · exact hF.2 x h h9 h0
      · rw [List.mem_singleton] at h
        omega
theorem okE.not {ok : Int → Prop} {b : Nat} (hb : 1 ≤ b) {E : List Int} (hE : okE b ok E) : okE b ok (E ++ [-9]) := by
  refine ⟨fun Q d hd hQ => ?_, fun x hx h9 h0 => ?_⟩
  · rw [List.append_assoc]
    refine hE.1 _ d hd ?_
    show d + 1 ≤ 40 ∧ _ ∧ _ ∧ _
    exact ⟨by omega, fun e => absurd e (by decide), fun _ => ⟨by omega, hQ⟩, fun e => absurd e (by decide)⟩
  · rcases List.mem_append.mp hx with h | h
    · exact hE.2 x h h9 h0
    · rw [List.mem_singleton] at h
      omega
section CEX
variable {T : Nat → Int} {n m : Nat} {KD ST LN VL : Nat → Int} {i : Nat} {σ σ0 : kM}
/-- the class within an expression, all well -/
def CE (m : Nat) (KD ST LN VL : Nat → Int) (σ0 : kM) (i : Nat) (C : List Int) (σ : kM) : Prop := CT m KD ST LN VL i σ ∧ σ0 12 3 = 0 ∧ σ 17 1 = (C.length : Int) ∧ rv_at (σ 18) 0 C ∧ ∀ c : Nat, c < 24 ∨ 28 < c → c ≠ 17 → c ≠ 18 → σ c = σ0 c
/-- refused -/
def CX (m : Nat) (KD ST LN VL : Nat → Int) (σ0 : kM) (f p : Int) (σ : kM) : Prop := CFt m KD ST LN VL f p σ ∧ (0 ≤ σ 17 1 ∧ σ 17 1 ≤ 700) ∧ σ 12 4 = σ0 12 4 ∧ ∀ c : Nat, c < 24 ∨ 28 < c → c ≠ 12 → c ≠ 17 → c ≠ 18 → σ c = σ0 c
theorem CE.f0 {C : List Int} (h : CE m KD ST LN VL σ0 i C σ) : σ 12 3 = 0 := by
  rw [h.2.2.2.2 12 (by decide) (by decide) (by decide)]
  exact h.2.1
theorem CE.ad {C : List Int} (h : CE m KD ST LN VL σ0 i C σ) : CE m KD ST LN VL σ0 (i + 1) C (cAd σ i) := by
  obtain ⟨a, b, c, d, e⟩ := h
  refine ⟨a.ad, b, ?_, ?_, fun q q1 q2 q3 => ?_⟩
  · show kst σ 24 _ 17 1 = _
    rw [kst_ne (by decide)]
    exact c
  · show rv_at (kst σ 24 _ 18) 0 C
    rw [kst_ne (by decide)]
    exact d
  · show kst σ 24 _ q = _
    rw [kst_ne (by omega)]
    exact e q q1 q2 q3
theorem CE.rf {C : List Int} (h : CE m KD ST LN VL σ0 i C σ) (hC : C.length ≤ 700) {x p : Int} (hx : x ≠ 0) : CX m KD ST LN VL σ0 x p (cRf σ m x p) := by
  obtain ⟨a, b, c, d, e⟩ := h
  refine ⟨a.rf hx, ?_, ?_, fun q q1 q2 q3 q4 => ?_⟩
  · show 0 ≤ kst _ 24 _ 17 1 ∧ kst _ 24 _ 17 1 ≤ 700
    rw [kst_ne (by decide), kst_ne (by decide), c]
    omega
  · show kst _ 24 _ 12 4 = _
    rw [kst_ne (by decide), kst_eq, kup_ne (by decide), kup_ne (by decide), e 12 (by decide) (by decide) (by decide)]
  · show kst _ 24 _ q = _
    rw [kst_ne (by omega), kst_ne q2]
    exact e q q1 q3 q4
theorem c_emit {C : List Int} (h : CE m KD ST LN VL σ0 i C σ) (hC : C.length < 700) (v : Int) : ∃ σ', pf_Rules_emit_17 σ v = some σ' ∧ CE m KD ST LN VL σ0 i (C ++ [v]) σ' := by
  obtain ⟨a, b, c, d, e⟩ := h
  have ew := kw_inc (i := C.length) (by omega)
  refine ⟨kst (kst σ 18 (kup (σ 18) C.length v)) 17 (kup (σ 17) 1 ((C.length + 1 : Nat) : Int)), ?_, (a.put (by decide)).put (by decide), b, ?_, ?_, fun q q1 q2 q3 => ?_⟩
  · unfold pf_Rules_emit_17
    rw [c, if_neg (by omega), kchk_t (by omega), klet_eq, klet_eq, kst_ne (by decide), c, ew, Int.toNat_natCast]
  · rw [kst_eq, kup_eq, List.length_append]
    rfl
  · rw [kst_ne (by decide), kst_eq]
    exact rv_at_up d
  · rw [kst_ne q2, kst_ne q3]
    exact e q q1 q2 q3
theorem cx_emit {f p : Int} (h : CX m KD ST LN VL σ0 f p σ) (v : Int) : ∃ σ', pf_Rules_emit_17 σ v = some σ' ∧ CX m KD ST LN VL σ0 f p σ' := by
  obtain ⟨a, ⟨b, c⟩, d, e⟩ := h
  unfold pf_Rules_emit_17
  by_cases x : 700 ≤ σ 17 1
  · rw [if_pos x]
    exact ⟨σ, rfl, a, ⟨b, c⟩, d, e⟩
  · have ew : w32 (σ 17 1 + 1) = σ 17 1 + 1 := w32_s (by omega) (by omega)
    rw [if_neg x, kchk_t (by omega), klet_eq, klet_eq, kst_ne (by decide), ew]
    refine ⟨_, rfl, (a.put (by decide) (by decide)).put (by decide) (by decide), ?_, ?_, fun q q1 q2 q3 q4 => ?_⟩
    · rw [kst_eq, kup_eq]
      omega
    · rw [kst_ne (by decide), kst_ne (by decide)]
      exact d
    · rw [kst_ne q3, kst_ne q4]
      exact e q q1 q2 q3 q4
/-- the operator that a token is; -1 -/
def oC (KD VL : Nat → Int) (i : Nat) : Int := if KD i = 2 then (if VL i = 6 then -10 else if VL i = 7 then -11 else -1) else if KD i = 3 then (if VL i = 60 then -12 else if VL i = 61 then -13 else if VL i = 43 then -14 else if VL i = 45 then -15 else if VL i = 42 then -16 else if VL i = 47 then -17 else -1) else -1
theorem oC_spec (KD VL : Nat → Int) (i : Nat) : (oC KD VL i = -1 ∨ (-17 ≤ oC KD VL i ∧ oC KD VL i ≤ -10)) ∧ (oC KD VL i = -10 ↔ WD KD VL i 6) ∧ (oC KD VL i = -11 ↔ WD KD VL i 7) ∧ (oC KD VL i = -12 ↔ SG KD VL i 60) ∧ (oC KD VL i = -13 ↔ SG KD VL i 61) ∧ (oC KD VL i = -14 ↔ SG KD VL i 43) ∧ (oC KD VL i = -15 ↔ SG KD VL i 45) ∧ (oC KD VL i = -16 ↔ SG KD VL i 42) ∧ (oC KD VL i = -17 ↔ SG KD VL i 47) := by
  unfold oC WD SG
  generalize KD i = k
  generalize VL i = v
  by_cases h2 : k = 2
  · rw [if_pos h2]
    split
    · omega
    · split <;> omega
  · rw [if_neg h2]
    by_cases h3 : k = 3
    · rw [if_pos h3]
      repeat' split
      all_goals omega
    · rw [if_neg h3]
      omega
theorem c_oneOf (h : CT m KD ST LN VL i σ) (h7 : m ≤ 700) (hi : i ≤ m) {a b : Int} (x y : Int) : pf_Parser_oneOf_12 σ a x b y = some (if KD i = 3 ∧ VL i = a then x else if KD i = 3 ∧ VL i = b then y else -1) := by
  unfold pf_Parser_oneOf_12
  by_cases c : KD i = 3 ∧ VL i = a
  · rw [kbind_eq (c_isSign1 h h7 hi c), if_neg (by decide), if_pos c]
  · rw [kbind_eq (c_isSign0 h h7 hi c), if_pos rfl, if_neg c]
    by_cases d : KD i = 3 ∧ VL i = b
    · rw [kbind_eq (c_isSign1 h h7 hi d), if_neg (by decide), if_pos d]
    · rw [kbind_eq (c_isSign0 h h7 hi d), if_pos rfl, if_neg d]
theorem lV_rng (c : Int) : 0 ≤ lV c ∧ lV c ≤ 5 := by
  unfold lV
  repeat' split
  all_goals omega
theorem c_opOf (hK : TKf T n m KD ST LN VL) (h : CT m KD ST LN VL i σ) (hi : i ≤ m) {l : Int} (h0 : 0 ≤ l) (h5 : l ≤ 5) : pf_Parser_operatorOf_12 σ l = some (if oC KD VL i ≠ -1 ∧ lV (oC KD VL i) = l then oC KD VL i else -1) := by
  obtain ⟨s0, s1, s2, s3, s4, s5, s6, s7, s8⟩ := oC_spec KD VL i
  have hl : l = 0 ∨ l = 1 ∨ l = 2 ∨ l = 3 ∨ l = 4 ∨ l = 5 := by omega
  unfold pf_Parser_operatorOf_12
  generalize oC KD VL i = o at *
  have hL : lV o = if o = -10 then 0 else if o = -11 then 1 else if o = -9 then 2 else if -13 ≤ o then 3 else if -15 ≤ o then 4 else 5 := rfl
  rcases hl with rfl | rfl | rfl | rfl | rfl | rfl
  · rw [if_pos rfl]
    by_cases c : WD KD VL i 6
    · rw [kbind_eq (c_isWord1 hK h hK.m7 hi (by decide) c), if_neg (by decide), if_pos ⟨by rw [s1.mpr c]; decide, by rw [s1.mpr c]; decide⟩, s1.mpr c]
    · rw [kbind_eq (c_isWord0 hK h hK.m7 hi (by decide) c), if_pos rfl, if_neg]
      rintro ⟨a, b⟩
      rw [hL, if_neg (fun x => c (s1.mp x))] at b
      revert b
      repeat' split
      all_goals omega
  · rw [if_neg (by decide), if_pos rfl]
    by_cases c : WD KD VL i 7
    · rw [kbind_eq (c_isWord1 hK h hK.m7 hi (by decide) c), if_neg (by decide), if_pos ⟨by rw [s2.mpr c]; decide, by rw [s2.mpr c]; decide⟩, s2.mpr c]
    · rw [kbind_eq (c_isWord0 hK h hK.m7 hi (by decide) c), if_pos rfl, if_neg]
      rintro ⟨a, b⟩
      rw [hL] at b
      have hn : ¬ o = -11 := fun x => c (s2.mp x)
      revert b
      repeat' split
      all_goals omega
  · rw [if_neg (by decide), if_neg (by decide), if_pos rfl, if_neg]
    rintro ⟨a, b⟩
    rw [hL] at b
    revert b
    repeat' split
    all_goals omega
  · rw [if_neg (by decide), if_neg (by decide), if_neg (by decide), if_pos rfl, kbind_eq (c_oneOf h hK.m7 hi _ _)]
    by_cases c : KD i = 3 ∧ VL i = 60
    · rw [if_pos c, if_pos ⟨by rw [s3.mpr c]; decide, by rw [s3.mpr c]; decide⟩, s3.mpr c]
    · rw [if_neg c]
      by_cases d : KD i = 3 ∧ VL i = 61
      · rw [if_pos d, if_pos ⟨by rw [s4.mpr d]; decide, by rw [s4.mpr d]; decide⟩, s4.mpr d]
      · rw [if_neg d, if_neg]
        rintro ⟨a, b⟩
        rw [hL] at b
        have hn : ¬ o = -12 := fun x => c (s3.mp x)
        have hn2 : ¬ o = -13 := fun x => d (s4.mp x)
        clear s1 s2 s3 s4 s5 s6 s7 s8
        revert b
        repeat' split
        all_goals omega
  · rw [if_neg (by decide), if_neg (by decide), if_neg (by decide), if_neg (by decide), if_pos rfl, kbind_eq (c_oneOf h hK.m7 hi _ _)]
    by_cases c : KD i = 3 ∧ VL i = 43
    · rw [if_pos c, if_pos ⟨by rw [s5.mpr c]; decide, by rw [s5.mpr c]; decide⟩, s5.mpr c]
    · rw [if_neg c]
      by_cases d : KD i = 3 ∧ VL i = 45
      · rw [if_pos d, if_pos ⟨by rw [s6.mpr d]; decide, by rw [s6.mpr d]; decide⟩, s6.mpr d]
      · rw [if_neg d, if_neg]
        rintro ⟨a, b⟩
        rw [hL] at b
        have hn : ¬ o = -14 := fun x => c (s5.mp x)
        have hn2 : ¬ o = -15 := fun x => d (s6.mp x)
        clear s1 s2 s3 s4 s5 s6 s7 s8
        revert b
        repeat' split
        all_goals omega
  · rw [if_neg (by decide), if_neg (by decide), if_neg (by decide), if_neg (by decide), if_neg (by decide), if_pos rfl, kbind_eq (c_oneOf h hK.m7 hi _ _)]
    by_cases c : KD i = 3 ∧ VL i = 42
    · rw [if_pos c, if_pos ⟨by rw [s7.mpr c]; decide, by rw [s7.mpr c]; decide⟩, s7.mpr c]
    · rw [if_neg c]
      by_cases d : KD i = 3 ∧ VL i = 47
      · rw [if_pos d, if_pos ⟨by rw [s8.mpr d]; decide, by rw [s8.mpr d]; decide⟩, s8.mpr d]
      · rw [if_neg d, if_neg]
        rintro ⟨a, b⟩
        rw [hL] at b
        have hn : ¬ o = -16 := fun x => c (s7.mp x)
        have hn2 : ¬ o = -17 := fun x => d (s8.mp x)
        clear s1 s2 s3 s4 s5 s6 s7 s8
        revert b
        repeat' split
        all_goals omega
end CEX

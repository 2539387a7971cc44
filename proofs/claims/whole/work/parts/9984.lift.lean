/-! LIFTING: a contract over a layout holds over a larger one that bears it -/
theorem kEm.narrow {ae : Nat → Nat} {A B : Nat → Prop} {U : State} {H : Heap} (h : kEm ae A U H) (hAB : ∀ q, B q → A q) : kEm ae B U H := by
  obtain ⟨h1, h2, h3, h4, h5, h6, h7, h8, h9⟩ := h
  exact ⟨h1.narrow hAB, h2.narrow hAB, h3.narrow hAB, h4.narrow hAB, h5.narrow hAB, h6, h7.narrow hAB, h8.imp (fun h => h.narrow hAB) (fun h => h.narrow hAB), h9⟩
theorem kEn.narrow {ae : Nat → Nat} {A B : Nat → Prop} {U : State} {H : Heap} (h : kEn ae A U H) (hAB : ∀ q, B q → A q) : kEn ae B U H := by
  obtain ⟨h1, h2, h3, h4, h5⟩ := h
  exact ⟨h1, h2.narrow hAB, h3.narrow hAB, h4, h5.narrow hAB⟩
theorem MetFree.cq {l : Launch} {y : MethodName} {S : Spec} {P P' : Array Value → State → Prop} {K : Program → Env → List Frame → State → Array Value → Prop} {Q Q' : Array Value → State → Outcome → State → Prop} (h : MetFree l y S P K Q) (hP : ∀ a s, P' a s → P a s) (hQ : ∀ a s o t, P' a s → Q a s o t → Q' a s o t) : MetFree l y S P' K Q' := by
  intro p e h1 h2 h3 s m args below hf ha hp hk
  obtain ⟨n, o, a1, a2, a3, a4⟩ := h p e h1 h2 h3 s m args below hf ha (hP _ _ hp) hk
  exact ⟨n, o, a1, a2, a3, hQ _ _ _ _ hp a4⟩
def kshF (g : Nat → Nat) : kF → kF
  | .inl b => .inl b
  | .inr k => .inr (g k)
def kshD (g : Nat → Nat) : kD → kD
  | .inl q => .inl q
  | .inr (ci, fs) => .inr (ci, fs.map (kshF g))
def kshV (g : Nat → Nat) : kV → kV
  | .inl v => .inl v
  | .inr (.inl v) => .inr (.inl v)
  | .inr (.inr (.inl k)) => .inr (.inr (.inl (g k)))
  | .inr (.inr (.inr v)) => .inr (.inr (.inr v))
theorem kE_sh (ad : Nat → Nat) (cA : Nat → ClassId) (g : Nat → Nat) (f : Nat → Int) (d : kD) : kE ad cA f (kshD g d) = kE (fun k => ad (g k)) cA f d := by
  rcases d with ⟨t, n⟩ | ⟨ci, fs⟩
  · rcases t with _ | _ | _ | _ | t <;> rfl
  · show Sum.inr (ci, (fs.map (kshF g)).mapIdx (fun j d => kfv ad f j d)) = Sum.inr (ci, fs.mapIdx (fun j d => kfv (fun k => ad (g k)) f j d))
    congr 2
    apply List.ext_getElem?
    intro i
    rw [List.getElem?_mapIdx, List.getElem?_mapIdx, List.getElem?_map]
    cases fs[i]? with
    | none => rfl
    | some d => rcases d with (_ | _) | _ <;> rfl
theorem kc_sh (ad ae : Nat → Nat) (g : Nat → Nat) (v : kV) : kc ad ae (kshV g v) = kc (fun k => ad (g k)) ae v := by
  rcases v with v | v | v | v <;> rfl
theorem kok_sh {g : Nat → Nat} {v : kV} (h : kok v) : kok (kshV g v) := by
  rcases v with v | v | v | v <;> exact h
theorem kok_sh' {g : Nat → Nat} {v : kV} (h : kok (kshV g v)) : kok v := by
  rcases v with v | v | v | v <;> exact h
theorem kcs_sh (ad ae : Nat → Nat) (g : Nat → Nat) (As : List kV) : (As.map (kshV g)).map (kc ad ae) = As.map (kc (fun k => ad (g k)) ae) := by
  rw [List.map_map]
  apply List.map_congr_left
  intro v _
  exact kc_sh ad ae g v
/-- how a layout lies in a larger one, and memories -/
def kSub (Y Y2 : List kD) (g : Nat → Nat) : Prop := (∀ k : Nat, Y[g k]? = Y2[k]?.map (kshD g)) ∧ ∀ i j : Nat, g i = g j → i = j
section LIFT
variable {Y Y2 : List kD} {g : Nat → Nat} {ρ1 ρ2 σ1 σ2 : kM} {D : va_G} {cl : List vw_C} {cA : Nat → ClassId} {ad ae : Nat → Nat} {A : Nat → Prop}
theorem kSub.long (h : kSub Y Y2 g) (k j : Nat) : klong Y (g k) j = klong Y2 k j := by
  unfold klong
  rw [h.1 k]
  cases Y2[k]? with
  | none => rfl
  | some d =>
    rcases d with ⟨t, n⟩ | ⟨ci, fs⟩
    · rfl
    · show ((fs.map (kshF g))[j]? == some (.inl true)) = (fs[j]? == some (.inl true))
      rw [List.getElem?_map]
      cases fs[j]? with
      | none => rfl
      | some d => rcases d with (_ | _) | _ <;> rfl
theorem kSub.at (h : kSub Y Y2 g) (hσ : ∀ k, ρ1 (g k) = σ1 k) {k : Nat} {q : Nat × va_E} (hq : (kws (fun k => ad (g k)) cA Y2 σ1)[k]? = some q) : (kws ad cA Y ρ1)[g k]? = some q := by
  unfold kws at *
  rw [List.getElem?_mapIdx] at *
  rw [h.1 k, hσ k]
  cases hd : Y2[k]? with
  | none => rw [hd] at hq; cases hq
  | some d =>
    rw [hd] at hq
    show some (ad (g k), kE ad cA (σ1 k) (kshD g d)) = some q
    rw [kE_sh]
    exact hq
theorem kSub.at' (h : kSub Y Y2 g) (hσ : ∀ k, ρ1 (g k) = σ1 k) {k : Nat} {q : Nat × va_E} (hq : (kws ad cA Y ρ1)[g k]? = some q) : (kws (fun k => ad (g k)) cA Y2 σ1)[k]? = some q := by
  unfold kws at *
  rw [List.getElem?_mapIdx] at *
  rw [h.1 k, hσ k] at hq
  cases hd : Y2[k]? with
  | none => rw [hd] at hq; cases hq
  | some d =>
    rw [hd] at hq
    have hq : some (ad (g k), kE ad cA (σ1 k) (kshD g d)) = some q := hq
    rw [kE_sh] at hq
    exact hq
theorem kSub.good (h : kSub Y Y2 g) (hσ : ∀ k, ρ1 (g k) = σ1 k) (hg : kgood Y ρ1) : kgood Y2 σ1 := by
  intro k j
  have := hg (g k) j
  rw [h.long, hσ k] at this
  exact this
theorem kSub.good' (h : kSub Y Y2 g) (hg1 : kgood Y ρ1) (hσ : ∀ k, ρ2 (g k) = σ2 k) (hn : ∀ i, (∀ k, i ≠ g k) → ρ2 i = ρ1 i) (hg : kgood Y2 σ2) : kgood Y ρ2 := by
  intro i j
  by_cases c : ∃ k, i = g k
  · obtain ⟨k, rfl⟩ := c
    rw [h.long, hσ k]
    exact hg k j
  · rw [hn i (fun k e => c ⟨k, e⟩)]
    exact hg1 i j
/-- the cells that a callee over the small layout may write -/
def kA2 (Y : List kD) (g : Nat → Nat) (ad : Nat → Nat) (A : Nat → Prop) : Nat → Prop := fun q => A q ∧ ∀ i : Nat, i < Y.length → (∀ k, i ≠ g k) → ad i ≠ q
theorem kA2.sub {q : Nat} (h : kA2 Y g ad A q) : A q := h.1
theorem kws_len (ad : Nat → Nat) (cA : Nat → ClassId) (Y : List kD) (σ : kM) : (kws ad cA Y σ).length = Y.length := by
  unfold kws
  rw [List.length_mapIdx]
theorem kws_ad {k : Nat} {q : Nat × va_E} (h : (kws ad cA Y ρ1)[k]? = some q) : q.1 = ad k ∧ k < Y.length := by
  have hl := (List.getElem?_eq_some_iff.mp h).1
  rw [kws_len] at hl
  unfold kws at h
  rw [List.getElem?_mapIdx, List.getElem?_eq_getElem hl] at h
  cases h
  exact ⟨rfl, hl⟩
theorem kws_some {k : Nat} (h : k < Y.length) : ∃ e, (kws ad cA Y ρ1)[k]? = some (ad k, e) := by
  refine ⟨kE ad cA (ρ1 k) (Y[k]), ?_⟩
  unfold kws
  rw [List.getElem?_mapIdx, List.getElem?_eq_getElem h]
  rfl
theorem kPre.lift (h : kSub Y Y2 g) (hσ : ∀ k, ρ1 (g k) = σ1 k) {As : List kV} {a : Array Value} {U : State} (hp : kPre D cl cA ad ae Y A ρ1 ((As.map (kshV g)).map (kc ad ae)) a U) : kPre D cl cA (fun k => ad (g k)) ae Y2 (kA2 Y g ad A) σ1 (As.map (kc (fun k => ad (g k)) ae)) a U := by
  obtain ⟨p1, p2, p3, p4, p5, p6, p7⟩ := hp
  refine ⟨by rw [p1, kcs_sh], fun k q hq => p2 (g k) q (h.at hσ hq), p3, ⟨fun i j p q hi hj he => h.2 i j (p4.1 (g i) (g j) p q (h.at hσ hi) (h.at hσ hj) he), fun k q hk => ⟨p4.2 (g k) q (h.at hσ hk), fun i hi hne he => ?_⟩⟩, fun q hq => ⟨p5 q hq, fun i hi hne he => ?_⟩, p6.narrow (fun q hq => hq.1), h.good hσ p7⟩
  · obtain ⟨e, he2⟩ := kws_some (ad := ad) (cA := cA) (ρ1 := ρ1) hi
    exact hne k (p4.1 i (g k) _ q he2 (h.at hσ hk) he)
  · obtain ⟨e, he2⟩ := kws_some (ad := ad) (cA := cA) (ρ1 := ρ1) hi
    have := (p2 i _ he2).lt
    have h2 : ad i < U.heap.size := this
    omega
theorem kP.lift (h : kSub Y Y2 g) (hσ : ∀ k, ρ2 (g k) = σ2 k) (hn : ∀ i, (∀ k, i ≠ g k) → ρ2 i = ρ1 i) {st t : State} (hp : va_P D cl (kws ad cA Y ρ1) st.heap) (hd : va_D A (kws ad cA Y ρ1)) (hq : va_P D cl (kws (fun k => ad (g k)) cA Y2 σ2) t.heap) (hf : va_F (kA2 Y g ad A) st t) : va_P D cl (kws ad cA Y ρ2) t.heap := by
  intro i q hi
  by_cases c : ∃ k, i = g k
  · obtain ⟨k, rfl⟩ := c
    exact hq k q (h.at' hσ hi)
  · have hne : ∀ k, i ≠ g k := fun k e => c ⟨k, e⟩
    have hi1 : (kws ad cA Y ρ1)[i]? = some q := by
      unfold kws at *
      rw [List.getElem?_mapIdx] at *
      rw [← hn i hne]
      exact hi
    obtain ⟨e1, e2⟩ := kws_ad hi1
    have ha := hp i q hi1
    refine ha.kept (hf.2 _ ha.lt (fun hA => hA.2 i e2 hne e1.symm))
theorem va_F.lift {st t : State} (hf : va_F (kA2 Y g ad A) st t) : va_F A st t := ⟨hf.1, fun q h1 h2 => hf.2 q h1 (fun h => h2 h.1)⟩
theorem kMet.lift {l : Launch} {y : MethodName} {cc : ByteArray} {nL : Nat} {ret : Option FieldType} {rm : Room} {As : List kV} {r : Option kV} (hM : kMet l y cc nL ret rm cl Y2 σ1 As r σ2) (h : kSub Y Y2 g) (h1 : ∀ k, ρ1 (g k) = σ1 k) (h2 : ∀ k, ρ2 (g k) = σ2 k) (h3 : ∀ i, (∀ k, i ≠ g k) → ρ2 i = ρ1 i) : kMet l y cc nL ret rm cl Y ρ1 (As.map (kshV g)) (r.map (kshV g)) ρ2 := by
  intro hA D cA ad ae A
  have hA' : ∀ v ∈ As, kok v := fun v hv => kok_sh' (g := g) (hA _ (List.mem_map_of_mem hv))
  refine MetFree.cq (hM hA' D cA (fun k => ad (g k)) ae (kA2 Y g ad A)) (fun a s hp => kPre.lift h h1 hp) (fun a s o t hp hq => ?_)
  obtain ⟨⟨q1, q2, q3, q4, q5⟩, L, q6, q7⟩ := hq
  refine ⟨⟨?_, kP.lift h h2 h3 hp.2.1 hp.2.2.2.1 q2 q3, q3.lift, h.good' hp.2.2.2.2.2.2 h2 h3 q4, ?_⟩, L, q6, fun q hq => (q7 q hq).1⟩
  · rw [q1]
    cases r with
    | none => rfl
    | some v =>
      show Outcome.returned (some (kc (fun k => ad (g k)) ae v)) = Outcome.returned (some (kc ad ae (kshV g v)))
      rw [kc_sh]
  · intro v hv
    cases r with
    | none => cases hv
    | some w =>
      cases hv
      exact kok_sh (q5 w rfl)
theorem kXet.lift {l : Launch} {y : MethodName} {cc : ByteArray} {nL : Nat} {ret : Option FieldType} {rm : Room} {As : List kV} {oc : String ⊕ Option kV} {mc ms : Nat} (hM : kXet l y cc nL ret rm cl Y2 σ1 As oc σ2 mc ms) (h : kSub Y Y2 g) (h1 : ∀ k, ρ1 (g k) = σ1 k) (h2 : ∀ k, ρ2 (g k) = σ2 k) (h3 : ∀ i, (∀ k, i ≠ g k) → ρ2 i = ρ1 i) : kXet l y cc nL ret rm cl Y ρ1 (As.map (kshV g)) (oc.map id (Option.map (kshV g))) ρ2 mc ms := by
  intro hA D cA ad ae A
  have hA' : ∀ v ∈ As, kok v := fun v hv => kok_sh' (g := g) (hA _ (List.mem_map_of_mem hv))
  refine MetFree.cq (hM hA' D cA (fun k => ad (g k)) ae (kA2 Y g ad A)) (fun a s hp => kPre.lift h h1 hp) (fun a s o t hp hq => ?_)
  rcases hq with ⟨hq, L, q6, q7⟩ | ⟨q, e, E, ce, L, hx, x1, x2, x3, x4, x5, x6⟩
  · cases oc with
    | inl E => exact hq.elim
    | inr r =>
      obtain ⟨q1, q2, q3, q4, q5⟩ := hq
      refine Or.inl ⟨⟨?_, kP.lift h h2 h3 hp.2.1 hp.2.2.2.1 q2 q3, q3.lift, h.good' hp.2.2.2.2.2.2 h2 h3 q4, ?_⟩, L, q6, fun q hq => (q7 q hq).1⟩
      · rw [q1]
        cases r with
        | none => rfl
        | some v =>
          show Outcome.returned (some (kc (fun k => ad (g k)) ae v)) = Outcome.returned (some (kc ad ae (kshV g v)))
          rw [kc_sh]
      · intro v hv
        cases r with
        | none => cases hv
        | some w =>
          cases hv
          exact kok_sh (q5 w rfl)
  · cases oc with
    | inr r => exact hx.elim
    | inl E0 =>
      obtain ⟨y1, y2, y3, y4⟩ := hx
      exact Or.inr ⟨q, e, E, ce, L, ⟨y1, kP.lift h h2 h3 hp.2.1 hp.2.2.2.1 y2 y3, y3.lift, h.good' hp.2.2.2.2.2.2 h2 h3 y4⟩, x1, x2, x3, x4, x5, fun z hz => (x6 z hz).1⟩
end LIFT

/-! THE LAW'S LAYOUT: the class's cells (71), the reference's (25), the row of answers -/
def gC (k : Nat) : Nat := if k < 71 then k else 97 + 2 * (k - 71)
def gM (k : Nat) : Nat := if k < 25 then 71 + k else 98 + 2 * (k - 25)
def yL : List kD := yC ++ (yM.map (kshD gM) ++ [.inl (3, 1)])
def kmg (σ μ : kM) (z : Nat → Int) : kM := fun i => if i < 71 then σ i else if i < 96 then μ (i - 71) else if i = 96 then z else if (i - 97) % 2 = 0 then σ (71 + (i - 97) / 2) else μ (25 + (i - 97) / 2)
theorem yC_len : yC.length = 71 := rfl
theorem yM_len : yM.length = 25 := rfl
theorem yC_sh : yC.map (kshD gC) = yC := by decide +kernel
theorem yL_len : yL.length = 97 := by
  unfold yL
  rw [List.length_append, List.length_append, List.length_map, yC_len, yM_len]
  rfl
theorem gC_inj {i j : Nat} (h : gC i = gC j) : i = j := by
  unfold gC at h
  split at h <;> split at h <;> omega
theorem gM_inj {i j : Nat} (h : gM i = gM j) : i = j := by
  unfold gM at h
  split at h <;> split at h <;> omega
theorem kSubC : kSub yL yC gC := by
  refine ⟨fun k => ?_, fun i j => gC_inj⟩
  rw [← List.getElem?_map, yC_sh]
  unfold gC
  by_cases c : k < 71
  · rw [if_pos c]
    unfold yL
    rw [List.getElem?_append_left (by rw [yC_len]; exact c)]
  · rw [if_neg c, List.getElem?_eq_none (by rw [yL_len]; omega), List.getElem?_eq_none (by rw [yC_len]; omega)]
theorem kSubM : kSub yL yM gM := by
  refine ⟨fun k => ?_, fun i j => gM_inj⟩
  rw [← List.getElem?_map, show gM k = if k < 25 then 71 + k else 98 + 2 * (k - 25) from rfl]
  by_cases c : k < 25
  · rw [if_pos c]
    unfold yL
    rw [List.getElem?_append_right (by rw [yC_len]; omega), yC_len, show 71 + k - 71 = k by omega, List.getElem?_append_left (by rw [List.length_map, yM_len]; exact c)]
  · rw [if_neg c, List.getElem?_eq_none (by rw [yL_len]; omega), List.getElem?_eq_none (by rw [List.length_map, yM_len]; omega)]
theorem yL_out : yL[96]? = some (.inl (3, 1)) := by
  unfold yL
  rw [List.getElem?_append_right (by rw [yC_len]; decide), yC_len, List.getElem?_append_right (by rw [List.length_map, yM_len]; decide), List.length_map, yM_len]
  rfl
theorem kmg_C (σ μ : kM) (z : Nat → Int) (k : Nat) : kmg σ μ z (gC k) = σ k := by
  unfold kmg gC
  by_cases c : k < 71
  · rw [if_pos c, if_pos c]
  · rw [if_neg c, if_neg (by omega), if_neg (by omega), if_neg (by omega), if_pos (by omega), show 71 + (97 + 2 * (k - 71) - 97) / 2 = k by omega]
theorem kmg_M (σ μ : kM) (z : Nat → Int) (k : Nat) : kmg σ μ z (gM k) = μ k := by
  unfold kmg gM
  by_cases c : k < 25
  · rw [if_pos c, if_neg (by omega), if_pos (by omega), show 71 + k - 71 = k by omega]
  · rw [if_neg c, if_neg (by omega), if_neg (by omega), if_neg (by omega), if_neg (by omega), show 25 + (98 + 2 * (k - 25) - 97) / 2 = k by omega]
theorem kmg_z (σ μ : kM) (z : Nat → Int) : kmg σ μ z 96 = z := rfl
theorem kmg_nC {σ σ' μ : kM} {z : Nat → Int} {i : Nat} (h : ∀ k, i ≠ gC k) : kmg σ' μ z i = kmg σ μ z i := by
  have h1 : ¬ i < 71 := fun c => h i (by unfold gC; rw [if_pos c])
  unfold kmg
  rw [if_neg h1, if_neg h1]
  by_cases c2 : i < 96
  · rw [if_pos c2, if_pos c2]
  · rw [if_neg c2, if_neg c2]
    by_cases c3 : i = 96
    · rw [if_pos c3, if_pos c3]
    · rw [if_neg c3, if_neg c3]
      by_cases c4 : (i - 97) % 2 = 0
      · exact absurd (show i = gC (71 + (i - 97) / 2) by unfold gC; rw [if_neg (by omega)]; omega) (h _)
      · rw [if_neg c4, if_neg c4]
theorem kmg_nM {σ μ μ' : kM} {z : Nat → Int} {i : Nat} (h : ∀ k, i ≠ gM k) : kmg σ μ' z i = kmg σ μ z i := by
  unfold kmg
  by_cases c1 : i < 71
  · rw [if_pos c1, if_pos c1]
  · rw [if_neg c1, if_neg c1]
    by_cases c2 : i < 96
    · exact absurd (show i = gM (i - 71) by unfold gM; rw [if_pos (by omega)]; omega) (h _)
    · rw [if_neg c2, if_neg c2]
      by_cases c3 : i = 96
      · rw [if_pos c3, if_pos c3]
      · rw [if_neg c3, if_neg c3]
        by_cases c4 : (i - 97) % 2 = 0
        · rw [if_pos c4, if_pos c4]
        · exact absurd (show i = gM (25 + (i - 97) / 2) by unfold gM; rw [if_neg (by omega)]; omega) (h _)
theorem kmg_out (σ μ : kM) (z z' : Nat → Int) : kst (kmg σ μ z) 96 z' = kmg σ μ z' := by
  funext i
  unfold kst kmg
  by_cases c : i = 96
  · subst c
    rw [if_pos rfl, if_neg (by decide), if_neg (by decide), if_pos rfl]
  · rw [if_neg c]
    by_cases c1 : i < 71
    · rw [if_pos c1, if_pos c1]
    · rw [if_neg c1, if_neg c1]
      by_cases c2 : i < 96
      · rw [if_pos c2, if_pos c2]
      · rw [if_neg c2, if_neg c2, if_neg c, if_neg c]
/-- contracts of the class, of the reference, in the law's layout -/
theorem kMet.C {l : Launch} {y : MethodName} {cc : ByteArray} {nL : Nat} {ret : Option FieldType} {rm : Room} {As : List kV} {r : Option kV} {σ σ' : kM} (h : kMet l y cc nL ret rm kcl yC σ As r σ') (μ : kM) (z : Nat → Int) : kMet l y cc nL ret rm kcl yL (kmg σ μ z) (As.map (kshV gC)) (r.map (kshV gC)) (kmg σ' μ z) := h.lift kSubC (kmg_C σ μ z) (kmg_C σ' μ z) (fun i hi => kmg_nC hi)
theorem kMet.M {l : Launch} {y : MethodName} {cc : ByteArray} {nL : Nat} {ret : Option FieldType} {rm : Room} {As : List kV} {r : Option kV} {μ μ' : kM} (h : kMet l y cc nL ret rm kcl yM μ As r μ') (σ : kM) (z : Nat → Int) : kMet l y cc nL ret rm kcl yL (kmg σ μ z) (As.map (kshV gM)) (r.map (kshV gM)) (kmg σ μ' z) := h.lift kSubM (kmg_M σ μ z) (kmg_M σ μ' z) (fun i hi => kmg_nM hi)
theorem kXet.C {l : Launch} {y : MethodName} {cc : ByteArray} {nL : Nat} {ret : Option FieldType} {rm : Room} {As : List kV} {oc : String ⊕ Option kV} {σ σ' : kM} {mc ms : Nat} (h : kXet l y cc nL ret rm kcl yC σ As oc σ' mc ms) (μ : kM) (z : Nat → Int) : kXet l y cc nL ret rm kcl yL (kmg σ μ z) (As.map (kshV gC)) (oc.map id (Option.map (kshV gC))) (kmg σ' μ z) mc ms := h.lift kSubC (kmg_C σ μ z) (kmg_C σ' μ z) (fun i hi => kmg_nC hi)

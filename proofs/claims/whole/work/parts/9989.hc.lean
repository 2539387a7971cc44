/-! HELPERS: contracts -/
theorem hx_L_state (l0 : Launch) (hfl : l0.stackTraces = false) {σ : kM} {x1 : Int} {r : Int} {τ : kM} (h : pf_P_state_0 σ x1 = some (.inr r, τ)) (μ : kM) (z : Nat → Int) : kHet l0 ky_L_state method_3_code 4 [(0, 9, 12, 13)] R0_L_state yL (kmg σ μ z) [kr 0, ki x1, kr 96] 0 (kmg τ μ (kup z 0 r)) 1 6 := kHet.of [some (kr 0), some (ki x1), some (kr 96), none] (by decide) (Nat.le_of_ble_eq_true rfl) ⟨rfl, rfl, rfl, trivial⟩ (fun x C hT hE => by
  refine kw_aload_n C (kdec dc_L_state 0 rfl) rfl 1 rfl rfl ?_
  refine kw_iconst C (kdec dc_L_state 1 rfl) 2 rfl rfl ⟨by decide, by decide⟩ ?_
  refine kw_aload_n C (kdec dc_L_state 2 rfl) rfl 3 rfl rfl ?_
  refine kw_iload_n C (kdec dc_L_state 3 rfl) rfl 4 rfl rfl ?_
  refine kw_callVX (As := [ki x1]) (S := [ki 0, kr 96]) C (kdec dc_L_state 4 rfl) 7 rfl cv_L_7 rfl rfl ((mx_pf_P_state_0 l0 hfl h).C μ z) ⟨rfl, rfl⟩ ⟨Nat.le_of_ble_eq_true rfl, Nat.le_of_ble_eq_true rfl⟩ ⟨Nat.le_of_ble_eq_true rfl, Nat.le_of_ble_eq_true rfl⟩ rfl (Nat.le_of_ble_eq_true rfl) ?_
  refine kw_i2l C (kdec dc_L_state 5 rfl) 8 rfl ?_
  refine kw_last (k := 96) (n := 1) C (kdec dc_L_state 6 rfl) 9 rfl yL_out (by decide) (by decide) ?_
  refine kw_sig (kmg_out τ μ z (kup z 0 r)).symm ?_
  refine kw_goto C (kdec dc_L_state 7 rfl) 15 (by decide) ?_
  refine kw_iconst C (kdec dc_L_state 11 rfl) 16 rfl rfl ⟨by decide, by decide⟩ ?_
  exact kw_xret (Nat.le_of_ble_eq_true rfl) (Nat.le_of_ble_eq_true rfl) (kw_ireturn C (kdec dc_L_state 12 rfl)))
theorem he1_L_state (l0 : Launch) (hfl : l0.stackTraces = false) {σ : kM} {x1 : Int} {τ : kM} (h : pf_P_state_0 σ x1 = some (.inl sIA, τ)) (μ : kM) (z : Nat → Int) : kHet l0 ky_L_state method_3_code 4 [(0, 9, 12, 13)] R0_L_state yL (kmg σ μ z) [kr 0, ki x1, kr 96] 1 (kmg τ μ z) 1 6 := kHet.of [some (kr 0), some (ki x1), some (kr 96), none] (by decide) (Nat.le_of_ble_eq_true rfl) ⟨rfl, rfl, rfl, trivial⟩ (fun x C hT hE => by
  refine kw_aload_n C (kdec dc_L_state 0 rfl) rfl 1 rfl rfl ?_
  refine kw_iconst C (kdec dc_L_state 1 rfl) 2 rfl rfl ⟨by decide, by decide⟩ ?_
  refine kw_aload_n C (kdec dc_L_state 2 rfl) rfl 3 rfl rfl ?_
  refine kw_iload_n C (kdec dc_L_state 3 rfl) rfl 4 rfl rfl ?_
  refine kw_callVX_c (pre := []) (h := (0, 9, 12, 13)) (rest := []) (i := 3) (As := [ki x1]) (S := [ki 0, kr 96]) C hT hE (kdec dc_L_state 4 rfl) cv_L_7 rfl rfl ((me_pf_P_state_0 l0 hfl h).C μ z) ⟨rfl, rfl⟩ ⟨Nat.le_of_ble_eq_true rfl, Nat.le_of_ble_eq_true rfl⟩ ⟨Nat.le_of_ble_eq_true rfl, Nat.le_of_ble_eq_true rfl⟩ rfl (Nat.le_of_ble_eq_true rfl) (fun q hq => by cases hq) ⟨⟨by decide, by decide, by decide⟩, sIA, wl_682, Or.inl ⟨rfl, rfl, Or.inr rfl⟩⟩ 13 (Or.inl ⟨3, kdec dc_L_state 8 rfl, rfl, rfl⟩) (by decide) rfl ?_
  refine kw_iconst C (kdec dc_L_state 9 rfl) 14 rfl rfl ⟨by decide, by decide⟩ ?_
  exact kw_xret (Nat.le_of_ble_eq_true rfl) (Nat.le_of_ble_eq_true rfl) (kw_ireturn C (kdec dc_L_state 10 rfl)))
theorem hx_L_count (l0 : Launch) (hfl : l0.stackTraces = false) {σ : kM} {x1 : Int} {r : Int} {τ : kM} (h : pf_P_count_0 σ x1 = some (.inr r, τ)) (μ : kM) (z : Nat → Int) : kHet l0 ky_L_count method_4_code 4 [(0, 9, 12, 18)] R0_L_count yL (kmg σ μ z) [kr 0, ki x1, kr 96] 0 (kmg τ μ (kup z 0 r)) 1 6 := kHet.of [some (kr 0), some (ki x1), some (kr 96), none] (by decide) (Nat.le_of_ble_eq_true rfl) ⟨rfl, rfl, rfl, trivial⟩ (fun x C hT hE => by
  refine kw_aload_n C (kdec dc_L_count 0 rfl) rfl 1 rfl rfl ?_
  refine kw_iconst C (kdec dc_L_count 1 rfl) 2 rfl rfl ⟨by decide, by decide⟩ ?_
  refine kw_aload_n C (kdec dc_L_count 2 rfl) rfl 3 rfl rfl ?_
  refine kw_iload_n C (kdec dc_L_count 3 rfl) rfl 4 rfl rfl ?_
  refine kw_callVX (As := [ki x1]) (S := [ki 0, kr 96]) C (kdec dc_L_count 4 rfl) 7 rfl cv_L_15 rfl rfl ((mx_pf_P_count_0 l0 hfl h).C μ z) ⟨rfl, rfl⟩ ⟨Nat.le_of_ble_eq_true rfl, Nat.le_of_ble_eq_true rfl⟩ ⟨Nat.le_of_ble_eq_true rfl, Nat.le_of_ble_eq_true rfl⟩ rfl (Nat.le_of_ble_eq_true rfl) ?_
  refine kw_i2l C (kdec dc_L_count 5 rfl) 8 rfl ?_
  refine kw_last (k := 96) (n := 1) C (kdec dc_L_count 6 rfl) 9 rfl yL_out (by decide) (by decide) ?_
  refine kw_sig (kmg_out τ μ z (kup z 0 r)).symm ?_
  refine kw_goto C (kdec dc_L_count 7 rfl) 15 (by decide) ?_
  refine kw_iconst C (kdec dc_L_count 11 rfl) 16 rfl rfl ⟨by decide, by decide⟩ ?_
  exact kw_xret (Nat.le_of_ble_eq_true rfl) (Nat.le_of_ble_eq_true rfl) (kw_ireturn C (kdec dc_L_count 12 rfl)))
theorem he1_L_count (l0 : Launch) (hfl : l0.stackTraces = false) {σ : kM} {x1 : Int} {τ : kM} (h : pf_P_count_0 σ x1 = some (.inl sNE, τ)) (μ : kM) (z : Nat → Int) : kHet l0 ky_L_count method_4_code 4 [(0, 9, 12, 18)] R0_L_count yL (kmg σ μ z) [kr 0, ki x1, kr 96] 1 (kmg τ μ z) 1 6 := kHet.of [some (kr 0), some (ki x1), some (kr 96), none] (by decide) (Nat.le_of_ble_eq_true rfl) ⟨rfl, rfl, rfl, trivial⟩ (fun x C hT hE => by
  refine kw_aload_n C (kdec dc_L_count 0 rfl) rfl 1 rfl rfl ?_
  refine kw_iconst C (kdec dc_L_count 1 rfl) 2 rfl rfl ⟨by decide, by decide⟩ ?_
  refine kw_aload_n C (kdec dc_L_count 2 rfl) rfl 3 rfl rfl ?_
  refine kw_iload_n C (kdec dc_L_count 3 rfl) rfl 4 rfl rfl ?_
  refine kw_callVX_c (pre := []) (h := (0, 9, 12, 18)) (rest := []) (i := 3) (As := [ki x1]) (S := [ki 0, kr 96]) C hT hE (kdec dc_L_count 4 rfl) cv_L_15 rfl rfl ((me_pf_P_count_0 l0 hfl h).C μ z) ⟨rfl, rfl⟩ ⟨Nat.le_of_ble_eq_true rfl, Nat.le_of_ble_eq_true rfl⟩ ⟨Nat.le_of_ble_eq_true rfl, Nat.le_of_ble_eq_true rfl⟩ rfl (Nat.le_of_ble_eq_true rfl) (fun q hq => by cases hq) ⟨⟨by decide, by decide, by decide⟩, sNE, wl_1069, Or.inl ⟨rfl, rfl, Or.inl rfl⟩⟩ 13 (Or.inl ⟨3, kdec dc_L_count 8 rfl, rfl, rfl⟩) (by decide) rfl ?_
  refine kw_iconst C (kdec dc_L_count 9 rfl) 14 rfl rfl ⟨by decide, by decide⟩ ?_
  exact kw_xret (Nat.le_of_ble_eq_true rfl) (Nat.le_of_ble_eq_true rfl) (kw_ireturn C (kdec dc_L_count 10 rfl)))
theorem hx_L_person (l0 : Launch) (hfl : l0.stackTraces = false) {σ : kM} {x1 : Int} {x2 : Int} {r : Int} {τ : kM} (h : pf_P_person_0 σ x1 x2 = some (.inr r, τ)) (μ : kM) (z : Nat → Int) : kHet l0 ky_L_person method_5_code 5 [(0, 10, 13, 18)] R0_L_person yL (kmg σ μ z) [kr 0, ki x1, ki x2, kr 96] 0 (kmg τ μ (kup z 0 r)) 2 12 := kHet.of [some (kr 0), some (ki x1), some (ki x2), some (kr 96), none] (by decide) (Nat.le_of_ble_eq_true rfl) ⟨rfl, rfl, rfl, rfl, trivial⟩ (fun x C hT hE => by
  refine kw_aload_n C (kdec dc_L_person 0 rfl) rfl 1 rfl rfl ?_
  refine kw_iconst C (kdec dc_L_person 1 rfl) 2 rfl rfl ⟨by decide, by decide⟩ ?_
  refine kw_aload_n C (kdec dc_L_person 2 rfl) rfl 3 rfl rfl ?_
  refine kw_iload_n C (kdec dc_L_person 3 rfl) rfl 4 rfl rfl ?_
  refine kw_iload_n C (kdec dc_L_person 4 rfl) rfl 5 rfl rfl ?_
  refine kw_callVX (As := [ki x1, ki x2]) (S := [ki 0, kr 96]) C (kdec dc_L_person 5 rfl) 8 rfl cv_L_20 rfl rfl ((mx_pf_P_person_0 l0 hfl h).C μ z) ⟨rfl, rfl⟩ ⟨Nat.le_of_ble_eq_true rfl, Nat.le_of_ble_eq_true rfl⟩ ⟨Nat.le_of_ble_eq_true rfl, Nat.le_of_ble_eq_true rfl⟩ rfl (Nat.le_of_ble_eq_true rfl) ?_
  refine kw_i2l C (kdec dc_L_person 6 rfl) 9 rfl ?_
  refine kw_last (k := 96) (n := 1) C (kdec dc_L_person 7 rfl) 10 rfl yL_out (by decide) (by decide) ?_
  refine kw_sig (kmg_out τ μ z (kup z 0 r)).symm ?_
  refine kw_goto C (kdec dc_L_person 8 rfl) 17 (by decide) ?_
  refine kw_iconst C (kdec dc_L_person 12 rfl) 18 rfl rfl ⟨by decide, by decide⟩ ?_
  exact kw_xret (Nat.le_of_ble_eq_true rfl) (Nat.le_of_ble_eq_true rfl) (kw_ireturn C (kdec dc_L_person 13 rfl)))
theorem he1_L_person (l0 : Launch) (hfl : l0.stackTraces = false) {σ : kM} {x1 : Int} {x2 : Int} {τ : kM} (h : pf_P_person_0 σ x1 x2 = some (.inl sNE, τ)) (μ : kM) (z : Nat → Int) : kHet l0 ky_L_person method_5_code 5 [(0, 10, 13, 18)] R0_L_person yL (kmg σ μ z) [kr 0, ki x1, ki x2, kr 96] 1 (kmg τ μ z) 2 12 := kHet.of [some (kr 0), some (ki x1), some (ki x2), some (kr 96), none] (by decide) (Nat.le_of_ble_eq_true rfl) ⟨rfl, rfl, rfl, rfl, trivial⟩ (fun x C hT hE => by
  refine kw_aload_n C (kdec dc_L_person 0 rfl) rfl 1 rfl rfl ?_
  refine kw_iconst C (kdec dc_L_person 1 rfl) 2 rfl rfl ⟨by decide, by decide⟩ ?_
  refine kw_aload_n C (kdec dc_L_person 2 rfl) rfl 3 rfl rfl ?_
  refine kw_iload_n C (kdec dc_L_person 3 rfl) rfl 4 rfl rfl ?_
  refine kw_iload_n C (kdec dc_L_person 4 rfl) rfl 5 rfl rfl ?_
  refine kw_callVX_c (pre := []) (h := (0, 10, 13, 18)) (rest := []) (i := 4) (As := [ki x1, ki x2]) (S := [ki 0, kr 96]) C hT hE (kdec dc_L_person 5 rfl) cv_L_20 rfl rfl ((me_pf_P_person_0 l0 hfl h).C μ z) ⟨rfl, rfl⟩ ⟨Nat.le_of_ble_eq_true rfl, Nat.le_of_ble_eq_true rfl⟩ ⟨Nat.le_of_ble_eq_true rfl, Nat.le_of_ble_eq_true rfl⟩ rfl (Nat.le_of_ble_eq_true rfl) (fun q hq => by cases hq) ⟨⟨by decide, by decide, by decide⟩, sNE, wl_1069, Or.inl ⟨rfl, rfl, Or.inl rfl⟩⟩ 15 (Or.inr ⟨kdec dc_L_person 9 rfl, rfl⟩) (by decide) rfl ?_
  refine kw_iconst C (kdec dc_L_person 10 rfl) 16 rfl rfl ⟨by decide, by decide⟩ ?_
  exact kw_xret (Nat.le_of_ble_eq_true rfl) (Nat.le_of_ble_eq_true rfl) (kw_ireturn C (kdec dc_L_person 11 rfl)))
theorem hx_L_poet (l0 : Launch) (hfl : l0.stackTraces = false) {σ : kM} {x1 : Int} {x2 : Int} {r : Int} {τ : kM} (h : pf_P_poet_0 σ x1 x2 = some (.inr r, τ)) (μ : kM) (z : Nat → Int) : kHet l0 ky_L_poet method_6_code 5 [(0, 10, 13, 18)] R0_L_poet yL (kmg σ μ z) [kr 0, ki x1, ki x2, kr 96] 0 (kmg τ μ (kup z 0 r)) 2 12 := kHet.of [some (kr 0), some (ki x1), some (ki x2), some (kr 96), none] (by decide) (Nat.le_of_ble_eq_true rfl) ⟨rfl, rfl, rfl, rfl, trivial⟩ (fun x C hT hE => by
  refine kw_aload_n C (kdec dc_L_poet 0 rfl) rfl 1 rfl rfl ?_
  refine kw_iconst C (kdec dc_L_poet 1 rfl) 2 rfl rfl ⟨by decide, by decide⟩ ?_
  refine kw_aload_n C (kdec dc_L_poet 2 rfl) rfl 3 rfl rfl ?_
  refine kw_iload_n C (kdec dc_L_poet 3 rfl) rfl 4 rfl rfl ?_
  refine kw_iload_n C (kdec dc_L_poet 4 rfl) rfl 5 rfl rfl ?_
  refine kw_callVX (As := [ki x1, ki x2]) (S := [ki 0, kr 96]) C (kdec dc_L_poet 5 rfl) 8 rfl cv_L_24 rfl rfl ((mx_pf_P_poet_0 l0 hfl h).C μ z) ⟨rfl, rfl⟩ ⟨Nat.le_of_ble_eq_true rfl, Nat.le_of_ble_eq_true rfl⟩ ⟨Nat.le_of_ble_eq_true rfl, Nat.le_of_ble_eq_true rfl⟩ rfl (Nat.le_of_ble_eq_true rfl) ?_
  refine kw_i2l C (kdec dc_L_poet 6 rfl) 9 rfl ?_
  refine kw_last (k := 96) (n := 1) C (kdec dc_L_poet 7 rfl) 10 rfl yL_out (by decide) (by decide) ?_
  refine kw_sig (kmg_out τ μ z (kup z 0 r)).symm ?_
  refine kw_goto C (kdec dc_L_poet 8 rfl) 17 (by decide) ?_
  refine kw_iconst C (kdec dc_L_poet 12 rfl) 18 rfl rfl ⟨by decide, by decide⟩ ?_
  exact kw_xret (Nat.le_of_ble_eq_true rfl) (Nat.le_of_ble_eq_true rfl) (kw_ireturn C (kdec dc_L_poet 13 rfl)))
theorem he1_L_poet (l0 : Launch) (hfl : l0.stackTraces = false) {σ : kM} {x1 : Int} {x2 : Int} {τ : kM} (h : pf_P_poet_0 σ x1 x2 = some (.inl sNE, τ)) (μ : kM) (z : Nat → Int) : kHet l0 ky_L_poet method_6_code 5 [(0, 10, 13, 18)] R0_L_poet yL (kmg σ μ z) [kr 0, ki x1, ki x2, kr 96] 1 (kmg τ μ z) 2 12 := kHet.of [some (kr 0), some (ki x1), some (ki x2), some (kr 96), none] (by decide) (Nat.le_of_ble_eq_true rfl) ⟨rfl, rfl, rfl, rfl, trivial⟩ (fun x C hT hE => by
  refine kw_aload_n C (kdec dc_L_poet 0 rfl) rfl 1 rfl rfl ?_
  refine kw_iconst C (kdec dc_L_poet 1 rfl) 2 rfl rfl ⟨by decide, by decide⟩ ?_
  refine kw_aload_n C (kdec dc_L_poet 2 rfl) rfl 3 rfl rfl ?_
  refine kw_iload_n C (kdec dc_L_poet 3 rfl) rfl 4 rfl rfl ?_
  refine kw_iload_n C (kdec dc_L_poet 4 rfl) rfl 5 rfl rfl ?_
  refine kw_callVX_c (pre := []) (h := (0, 10, 13, 18)) (rest := []) (i := 4) (As := [ki x1, ki x2]) (S := [ki 0, kr 96]) C hT hE (kdec dc_L_poet 5 rfl) cv_L_24 rfl rfl ((me_pf_P_poet_0 l0 hfl h).C μ z) ⟨rfl, rfl⟩ ⟨Nat.le_of_ble_eq_true rfl, Nat.le_of_ble_eq_true rfl⟩ ⟨Nat.le_of_ble_eq_true rfl, Nat.le_of_ble_eq_true rfl⟩ rfl (Nat.le_of_ble_eq_true rfl) (fun q hq => by cases hq) ⟨⟨by decide, by decide, by decide⟩, sNE, wl_1069, Or.inl ⟨rfl, rfl, Or.inl rfl⟩⟩ 15 (Or.inr ⟨kdec dc_L_poet 9 rfl, rfl⟩) (by decide) rfl ?_
  refine kw_iconst C (kdec dc_L_poet 10 rfl) 16 rfl rfl ⟨by decide, by decide⟩ ?_
  exact kw_xret (Nat.le_of_ble_eq_true rfl) (Nat.le_of_ble_eq_true rfl) (kw_ireturn C (kdec dc_L_poet 11 rfl)))
theorem hx_L_line (l0 : Launch) (hfl : l0.stackTraces = false) {σ : kM} {x1 : Int} {x2 : Int} {x3 : Int} {r : Int} {τ : kM} (h : pf_P_line_0 σ x1 x2 x3 = some (.inr r, τ)) (μ : kM) (z : Nat → Int) : kHet l0 ky_L_line method_7_code 6 [(0, 12, 15, 18)] R0_L_line yL (kmg σ μ z) [kr 0, ki x1, ki x2, ki x3, kr 96] 0 (kmg τ μ (kup z 0 r)) 3 18 := kHet.of [some (kr 0), some (ki x1), some (ki x2), some (ki x3), some (kr 96), none] (by decide) (Nat.le_of_ble_eq_true rfl) ⟨rfl, rfl, rfl, rfl, rfl, trivial⟩ (fun x C hT hE => by
  refine kw_aload C (kdec dc_L_line 0 rfl) 2 rfl rfl ?_
  refine kw_iconst C (kdec dc_L_line 1 rfl) 3 rfl rfl ⟨by decide, by decide⟩ ?_
  refine kw_aload_n C (kdec dc_L_line 2 rfl) rfl 4 rfl rfl ?_
  refine kw_iload_n C (kdec dc_L_line 3 rfl) rfl 5 rfl rfl ?_
  refine kw_iload_n C (kdec dc_L_line 4 rfl) rfl 6 rfl rfl ?_
  refine kw_iload_n C (kdec dc_L_line 5 rfl) rfl 7 rfl rfl ?_
  refine kw_callVX (As := [ki x1, ki x2, ki x3]) (S := [ki 0, kr 96]) C (kdec dc_L_line 6 rfl) 10 rfl cv_L_27 rfl rfl ((mx_pf_P_line_0 l0 hfl h).C μ z) ⟨rfl, rfl⟩ ⟨Nat.le_of_ble_eq_true rfl, Nat.le_of_ble_eq_true rfl⟩ ⟨Nat.le_of_ble_eq_true rfl, Nat.le_of_ble_eq_true rfl⟩ rfl (Nat.le_of_ble_eq_true rfl) ?_
  refine kw_i2l C (kdec dc_L_line 7 rfl) 11 rfl ?_
  refine kw_last (k := 96) (n := 1) C (kdec dc_L_line 8 rfl) 12 rfl yL_out (by decide) (by decide) ?_
  refine kw_sig (kmg_out τ μ z (kup z 0 r)).symm ?_
  refine kw_goto C (kdec dc_L_line 9 rfl) 19 (by decide) ?_
  refine kw_iconst C (kdec dc_L_line 13 rfl) 20 rfl rfl ⟨by decide, by decide⟩ ?_
  exact kw_xret (Nat.le_of_ble_eq_true rfl) (Nat.le_of_ble_eq_true rfl) (kw_ireturn C (kdec dc_L_line 14 rfl)))
theorem he1_L_line (l0 : Launch) (hfl : l0.stackTraces = false) {σ : kM} {x1 : Int} {x2 : Int} {x3 : Int} {τ : kM} (h : pf_P_line_0 σ x1 x2 x3 = some (.inl sNE, τ)) (μ : kM) (z : Nat → Int) : kHet l0 ky_L_line method_7_code 6 [(0, 12, 15, 18)] R0_L_line yL (kmg σ μ z) [kr 0, ki x1, ki x2, ki x3, kr 96] 1 (kmg τ μ z) 3 18 := kHet.of [some (kr 0), some (ki x1), some (ki x2), some (ki x3), some (kr 96), none] (by decide) (Nat.le_of_ble_eq_true rfl) ⟨rfl, rfl, rfl, rfl, rfl, trivial⟩ (fun x C hT hE => by
  refine kw_aload C (kdec dc_L_line 0 rfl) 2 rfl rfl ?_
  refine kw_iconst C (kdec dc_L_line 1 rfl) 3 rfl rfl ⟨by decide, by decide⟩ ?_
  refine kw_aload_n C (kdec dc_L_line 2 rfl) rfl 4 rfl rfl ?_
  refine kw_iload_n C (kdec dc_L_line 3 rfl) rfl 5 rfl rfl ?_
  refine kw_iload_n C (kdec dc_L_line 4 rfl) rfl 6 rfl rfl ?_
  refine kw_iload_n C (kdec dc_L_line 5 rfl) rfl 7 rfl rfl ?_
  refine kw_callVX_c (pre := []) (h := (0, 12, 15, 18)) (rest := []) (i := 5) (As := [ki x1, ki x2, ki x3]) (S := [ki 0, kr 96]) C hT hE (kdec dc_L_line 6 rfl) cv_L_27 rfl rfl ((me_pf_P_line_0 l0 hfl h).C μ z) ⟨rfl, rfl⟩ ⟨Nat.le_of_ble_eq_true rfl, Nat.le_of_ble_eq_true rfl⟩ ⟨Nat.le_of_ble_eq_true rfl, Nat.le_of_ble_eq_true rfl⟩ rfl (Nat.le_of_ble_eq_true rfl) (fun q hq => by cases hq) ⟨⟨by decide, by decide, by decide⟩, sNE, wl_1069, Or.inl ⟨rfl, rfl, Or.inl rfl⟩⟩ 17 (Or.inr ⟨kdec dc_L_line 10 rfl, rfl⟩) (by decide) rfl ?_
  refine kw_iconst C (kdec dc_L_line 11 rfl) 18 rfl rfl ⟨by decide, by decide⟩ ?_
  exact kw_xret (Nat.le_of_ble_eq_true rfl) (Nat.le_of_ble_eq_true rfl) (kw_ireturn C (kdec dc_L_line 12 rfl)))
theorem hx_L_burn (l0 : Launch) (hfl : l0.stackTraces = false) {σ : kM} {x1 : Int} {r : Int} {τ : kM} (h : pf_P_burn_0 σ x1 = some (.inr r, τ)) (μ : kM) (z : Nat → Int) : kHet l0 ky_L_burn method_8_code 4 [(0, 9, 12, 18)] R0_L_burn yL (kmg σ μ z) [kr 0, ki x1, kr 96] 0 (kmg τ μ (kup z 0 r)) 1 6 := kHet.of [some (kr 0), some (ki x1), some (kr 96), none] (by decide) (Nat.le_of_ble_eq_true rfl) ⟨rfl, rfl, rfl, trivial⟩ (fun x C hT hE => by
  refine kw_aload_n C (kdec dc_L_burn 0 rfl) rfl 1 rfl rfl ?_
  refine kw_iconst C (kdec dc_L_burn 1 rfl) 2 rfl rfl ⟨by decide, by decide⟩ ?_
  refine kw_aload_n C (kdec dc_L_burn 2 rfl) rfl 3 rfl rfl ?_
  refine kw_iload_n C (kdec dc_L_burn 3 rfl) rfl 4 rfl rfl ?_
  refine kw_callVX (As := [ki x1]) (S := [ki 0, kr 96]) C (kdec dc_L_burn 4 rfl) 7 rfl cv_L_31 rfl rfl ((mx_pf_P_burn_0 l0 hfl h).C μ z) ⟨rfl, rfl⟩ ⟨Nat.le_of_ble_eq_true rfl, Nat.le_of_ble_eq_true rfl⟩ ⟨Nat.le_of_ble_eq_true rfl, Nat.le_of_ble_eq_true rfl⟩ rfl (Nat.le_of_ble_eq_true rfl) ?_
  refine kw_i2l C (kdec dc_L_burn 5 rfl) 8 rfl ?_
  refine kw_last (k := 96) (n := 1) C (kdec dc_L_burn 6 rfl) 9 rfl yL_out (by decide) (by decide) ?_
  refine kw_sig (kmg_out τ μ z (kup z 0 r)).symm ?_
  refine kw_goto C (kdec dc_L_burn 7 rfl) 15 (by decide) ?_
  refine kw_iconst C (kdec dc_L_burn 11 rfl) 16 rfl rfl ⟨by decide, by decide⟩ ?_
  exact kw_xret (Nat.le_of_ble_eq_true rfl) (Nat.le_of_ble_eq_true rfl) (kw_ireturn C (kdec dc_L_burn 12 rfl)))
theorem he1_L_burn (l0 : Launch) (hfl : l0.stackTraces = false) {σ : kM} {x1 : Int} {τ : kM} (h : pf_P_burn_0 σ x1 = some (.inl sNE, τ)) (μ : kM) (z : Nat → Int) : kHet l0 ky_L_burn method_8_code 4 [(0, 9, 12, 18)] R0_L_burn yL (kmg σ μ z) [kr 0, ki x1, kr 96] 1 (kmg τ μ z) 1 6 := kHet.of [some (kr 0), some (ki x1), some (kr 96), none] (by decide) (Nat.le_of_ble_eq_true rfl) ⟨rfl, rfl, rfl, trivial⟩ (fun x C hT hE => by
  refine kw_aload_n C (kdec dc_L_burn 0 rfl) rfl 1 rfl rfl ?_
  refine kw_iconst C (kdec dc_L_burn 1 rfl) 2 rfl rfl ⟨by decide, by decide⟩ ?_
  refine kw_aload_n C (kdec dc_L_burn 2 rfl) rfl 3 rfl rfl ?_
  refine kw_iload_n C (kdec dc_L_burn 3 rfl) rfl 4 rfl rfl ?_
  refine kw_callVX_c (pre := []) (h := (0, 9, 12, 18)) (rest := []) (i := 3) (As := [ki x1]) (S := [ki 0, kr 96]) C hT hE (kdec dc_L_burn 4 rfl) cv_L_31 rfl rfl ((me_pf_P_burn_0 l0 hfl h).C μ z) ⟨rfl, rfl⟩ ⟨Nat.le_of_ble_eq_true rfl, Nat.le_of_ble_eq_true rfl⟩ ⟨Nat.le_of_ble_eq_true rfl, Nat.le_of_ble_eq_true rfl⟩ rfl (Nat.le_of_ble_eq_true rfl) (fun q hq => by cases hq) ⟨⟨by decide, by decide, by decide⟩, sNE, wl_1069, Or.inl ⟨rfl, rfl, Or.inl rfl⟩⟩ 13 (Or.inl ⟨3, kdec dc_L_burn 8 rfl, rfl, rfl⟩) (by decide) rfl ?_
  refine kw_iconst C (kdec dc_L_burn 9 rfl) 14 rfl rfl ⟨by decide, by decide⟩ ?_
  exact kw_xret (Nat.le_of_ble_eq_true rfl) (Nat.le_of_ble_eq_true rfl) (kw_ireturn C (kdec dc_L_burn 10 rfl)))
theorem hx_L_rewrite (l0 : Launch) (hfl : l0.stackTraces = false) {σ : kM} {x1 : Int} {x2 : Int} {x3 : Int} {r : Int} {τ : kM} (h : pf_P_rewrite_0 σ x1 x2 x3 = some (.inr r, τ)) (μ : kM) (z : Nat → Int) : kHet l0 ky_L_rewrite method_9_code 6 [(0, 12, 15, 18)] R0_L_rewrite yL (kmg σ μ z) [kr 0, ki x1, ki x2, ki x3, kr 96] 0 (kmg τ μ (kup z 0 r)) 2 12 := kHet.of [some (kr 0), some (ki x1), some (ki x2), some (ki x3), some (kr 96), none] (by decide) (Nat.le_of_ble_eq_true rfl) ⟨rfl, rfl, rfl, rfl, rfl, trivial⟩ (fun x C hT hE => by
  refine kw_aload C (kdec dc_L_rewrite 0 rfl) 2 rfl rfl ?_
  refine kw_iconst C (kdec dc_L_rewrite 1 rfl) 3 rfl rfl ⟨by decide, by decide⟩ ?_
  refine kw_aload_n C (kdec dc_L_rewrite 2 rfl) rfl 4 rfl rfl ?_
  refine kw_iload_n C (kdec dc_L_rewrite 3 rfl) rfl 5 rfl rfl ?_
  refine kw_iload_n C (kdec dc_L_rewrite 4 rfl) rfl 6 rfl rfl ?_
  refine kw_iload_n C (kdec dc_L_rewrite 5 rfl) rfl 7 rfl rfl ?_
  refine kw_callVX (As := [ki x1, ki x2, ki x3]) (S := [ki 0, kr 96]) C (kdec dc_L_rewrite 6 rfl) 10 rfl cv_L_34 rfl rfl ((mx_pf_P_rewrite_0 l0 hfl h).C μ z) ⟨rfl, rfl⟩ ⟨Nat.le_of_ble_eq_true rfl, Nat.le_of_ble_eq_true rfl⟩ ⟨Nat.le_of_ble_eq_true rfl, Nat.le_of_ble_eq_true rfl⟩ rfl (Nat.le_of_ble_eq_true rfl) ?_
  refine kw_i2l C (kdec dc_L_rewrite 7 rfl) 11 rfl ?_
  refine kw_last (k := 96) (n := 1) C (kdec dc_L_rewrite 8 rfl) 12 rfl yL_out (by decide) (by decide) ?_
  refine kw_sig (kmg_out τ μ z (kup z 0 r)).symm ?_
  refine kw_goto C (kdec dc_L_rewrite 9 rfl) 19 (by decide) ?_
  refine kw_iconst C (kdec dc_L_rewrite 13 rfl) 20 rfl rfl ⟨by decide, by decide⟩ ?_
  exact kw_xret (Nat.le_of_ble_eq_true rfl) (Nat.le_of_ble_eq_true rfl) (kw_ireturn C (kdec dc_L_rewrite 14 rfl)))
theorem he1_L_rewrite (l0 : Launch) (hfl : l0.stackTraces = false) {σ : kM} {x1 : Int} {x2 : Int} {x3 : Int} {τ : kM} (h : pf_P_rewrite_0 σ x1 x2 x3 = some (.inl sNE, τ)) (μ : kM) (z : Nat → Int) : kHet l0 ky_L_rewrite method_9_code 6 [(0, 12, 15, 18)] R0_L_rewrite yL (kmg σ μ z) [kr 0, ki x1, ki x2, ki x3, kr 96] 1 (kmg τ μ z) 2 12 := kHet.of [some (kr 0), some (ki x1), some (ki x2), some (ki x3), some (kr 96), none] (by decide) (Nat.le_of_ble_eq_true rfl) ⟨rfl, rfl, rfl, rfl, rfl, trivial⟩ (fun x C hT hE => by
  refine kw_aload C (kdec dc_L_rewrite 0 rfl) 2 rfl rfl ?_
  refine kw_iconst C (kdec dc_L_rewrite 1 rfl) 3 rfl rfl ⟨by decide, by decide⟩ ?_
  refine kw_aload_n C (kdec dc_L_rewrite 2 rfl) rfl 4 rfl rfl ?_
  refine kw_iload_n C (kdec dc_L_rewrite 3 rfl) rfl 5 rfl rfl ?_
  refine kw_iload_n C (kdec dc_L_rewrite 4 rfl) rfl 6 rfl rfl ?_
  refine kw_iload_n C (kdec dc_L_rewrite 5 rfl) rfl 7 rfl rfl ?_
  refine kw_callVX_c (pre := []) (h := (0, 12, 15, 18)) (rest := []) (i := 5) (As := [ki x1, ki x2, ki x3]) (S := [ki 0, kr 96]) C hT hE (kdec dc_L_rewrite 6 rfl) cv_L_34 rfl rfl ((me_pf_P_rewrite_0 l0 hfl h).C μ z) ⟨rfl, rfl⟩ ⟨Nat.le_of_ble_eq_true rfl, Nat.le_of_ble_eq_true rfl⟩ ⟨Nat.le_of_ble_eq_true rfl, Nat.le_of_ble_eq_true rfl⟩ rfl (Nat.le_of_ble_eq_true rfl) (fun q hq => by cases hq) ⟨⟨by decide, by decide, by decide⟩, sNE, wl_1069, Or.inl ⟨rfl, rfl, Or.inl rfl⟩⟩ 17 (Or.inr ⟨kdec dc_L_rewrite 10 rfl, rfl⟩) (by decide) rfl ?_
  refine kw_iconst C (kdec dc_L_rewrite 11 rfl) 18 rfl rfl ⟨by decide, by decide⟩ ?_
  exact kw_xret (Nat.le_of_ble_eq_true rfl) (Nat.le_of_ble_eq_true rfl) (kw_ireturn C (kdec dc_L_rewrite 12 rfl)))
theorem hx_L_pardon (l0 : Launch) (hfl : l0.stackTraces = false) {σ : kM} {x1 : Int} {r : Int} {τ : kM} (h : pf_P_pardon_0 σ x1 = some (.inr r, τ)) (μ : kM) (z : Nat → Int) : kHet l0 ky_L_pardon method_10_code 4 [(0, 9, 12, 18)] R0_L_pardon yL (kmg σ μ z) [kr 0, ki x1, kr 96] 0 (kmg τ μ (kup z 0 r)) 1 6 := kHet.of [some (kr 0), some (ki x1), some (kr 96), none] (by decide) (Nat.le_of_ble_eq_true rfl) ⟨rfl, rfl, rfl, trivial⟩ (fun x C hT hE => by
  refine kw_aload_n C (kdec dc_L_pardon 0 rfl) rfl 1 rfl rfl ?_
  refine kw_iconst C (kdec dc_L_pardon 1 rfl) 2 rfl rfl ⟨by decide, by decide⟩ ?_
  refine kw_aload_n C (kdec dc_L_pardon 2 rfl) rfl 3 rfl rfl ?_
  refine kw_iload_n C (kdec dc_L_pardon 3 rfl) rfl 4 rfl rfl ?_
  refine kw_callVX (As := [ki x1]) (S := [ki 0, kr 96]) C (kdec dc_L_pardon 4 rfl) 7 rfl cv_L_37 rfl rfl ((mx_pf_P_pardon_0 l0 hfl h).C μ z) ⟨rfl, rfl⟩ ⟨Nat.le_of_ble_eq_true rfl, Nat.le_of_ble_eq_true rfl⟩ ⟨Nat.le_of_ble_eq_true rfl, Nat.le_of_ble_eq_true rfl⟩ rfl (Nat.le_of_ble_eq_true rfl) ?_
  refine kw_i2l C (kdec dc_L_pardon 5 rfl) 8 rfl ?_
  refine kw_last (k := 96) (n := 1) C (kdec dc_L_pardon 6 rfl) 9 rfl yL_out (by decide) (by decide) ?_
  refine kw_sig (kmg_out τ μ z (kup z 0 r)).symm ?_
  refine kw_goto C (kdec dc_L_pardon 7 rfl) 15 (by decide) ?_
  refine kw_iconst C (kdec dc_L_pardon 11 rfl) 16 rfl rfl ⟨by decide, by decide⟩ ?_
  exact kw_xret (Nat.le_of_ble_eq_true rfl) (Nat.le_of_ble_eq_true rfl) (kw_ireturn C (kdec dc_L_pardon 12 rfl)))
theorem he1_L_pardon (l0 : Launch) (hfl : l0.stackTraces = false) {σ : kM} {x1 : Int} {τ : kM} (h : pf_P_pardon_0 σ x1 = some (.inl sNE, τ)) (μ : kM) (z : Nat → Int) : kHet l0 ky_L_pardon method_10_code 4 [(0, 9, 12, 18)] R0_L_pardon yL (kmg σ μ z) [kr 0, ki x1, kr 96] 1 (kmg τ μ z) 1 6 := kHet.of [some (kr 0), some (ki x1), some (kr 96), none] (by decide) (Nat.le_of_ble_eq_true rfl) ⟨rfl, rfl, rfl, trivial⟩ (fun x C hT hE => by
  refine kw_aload_n C (kdec dc_L_pardon 0 rfl) rfl 1 rfl rfl ?_
  refine kw_iconst C (kdec dc_L_pardon 1 rfl) 2 rfl rfl ⟨by decide, by decide⟩ ?_
  refine kw_aload_n C (kdec dc_L_pardon 2 rfl) rfl 3 rfl rfl ?_
  refine kw_iload_n C (kdec dc_L_pardon 3 rfl) rfl 4 rfl rfl ?_
  refine kw_callVX_c (pre := []) (h := (0, 9, 12, 18)) (rest := []) (i := 3) (As := [ki x1]) (S := [ki 0, kr 96]) C hT hE (kdec dc_L_pardon 4 rfl) cv_L_37 rfl rfl ((me_pf_P_pardon_0 l0 hfl h).C μ z) ⟨rfl, rfl⟩ ⟨Nat.le_of_ble_eq_true rfl, Nat.le_of_ble_eq_true rfl⟩ ⟨Nat.le_of_ble_eq_true rfl, Nat.le_of_ble_eq_true rfl⟩ rfl (Nat.le_of_ble_eq_true rfl) (fun q hq => by cases hq) ⟨⟨by decide, by decide, by decide⟩, sNE, wl_1069, Or.inl ⟨rfl, rfl, Or.inl rfl⟩⟩ 13 (Or.inl ⟨3, kdec dc_L_pardon 8 rfl, rfl, rfl⟩) (by decide) rfl ?_
  refine kw_iconst C (kdec dc_L_pardon 9 rfl) 14 rfl rfl ⟨by decide, by decide⟩ ?_
  exact kw_xret (Nat.le_of_ble_eq_true rfl) (Nat.le_of_ble_eq_true rfl) (kw_ireturn C (kdec dc_L_pardon 10 rfl)))
theorem hx_L_fill (l0 : Launch) (hfl : l0.stackTraces = false) {σ : kM} {x1 : Int} {x2 : Int} {r : Int} {τ : kM} (h : pf_P_fill_0 σ x1 x2 = some (.inr r, τ)) (μ : kM) (z : Nat → Int) : kHet l0 ky_L_fill method_11_code 5 [(0, 10, 13, 18)] R0_L_fill yL (kmg σ μ z) [kr 0, ki x1, ki x2, kr 96] 0 (kmg τ μ (kup z 0 r)) 1 6 := kHet.of [some (kr 0), some (ki x1), some (ki x2), some (kr 96), none] (by decide) (Nat.le_of_ble_eq_true rfl) ⟨rfl, rfl, rfl, rfl, trivial⟩ (fun x C hT hE => by
  refine kw_aload_n C (kdec dc_L_fill 0 rfl) rfl 1 rfl rfl ?_
  refine kw_iconst C (kdec dc_L_fill 1 rfl) 2 rfl rfl ⟨by decide, by decide⟩ ?_
  refine kw_aload_n C (kdec dc_L_fill 2 rfl) rfl 3 rfl rfl ?_
  refine kw_iload_n C (kdec dc_L_fill 3 rfl) rfl 4 rfl rfl ?_
  refine kw_iload_n C (kdec dc_L_fill 4 rfl) rfl 5 rfl rfl ?_
  refine kw_callVX (As := [ki x1, ki x2]) (S := [ki 0, kr 96]) C (kdec dc_L_fill 5 rfl) 8 rfl cv_L_40 rfl rfl ((mx_pf_P_fill_0 l0 hfl h).C μ z) ⟨rfl, rfl⟩ ⟨Nat.le_of_ble_eq_true rfl, Nat.le_of_ble_eq_true rfl⟩ ⟨Nat.le_of_ble_eq_true rfl, Nat.le_of_ble_eq_true rfl⟩ rfl (Nat.le_of_ble_eq_true rfl) ?_
  refine kw_i2l C (kdec dc_L_fill 6 rfl) 9 rfl ?_
  refine kw_last (k := 96) (n := 1) C (kdec dc_L_fill 7 rfl) 10 rfl yL_out (by decide) (by decide) ?_
  refine kw_sig (kmg_out τ μ z (kup z 0 r)).symm ?_
  refine kw_goto C (kdec dc_L_fill 8 rfl) 17 (by decide) ?_
  refine kw_iconst C (kdec dc_L_fill 12 rfl) 18 rfl rfl ⟨by decide, by decide⟩ ?_
  exact kw_xret (Nat.le_of_ble_eq_true rfl) (Nat.le_of_ble_eq_true rfl) (kw_ireturn C (kdec dc_L_fill 13 rfl)))
theorem he1_L_fill (l0 : Launch) (hfl : l0.stackTraces = false) {σ : kM} {x1 : Int} {x2 : Int} {τ : kM} (h : pf_P_fill_0 σ x1 x2 = some (.inl sNE, τ)) (μ : kM) (z : Nat → Int) : kHet l0 ky_L_fill method_11_code 5 [(0, 10, 13, 18)] R0_L_fill yL (kmg σ μ z) [kr 0, ki x1, ki x2, kr 96] 1 (kmg τ μ z) 1 6 := kHet.of [some (kr 0), some (ki x1), some (ki x2), some (kr 96), none] (by decide) (Nat.le_of_ble_eq_true rfl) ⟨rfl, rfl, rfl, rfl, trivial⟩ (fun x C hT hE => by
  refine kw_aload_n C (kdec dc_L_fill 0 rfl) rfl 1 rfl rfl ?_
  refine kw_iconst C (kdec dc_L_fill 1 rfl) 2 rfl rfl ⟨by decide, by decide⟩ ?_
  refine kw_aload_n C (kdec dc_L_fill 2 rfl) rfl 3 rfl rfl ?_
  refine kw_iload_n C (kdec dc_L_fill 3 rfl) rfl 4 rfl rfl ?_
  refine kw_iload_n C (kdec dc_L_fill 4 rfl) rfl 5 rfl rfl ?_
  refine kw_callVX_c (pre := []) (h := (0, 10, 13, 18)) (rest := []) (i := 4) (As := [ki x1, ki x2]) (S := [ki 0, kr 96]) C hT hE (kdec dc_L_fill 5 rfl) cv_L_40 rfl rfl ((me_pf_P_fill_0 l0 hfl h).C μ z) ⟨rfl, rfl⟩ ⟨Nat.le_of_ble_eq_true rfl, Nat.le_of_ble_eq_true rfl⟩ ⟨Nat.le_of_ble_eq_true rfl, Nat.le_of_ble_eq_true rfl⟩ rfl (Nat.le_of_ble_eq_true rfl) (fun q hq => by cases hq) ⟨⟨by decide, by decide, by decide⟩, sNE, wl_1069, Or.inl ⟨rfl, rfl, Or.inl rfl⟩⟩ 15 (Or.inr ⟨kdec dc_L_fill 9 rfl, rfl⟩) (by decide) rfl ?_
  refine kw_iconst C (kdec dc_L_fill 10 rfl) 16 rfl rfl ⟨by decide, by decide⟩ ?_
  exact kw_xret (Nat.le_of_ble_eq_true rfl) (Nat.le_of_ble_eq_true rfl) (kw_ireturn C (kdec dc_L_fill 11 rfl)))
theorem hx_L_heal (l0 : Launch) (hfl : l0.stackTraces = false) {σ : kM} {x1 : Int} {r : Int} {τ : kM} (h : pf_P_heal_0 σ x1 = some (.inr r, τ)) (μ : kM) (z : Nat → Int) : kHet l0 ky_L_heal method_12_code 4 [(0, 9, 12, 18)] R0_L_heal yL (kmg σ μ z) [kr 0, ki x1, kr 96] 0 (kmg τ μ (kup z 0 r)) 1 6 := kHet.of [some (kr 0), some (ki x1), some (kr 96), none] (by decide) (Nat.le_of_ble_eq_true rfl) ⟨rfl, rfl, rfl, trivial⟩ (fun x C hT hE => by
  refine kw_aload_n C (kdec dc_L_heal 0 rfl) rfl 1 rfl rfl ?_
  refine kw_iconst C (kdec dc_L_heal 1 rfl) 2 rfl rfl ⟨by decide, by decide⟩ ?_
  refine kw_aload_n C (kdec dc_L_heal 2 rfl) rfl 3 rfl rfl ?_
  refine kw_iload_n C (kdec dc_L_heal 3 rfl) rfl 4 rfl rfl ?_
  refine kw_callVX (As := [ki x1]) (S := [ki 0, kr 96]) C (kdec dc_L_heal 4 rfl) 7 rfl cv_L_43 rfl rfl ((mx_pf_P_heal_0 l0 hfl h).C μ z) ⟨rfl, rfl⟩ ⟨Nat.le_of_ble_eq_true rfl, Nat.le_of_ble_eq_true rfl⟩ ⟨Nat.le_of_ble_eq_true rfl, Nat.le_of_ble_eq_true rfl⟩ rfl (Nat.le_of_ble_eq_true rfl) ?_
  refine kw_i2l C (kdec dc_L_heal 5 rfl) 8 rfl ?_
  refine kw_last (k := 96) (n := 1) C (kdec dc_L_heal 6 rfl) 9 rfl yL_out (by decide) (by decide) ?_
  refine kw_sig (kmg_out τ μ z (kup z 0 r)).symm ?_
  refine kw_goto C (kdec dc_L_heal 7 rfl) 15 (by decide) ?_
  refine kw_iconst C (kdec dc_L_heal 11 rfl) 16 rfl rfl ⟨by decide, by decide⟩ ?_
  exact kw_xret (Nat.le_of_ble_eq_true rfl) (Nat.le_of_ble_eq_true rfl) (kw_ireturn C (kdec dc_L_heal 12 rfl)))
theorem he1_L_heal (l0 : Launch) (hfl : l0.stackTraces = false) {σ : kM} {x1 : Int} {τ : kM} (h : pf_P_heal_0 σ x1 = some (.inl sNE, τ)) (μ : kM) (z : Nat → Int) : kHet l0 ky_L_heal method_12_code 4 [(0, 9, 12, 18)] R0_L_heal yL (kmg σ μ z) [kr 0, ki x1, kr 96] 1 (kmg τ μ z) 1 6 := kHet.of [some (kr 0), some (ki x1), some (kr 96), none] (by decide) (Nat.le_of_ble_eq_true rfl) ⟨rfl, rfl, rfl, trivial⟩ (fun x C hT hE => by
  refine kw_aload_n C (kdec dc_L_heal 0 rfl) rfl 1 rfl rfl ?_
  refine kw_iconst C (kdec dc_L_heal 1 rfl) 2 rfl rfl ⟨by decide, by decide⟩ ?_
  refine kw_aload_n C (kdec dc_L_heal 2 rfl) rfl 3 rfl rfl ?_
  refine kw_iload_n C (kdec dc_L_heal 3 rfl) rfl 4 rfl rfl ?_
  refine kw_callVX_c (pre := []) (h := (0, 9, 12, 18)) (rest := []) (i := 3) (As := [ki x1]) (S := [ki 0, kr 96]) C hT hE (kdec dc_L_heal 4 rfl) cv_L_43 rfl rfl ((me_pf_P_heal_0 l0 hfl h).C μ z) ⟨rfl, rfl⟩ ⟨Nat.le_of_ble_eq_true rfl, Nat.le_of_ble_eq_true rfl⟩ ⟨Nat.le_of_ble_eq_true rfl, Nat.le_of_ble_eq_true rfl⟩ rfl (Nat.le_of_ble_eq_true rfl) (fun q hq => by cases hq) ⟨⟨by decide, by decide, by decide⟩, sNE, wl_1069, Or.inl ⟨rfl, rfl, Or.inl rfl⟩⟩ 13 (Or.inl ⟨3, kdec dc_L_heal 8 rfl, rfl, rfl⟩) (by decide) rfl ?_
  refine kw_iconst C (kdec dc_L_heal 9 rfl) 14 rfl rfl ⟨by decide, by decide⟩ ?_
  exact kw_xret (Nat.le_of_ble_eq_true rfl) (Nat.le_of_ble_eq_true rfl) (kw_ireturn C (kdec dc_L_heal 10 rfl)))
theorem hx_L_then (l0 : Launch) (hfl : l0.stackTraces = false) {σ : kM} {x1 : Int} {x2 : Int} {x3 : Int} {r : Int} {τ : kM} (h : pf_P_then_0 σ x1 x2 x3 = some (.inr r, τ)) (μ : kM) (z : Nat → Int) : kHet l0 ky_L_then method_13_code 6 [(0, 12, 15, 18), (0, 12, 19, 13)] R0_L_then yL (kmg σ μ z) [kr 0, ki x1, ki x2, ki x3, kr 96] 0 (kmg τ μ (kup z 0 r)) 3 18 := kHet.of [some (kr 0), some (ki x1), some (ki x2), some (ki x3), some (kr 96), none] (by decide) (Nat.le_of_ble_eq_true rfl) ⟨rfl, rfl, rfl, rfl, rfl, trivial⟩ (fun x C hT hE => by
  refine kw_aload C (kdec dc_L_then 0 rfl) 2 rfl rfl ?_
  refine kw_iconst C (kdec dc_L_then 1 rfl) 3 rfl rfl ⟨by decide, by decide⟩ ?_
  refine kw_aload_n C (kdec dc_L_then 2 rfl) rfl 4 rfl rfl ?_
  refine kw_iload_n C (kdec dc_L_then 3 rfl) rfl 5 rfl rfl ?_
  refine kw_iload_n C (kdec dc_L_then 4 rfl) rfl 6 rfl rfl ?_
  refine kw_iload_n C (kdec dc_L_then 5 rfl) rfl 7 rfl rfl ?_
  refine kw_callVX (As := [ki x1, ki x2, ki x3]) (S := [ki 0, kr 96]) C (kdec dc_L_then 6 rfl) 10 rfl cv_L_46 rfl rfl ((mx_pf_P_then_0 l0 hfl h).C μ z) ⟨rfl, rfl⟩ ⟨Nat.le_of_ble_eq_true rfl, Nat.le_of_ble_eq_true rfl⟩ ⟨Nat.le_of_ble_eq_true rfl, Nat.le_of_ble_eq_true rfl⟩ rfl (Nat.le_of_ble_eq_true rfl) ?_
  refine kw_i2l C (kdec dc_L_then 7 rfl) 11 rfl ?_
  refine kw_last (k := 96) (n := 1) C (kdec dc_L_then 8 rfl) 12 rfl yL_out (by decide) (by decide) ?_
  refine kw_sig (kmg_out τ μ z (kup z 0 r)).symm ?_
  refine kw_goto C (kdec dc_L_then 9 rfl) 23 (by decide) ?_
  refine kw_iconst C (kdec dc_L_then 16 rfl) 24 rfl rfl ⟨by decide, by decide⟩ ?_
  exact kw_xret (Nat.le_of_ble_eq_true rfl) (Nat.le_of_ble_eq_true rfl) (kw_ireturn C (kdec dc_L_then 17 rfl)))
theorem he1_L_then (l0 : Launch) (hfl : l0.stackTraces = false) {σ : kM} {x1 : Int} {x2 : Int} {x3 : Int} {τ : kM} (h : pf_P_then_0 σ x1 x2 x3 = some (.inl sNE, τ)) (μ : kM) (z : Nat → Int) : kHet l0 ky_L_then method_13_code 6 [(0, 12, 15, 18), (0, 12, 19, 13)] R0_L_then yL (kmg σ μ z) [kr 0, ki x1, ki x2, ki x3, kr 96] 1 (kmg τ μ z) 3 18 := kHet.of [some (kr 0), some (ki x1), some (ki x2), some (ki x3), some (kr 96), none] (by decide) (Nat.le_of_ble_eq_true rfl) ⟨rfl, rfl, rfl, rfl, rfl, trivial⟩ (fun x C hT hE => by
  refine kw_aload C (kdec dc_L_then 0 rfl) 2 rfl rfl ?_
  refine kw_iconst C (kdec dc_L_then 1 rfl) 3 rfl rfl ⟨by decide, by decide⟩ ?_
  refine kw_aload_n C (kdec dc_L_then 2 rfl) rfl 4 rfl rfl ?_
  refine kw_iload_n C (kdec dc_L_then 3 rfl) rfl 5 rfl rfl ?_
  refine kw_iload_n C (kdec dc_L_then 4 rfl) rfl 6 rfl rfl ?_
  refine kw_iload_n C (kdec dc_L_then 5 rfl) rfl 7 rfl rfl ?_
  refine kw_callVX_c (pre := []) (h := (0, 12, 15, 18)) (rest := [(0, 12, 19, 13)]) (i := 5) (As := [ki x1, ki x2, ki x3]) (S := [ki 0, kr 96]) C hT hE (kdec dc_L_then 6 rfl) cv_L_46 rfl rfl ((me_pf_P_then_0 l0 hfl h).C μ z) ⟨rfl, rfl⟩ ⟨Nat.le_of_ble_eq_true rfl, Nat.le_of_ble_eq_true rfl⟩ ⟨Nat.le_of_ble_eq_true rfl, Nat.le_of_ble_eq_true rfl⟩ rfl (Nat.le_of_ble_eq_true rfl) (fun q hq => by cases hq) ⟨⟨by decide, by decide, by decide⟩, sNE, wl_1069, Or.inl ⟨rfl, rfl, Or.inl rfl⟩⟩ 17 (Or.inr ⟨kdec dc_L_then 10 rfl, rfl⟩) (by decide) rfl ?_
  refine kw_iconst C (kdec dc_L_then 11 rfl) 18 rfl rfl ⟨by decide, by decide⟩ ?_
  exact kw_xret (Nat.le_of_ble_eq_true rfl) (Nat.le_of_ble_eq_true rfl) (kw_ireturn C (kdec dc_L_then 12 rfl)))
theorem he2_L_then (l0 : Launch) (hfl : l0.stackTraces = false) {σ : kM} {x1 : Int} {x2 : Int} {x3 : Int} {τ : kM} (h : pf_P_then_0 σ x1 x2 x3 = some (.inl sIA, τ)) (μ : kM) (z : Nat → Int) : kHet l0 ky_L_then method_13_code 6 [(0, 12, 15, 18), (0, 12, 19, 13)] R0_L_then yL (kmg σ μ z) [kr 0, ki x1, ki x2, ki x3, kr 96] 2 (kmg τ μ z) 3 18 := kHet.of [some (kr 0), some (ki x1), some (ki x2), some (ki x3), some (kr 96), none] (by decide) (Nat.le_of_ble_eq_true rfl) ⟨rfl, rfl, rfl, rfl, rfl, trivial⟩ (fun x C hT hE => by
  refine kw_aload C (kdec dc_L_then 0 rfl) 2 rfl rfl ?_
  refine kw_iconst C (kdec dc_L_then 1 rfl) 3 rfl rfl ⟨by decide, by decide⟩ ?_
  refine kw_aload_n C (kdec dc_L_then 2 rfl) rfl 4 rfl rfl ?_
  refine kw_iload_n C (kdec dc_L_then 3 rfl) rfl 5 rfl rfl ?_
  refine kw_iload_n C (kdec dc_L_then 4 rfl) rfl 6 rfl rfl ?_
  refine kw_iload_n C (kdec dc_L_then 5 rfl) rfl 7 rfl rfl ?_
  refine kw_callVX_c (pre := [(0, 12, 15, 18)]) (h := (0, 12, 19, 13)) (rest := []) (i := 5) (As := [ki x1, ki x2, ki x3]) (S := [ki 0, kr 96]) C hT hE (kdec dc_L_then 6 rfl) cv_L_46 rfl rfl ((me_pf_P_then_0 l0 hfl h).C μ z) ⟨rfl, rfl⟩ ⟨Nat.le_of_ble_eq_true rfl, Nat.le_of_ble_eq_true rfl⟩ ⟨Nat.le_of_ble_eq_true rfl, Nat.le_of_ble_eq_true rfl⟩ rfl (Nat.le_of_ble_eq_true rfl) (fun q hq => by rw [List.mem_singleton] at hq; subst hq; exact ⟨⟨by decide, by decide, by decide⟩, sNE, wl_1069, Or.inr ⟨rfl, rfl, rfl⟩⟩) ⟨⟨by decide, by decide, by decide⟩, sIA, wl_682, Or.inl ⟨rfl, rfl, Or.inr rfl⟩⟩ 21 (Or.inr ⟨kdec dc_L_then 13 rfl, rfl⟩) (by decide) rfl ?_
  refine kw_iconst C (kdec dc_L_then 14 rfl) 22 rfl rfl ⟨by decide, by decide⟩ ?_
  exact kw_xret (Nat.le_of_ble_eq_true rfl) (Nat.le_of_ble_eq_true rfl) (kw_ireturn C (kdec dc_L_then 15 rfl)))
theorem hx_L_poetThen (l0 : Launch) (hfl : l0.stackTraces = false) {σ : kM} {x1 : Int} {x2 : Int} {x3 : Int} {r : Int} {τ : kM} (h : pf_P_poetThen_0 σ x1 x2 x3 = some (.inr r, τ)) (μ : kM) (z : Nat → Int) : kHet l0 ky_L_poetThen method_14_code 6 [(0, 12, 15, 18), (0, 12, 19, 13)] R0_L_poetThen yL (kmg σ μ z) [kr 0, ki x1, ki x2, ki x3, kr 96] 0 (kmg τ μ (kup z 0 r)) 3 18 := kHet.of [some (kr 0), some (ki x1), some (ki x2), some (ki x3), some (kr 96), none] (by decide) (Nat.le_of_ble_eq_true rfl) ⟨rfl, rfl, rfl, rfl, rfl, trivial⟩ (fun x C hT hE => by
  refine kw_aload C (kdec dc_L_poetThen 0 rfl) 2 rfl rfl ?_
  refine kw_iconst C (kdec dc_L_poetThen 1 rfl) 3 rfl rfl ⟨by decide, by decide⟩ ?_
  refine kw_aload_n C (kdec dc_L_poetThen 2 rfl) rfl 4 rfl rfl ?_
  refine kw_iload_n C (kdec dc_L_poetThen 3 rfl) rfl 5 rfl rfl ?_
  refine kw_iload_n C (kdec dc_L_poetThen 4 rfl) rfl 6 rfl rfl ?_
  refine kw_iload_n C (kdec dc_L_poetThen 5 rfl) rfl 7 rfl rfl ?_
  refine kw_callVX (As := [ki x1, ki x2, ki x3]) (S := [ki 0, kr 96]) C (kdec dc_L_poetThen 6 rfl) 10 rfl cv_L_49 rfl rfl ((mx_pf_P_poetThen_0 l0 hfl h).C μ z) ⟨rfl, rfl⟩ ⟨Nat.le_of_ble_eq_true rfl, Nat.le_of_ble_eq_true rfl⟩ ⟨Nat.le_of_ble_eq_true rfl, Nat.le_of_ble_eq_true rfl⟩ rfl (Nat.le_of_ble_eq_true rfl) ?_
  refine kw_i2l C (kdec dc_L_poetThen 7 rfl) 11 rfl ?_
  refine kw_last (k := 96) (n := 1) C (kdec dc_L_poetThen 8 rfl) 12 rfl yL_out (by decide) (by decide) ?_
  refine kw_sig (kmg_out τ μ z (kup z 0 r)).symm ?_
  refine kw_goto C (kdec dc_L_poetThen 9 rfl) 23 (by decide) ?_
  refine kw_iconst C (kdec dc_L_poetThen 16 rfl) 24 rfl rfl ⟨by decide, by decide⟩ ?_
  exact kw_xret (Nat.le_of_ble_eq_true rfl) (Nat.le_of_ble_eq_true rfl) (kw_ireturn C (kdec dc_L_poetThen 17 rfl)))
theorem he1_L_poetThen (l0 : Launch) (hfl : l0.stackTraces = false) {σ : kM} {x1 : Int} {x2 : Int} {x3 : Int} {τ : kM} (h : pf_P_poetThen_0 σ x1 x2 x3 = some (.inl sNE, τ)) (μ : kM) (z : Nat → Int) : kHet l0 ky_L_poetThen method_14_code 6 [(0, 12, 15, 18), (0, 12, 19, 13)] R0_L_poetThen yL (kmg σ μ z) [kr 0, ki x1, ki x2, ki x3, kr 96] 1 (kmg τ μ z) 3 18 := kHet.of [some (kr 0), some (ki x1), some (ki x2), some (ki x3), some (kr 96), none] (by decide) (Nat.le_of_ble_eq_true rfl) ⟨rfl, rfl, rfl, rfl, rfl, trivial⟩ (fun x C hT hE => by
  refine kw_aload C (kdec dc_L_poetThen 0 rfl) 2 rfl rfl ?_
  refine kw_iconst C (kdec dc_L_poetThen 1 rfl) 3 rfl rfl ⟨by decide, by decide⟩ ?_
  refine kw_aload_n C (kdec dc_L_poetThen 2 rfl) rfl 4 rfl rfl ?_
  refine kw_iload_n C (kdec dc_L_poetThen 3 rfl) rfl 5 rfl rfl ?_
  refine kw_iload_n C (kdec dc_L_poetThen 4 rfl) rfl 6 rfl rfl ?_
  refine kw_iload_n C (kdec dc_L_poetThen 5 rfl) rfl 7 rfl rfl ?_
  refine kw_callVX_c (pre := []) (h := (0, 12, 15, 18)) (rest := [(0, 12, 19, 13)]) (i := 5) (As := [ki x1, ki x2, ki x3]) (S := [ki 0, kr 96]) C hT hE (kdec dc_L_poetThen 6 rfl) cv_L_49 rfl rfl ((me_pf_P_poetThen_0 l0 hfl h).C μ z) ⟨rfl, rfl⟩ ⟨Nat.le_of_ble_eq_true rfl, Nat.le_of_ble_eq_true rfl⟩ ⟨Nat.le_of_ble_eq_true rfl, Nat.le_of_ble_eq_true rfl⟩ rfl (Nat.le_of_ble_eq_true rfl) (fun q hq => by cases hq) ⟨⟨by decide, by decide, by decide⟩, sNE, wl_1069, Or.inl ⟨rfl, rfl, Or.inl rfl⟩⟩ 17 (Or.inr ⟨kdec dc_L_poetThen 10 rfl, rfl⟩) (by decide) rfl ?_
  refine kw_iconst C (kdec dc_L_poetThen 11 rfl) 18 rfl rfl ⟨by decide, by decide⟩ ?_
  exact kw_xret (Nat.le_of_ble_eq_true rfl) (Nat.le_of_ble_eq_true rfl) (kw_ireturn C (kdec dc_L_poetThen 12 rfl)))
theorem he2_L_poetThen (l0 : Launch) (hfl : l0.stackTraces = false) {σ : kM} {x1 : Int} {x2 : Int} {x3 : Int} {τ : kM} (h : pf_P_poetThen_0 σ x1 x2 x3 = some (.inl sIA, τ)) (μ : kM) (z : Nat → Int) : kHet l0 ky_L_poetThen method_14_code 6 [(0, 12, 15, 18), (0, 12, 19, 13)] R0_L_poetThen yL (kmg σ μ z) [kr 0, ki x1, ki x2, ki x3, kr 96] 2 (kmg τ μ z) 3 18 := kHet.of [some (kr 0), some (ki x1), some (ki x2), some (ki x3), some (kr 96), none] (by decide) (Nat.le_of_ble_eq_true rfl) ⟨rfl, rfl, rfl, rfl, rfl, trivial⟩ (fun x C hT hE => by
  refine kw_aload C (kdec dc_L_poetThen 0 rfl) 2 rfl rfl ?_
  refine kw_iconst C (kdec dc_L_poetThen 1 rfl) 3 rfl rfl ⟨by decide, by decide⟩ ?_
  refine kw_aload_n C (kdec dc_L_poetThen 2 rfl) rfl 4 rfl rfl ?_
  refine kw_iload_n C (kdec dc_L_poetThen 3 rfl) rfl 5 rfl rfl ?_
  refine kw_iload_n C (kdec dc_L_poetThen 4 rfl) rfl 6 rfl rfl ?_
  refine kw_iload_n C (kdec dc_L_poetThen 5 rfl) rfl 7 rfl rfl ?_
  refine kw_callVX_c (pre := [(0, 12, 15, 18)]) (h := (0, 12, 19, 13)) (rest := []) (i := 5) (As := [ki x1, ki x2, ki x3]) (S := [ki 0, kr 96]) C hT hE (kdec dc_L_poetThen 6 rfl) cv_L_49 rfl rfl ((me_pf_P_poetThen_0 l0 hfl h).C μ z) ⟨rfl, rfl⟩ ⟨Nat.le_of_ble_eq_true rfl, Nat.le_of_ble_eq_true rfl⟩ ⟨Nat.le_of_ble_eq_true rfl, Nat.le_of_ble_eq_true rfl⟩ rfl (Nat.le_of_ble_eq_true rfl) (fun q hq => by rw [List.mem_singleton] at hq; subst hq; exact ⟨⟨by decide, by decide, by decide⟩, sNE, wl_1069, Or.inr ⟨rfl, rfl, rfl⟩⟩) ⟨⟨by decide, by decide, by decide⟩, sIA, wl_682, Or.inl ⟨rfl, rfl, Or.inr rfl⟩⟩ 21 (Or.inr ⟨kdec dc_L_poetThen 13 rfl, rfl⟩) (by decide) rfl ?_
  refine kw_iconst C (kdec dc_L_poetThen 14 rfl) 22 rfl rfl ⟨by decide, by decide⟩ ?_
  exact kw_xret (Nat.le_of_ble_eq_true rfl) (Nat.le_of_ble_eq_true rfl) (kw_ireturn C (kdec dc_L_poetThen 15 rfl)))
theorem hx_L_hurt (l0 : Launch) (hfl : l0.stackTraces = false) {σ : kM} {x1 : Int} {x2 : Int} {r : Int} {τ : kM} (h : pf_P_hurt_0 σ x1 x2 = some (.inr r, τ)) (μ : kM) (z : Nat → Int) : kHet l0 ky_L_hurt method_15_code 5 [(0, 10, 13, 18)] R0_L_hurt yL (kmg σ μ z) [kr 0, ki x1, ki x2, kr 96] 0 (kmg τ μ (kup z 0 r)) 2 12 := kHet.of [some (kr 0), some (ki x1), some (ki x2), some (kr 96), none] (by decide) (Nat.le_of_ble_eq_true rfl) ⟨rfl, rfl, rfl, rfl, trivial⟩ (fun x C hT hE => by
  refine kw_aload_n C (kdec dc_L_hurt 0 rfl) rfl 1 rfl rfl ?_
  refine kw_iconst C (kdec dc_L_hurt 1 rfl) 2 rfl rfl ⟨by decide, by decide⟩ ?_
  refine kw_aload_n C (kdec dc_L_hurt 2 rfl) rfl 3 rfl rfl ?_
  refine kw_iload_n C (kdec dc_L_hurt 3 rfl) rfl 4 rfl rfl ?_
  refine kw_iload_n C (kdec dc_L_hurt 4 rfl) rfl 5 rfl rfl ?_
  refine kw_callVX (As := [ki x1, ki x2]) (S := [ki 0, kr 96]) C (kdec dc_L_hurt 5 rfl) 8 rfl cv_L_52 rfl rfl ((mx_pf_P_hurt_0 l0 hfl h).C μ z) ⟨rfl, rfl⟩ ⟨Nat.le_of_ble_eq_true rfl, Nat.le_of_ble_eq_true rfl⟩ ⟨Nat.le_of_ble_eq_true rfl, Nat.le_of_ble_eq_true rfl⟩ rfl (Nat.le_of_ble_eq_true rfl) ?_
  refine kw_i2l C (kdec dc_L_hurt 6 rfl) 9 rfl ?_
  refine kw_last (k := 96) (n := 1) C (kdec dc_L_hurt 7 rfl) 10 rfl yL_out (by decide) (by decide) ?_
  refine kw_sig (kmg_out τ μ z (kup z 0 r)).symm ?_
  refine kw_goto C (kdec dc_L_hurt 8 rfl) 17 (by decide) ?_
  refine kw_iconst C (kdec dc_L_hurt 12 rfl) 18 rfl rfl ⟨by decide, by decide⟩ ?_
  exact kw_xret (Nat.le_of_ble_eq_true rfl) (Nat.le_of_ble_eq_true rfl) (kw_ireturn C (kdec dc_L_hurt 13 rfl)))
theorem he1_L_hurt (l0 : Launch) (hfl : l0.stackTraces = false) {σ : kM} {x1 : Int} {x2 : Int} {τ : kM} (h : pf_P_hurt_0 σ x1 x2 = some (.inl sNE, τ)) (μ : kM) (z : Nat → Int) : kHet l0 ky_L_hurt method_15_code 5 [(0, 10, 13, 18)] R0_L_hurt yL (kmg σ μ z) [kr 0, ki x1, ki x2, kr 96] 1 (kmg τ μ z) 2 12 := kHet.of [some (kr 0), some (ki x1), some (ki x2), some (kr 96), none] (by decide) (Nat.le_of_ble_eq_true rfl) ⟨rfl, rfl, rfl, rfl, trivial⟩ (fun x C hT hE => by
  refine kw_aload_n C (kdec dc_L_hurt 0 rfl) rfl 1 rfl rfl ?_
  refine kw_iconst C (kdec dc_L_hurt 1 rfl) 2 rfl rfl ⟨by decide, by decide⟩ ?_
  refine kw_aload_n C (kdec dc_L_hurt 2 rfl) rfl 3 rfl rfl ?_
  refine kw_iload_n C (kdec dc_L_hurt 3 rfl) rfl 4 rfl rfl ?_
  refine kw_iload_n C (kdec dc_L_hurt 4 rfl) rfl 5 rfl rfl ?_
  refine kw_callVX_c (pre := []) (h := (0, 10, 13, 18)) (rest := []) (i := 4) (As := [ki x1, ki x2]) (S := [ki 0, kr 96]) C hT hE (kdec dc_L_hurt 5 rfl) cv_L_52 rfl rfl ((me_pf_P_hurt_0 l0 hfl h).C μ z) ⟨rfl, rfl⟩ ⟨Nat.le_of_ble_eq_true rfl, Nat.le_of_ble_eq_true rfl⟩ ⟨Nat.le_of_ble_eq_true rfl, Nat.le_of_ble_eq_true rfl⟩ rfl (Nat.le_of_ble_eq_true rfl) (fun q hq => by cases hq) ⟨⟨by decide, by decide, by decide⟩, sNE, wl_1069, Or.inl ⟨rfl, rfl, Or.inl rfl⟩⟩ 15 (Or.inr ⟨kdec dc_L_hurt 9 rfl, rfl⟩) (by decide) rfl ?_
  refine kw_iconst C (kdec dc_L_hurt 10 rfl) 16 rfl rfl ⟨by decide, by decide⟩ ?_
  exact kw_xret (Nat.le_of_ble_eq_true rfl) (Nat.le_of_ble_eq_true rfl) (kw_ireturn C (kdec dc_L_hurt 11 rfl)))
theorem hx_L_later (l0 : Launch) (hfl : l0.stackTraces = false) {σ : kM} {x1 : Int} {x2 : Int} {r : Int} {τ : kM} (h : pf_P_later_0 σ x1 x2 = some (.inr r, τ)) (μ : kM) (z : Nat → Int) : kHet l0 ky_L_later method_16_code 5 [(0, 10, 13, 18), (0, 10, 17, 13)] R0_L_later yL (kmg σ μ z) [kr 0, ki x1, ki x2, kr 96] 0 (kmg τ μ (kup z 0 r)) 2 12 := kHet.of [some (kr 0), some (ki x1), some (ki x2), some (kr 96), none] (by decide) (Nat.le_of_ble_eq_true rfl) ⟨rfl, rfl, rfl, rfl, trivial⟩ (fun x C hT hE => by
  refine kw_aload_n C (kdec dc_L_later 0 rfl) rfl 1 rfl rfl ?_
  refine kw_iconst C (kdec dc_L_later 1 rfl) 2 rfl rfl ⟨by decide, by decide⟩ ?_
  refine kw_aload_n C (kdec dc_L_later 2 rfl) rfl 3 rfl rfl ?_
  refine kw_iload_n C (kdec dc_L_later 3 rfl) rfl 4 rfl rfl ?_
  refine kw_iload_n C (kdec dc_L_later 4 rfl) rfl 5 rfl rfl ?_
  refine kw_callVX (As := [ki x1, ki x2]) (S := [ki 0, kr 96]) C (kdec dc_L_later 5 rfl) 8 rfl cv_L_55 rfl rfl ((mx_pf_P_later_0 l0 hfl h).C μ z) ⟨rfl, rfl⟩ ⟨Nat.le_of_ble_eq_true rfl, Nat.le_of_ble_eq_true rfl⟩ ⟨Nat.le_of_ble_eq_true rfl, Nat.le_of_ble_eq_true rfl⟩ rfl (Nat.le_of_ble_eq_true rfl) ?_
  refine kw_i2l C (kdec dc_L_later 6 rfl) 9 rfl ?_
  refine kw_last (k := 96) (n := 1) C (kdec dc_L_later 7 rfl) 10 rfl yL_out (by decide) (by decide) ?_
  refine kw_sig (kmg_out τ μ z (kup z 0 r)).symm ?_
  refine kw_goto C (kdec dc_L_later 8 rfl) 21 (by decide) ?_
  refine kw_iconst C (kdec dc_L_later 15 rfl) 22 rfl rfl ⟨by decide, by decide⟩ ?_
  exact kw_xret (Nat.le_of_ble_eq_true rfl) (Nat.le_of_ble_eq_true rfl) (kw_ireturn C (kdec dc_L_later 16 rfl)))
theorem he1_L_later (l0 : Launch) (hfl : l0.stackTraces = false) {σ : kM} {x1 : Int} {x2 : Int} {τ : kM} (h : pf_P_later_0 σ x1 x2 = some (.inl sNE, τ)) (μ : kM) (z : Nat → Int) : kHet l0 ky_L_later method_16_code 5 [(0, 10, 13, 18), (0, 10, 17, 13)] R0_L_later yL (kmg σ μ z) [kr 0, ki x1, ki x2, kr 96] 1 (kmg τ μ z) 2 12 := kHet.of [some (kr 0), some (ki x1), some (ki x2), some (kr 96), none] (by decide) (Nat.le_of_ble_eq_true rfl) ⟨rfl, rfl, rfl, rfl, trivial⟩ (fun x C hT hE => by
  refine kw_aload_n C (kdec dc_L_later 0 rfl) rfl 1 rfl rfl ?_
  refine kw_iconst C (kdec dc_L_later 1 rfl) 2 rfl rfl ⟨by decide, by decide⟩ ?_
  refine kw_aload_n C (kdec dc_L_later 2 rfl) rfl 3 rfl rfl ?_
  refine kw_iload_n C (kdec dc_L_later 3 rfl) rfl 4 rfl rfl ?_
  refine kw_iload_n C (kdec dc_L_later 4 rfl) rfl 5 rfl rfl ?_
  refine kw_callVX_c (pre := []) (h := (0, 10, 13, 18)) (rest := [(0, 10, 17, 13)]) (i := 4) (As := [ki x1, ki x2]) (S := [ki 0, kr 96]) C hT hE (kdec dc_L_later 5 rfl) cv_L_55 rfl rfl ((me_pf_P_later_0 l0 hfl h).C μ z) ⟨rfl, rfl⟩ ⟨Nat.le_of_ble_eq_true rfl, Nat.le_of_ble_eq_true rfl⟩ ⟨Nat.le_of_ble_eq_true rfl, Nat.le_of_ble_eq_true rfl⟩ rfl (Nat.le_of_ble_eq_true rfl) (fun q hq => by cases hq) ⟨⟨by decide, by decide, by decide⟩, sNE, wl_1069, Or.inl ⟨rfl, rfl, Or.inl rfl⟩⟩ 15 (Or.inr ⟨kdec dc_L_later 9 rfl, rfl⟩) (by decide) rfl ?_
  refine kw_iconst C (kdec dc_L_later 10 rfl) 16 rfl rfl ⟨by decide, by decide⟩ ?_
  exact kw_xret (Nat.le_of_ble_eq_true rfl) (Nat.le_of_ble_eq_true rfl) (kw_ireturn C (kdec dc_L_later 11 rfl)))
theorem he2_L_later (l0 : Launch) (hfl : l0.stackTraces = false) {σ : kM} {x1 : Int} {x2 : Int} {τ : kM} (h : pf_P_later_0 σ x1 x2 = some (.inl sIA, τ)) (μ : kM) (z : Nat → Int) : kHet l0 ky_L_later method_16_code 5 [(0, 10, 13, 18), (0, 10, 17, 13)] R0_L_later yL (kmg σ μ z) [kr 0, ki x1, ki x2, kr 96] 2 (kmg τ μ z) 2 12 := kHet.of [some (kr 0), some (ki x1), some (ki x2), some (kr 96), none] (by decide) (Nat.le_of_ble_eq_true rfl) ⟨rfl, rfl, rfl, rfl, trivial⟩ (fun x C hT hE => by
  refine kw_aload_n C (kdec dc_L_later 0 rfl) rfl 1 rfl rfl ?_
  refine kw_iconst C (kdec dc_L_later 1 rfl) 2 rfl rfl ⟨by decide, by decide⟩ ?_
  refine kw_aload_n C (kdec dc_L_later 2 rfl) rfl 3 rfl rfl ?_
  refine kw_iload_n C (kdec dc_L_later 3 rfl) rfl 4 rfl rfl ?_
  refine kw_iload_n C (kdec dc_L_later 4 rfl) rfl 5 rfl rfl ?_
  refine kw_callVX_c (pre := [(0, 10, 13, 18)]) (h := (0, 10, 17, 13)) (rest := []) (i := 4) (As := [ki x1, ki x2]) (S := [ki 0, kr 96]) C hT hE (kdec dc_L_later 5 rfl) cv_L_55 rfl rfl ((me_pf_P_later_0 l0 hfl h).C μ z) ⟨rfl, rfl⟩ ⟨Nat.le_of_ble_eq_true rfl, Nat.le_of_ble_eq_true rfl⟩ ⟨Nat.le_of_ble_eq_true rfl, Nat.le_of_ble_eq_true rfl⟩ rfl (Nat.le_of_ble_eq_true rfl) (fun q hq => by rw [List.mem_singleton] at hq; subst hq; exact ⟨⟨by decide, by decide, by decide⟩, sNE, wl_1069, Or.inr ⟨rfl, rfl, rfl⟩⟩) ⟨⟨by decide, by decide, by decide⟩, sIA, wl_682, Or.inl ⟨rfl, rfl, Or.inr rfl⟩⟩ 19 (Or.inr ⟨kdec dc_L_later 12 rfl, rfl⟩) (by decide) rfl ?_
  refine kw_iconst C (kdec dc_L_later 13 rfl) 20 rfl rfl ⟨by decide, by decide⟩ ?_
  exact kw_xret (Nat.le_of_ble_eq_true rfl) (Nat.le_of_ble_eq_true rfl) (kw_ireturn C (kdec dc_L_later 14 rfl)))
theorem hx_L_worst (l0 : Launch) (hfl : l0.stackTraces = false) {σ : kM} {x1 : Int} {x2 : Int} {r : Int} {τ : kM} (h : pf_P_worst_0 σ x1 x2 = some (.inr r, τ)) (μ : kM) (z : Nat → Int) : kHet l0 ky_L_worst method_17_code 5 [(0, 10, 13, 18), (0, 10, 17, 13)] R0_L_worst yL (kmg σ μ z) [kr 0, ki x1, ki x2, kr 96] 0 (kmg τ μ (kup z 0 r)) 2 12 := kHet.of [some (kr 0), some (ki x1), some (ki x2), some (kr 96), none] (by decide) (Nat.le_of_ble_eq_true rfl) ⟨rfl, rfl, rfl, rfl, trivial⟩ (fun x C hT hE => by
  refine kw_aload_n C (kdec dc_L_worst 0 rfl) rfl 1 rfl rfl ?_
  refine kw_iconst C (kdec dc_L_worst 1 rfl) 2 rfl rfl ⟨by decide, by decide⟩ ?_
  refine kw_aload_n C (kdec dc_L_worst 2 rfl) rfl 3 rfl rfl ?_
  refine kw_iload_n C (kdec dc_L_worst 3 rfl) rfl 4 rfl rfl ?_
  refine kw_iload_n C (kdec dc_L_worst 4 rfl) rfl 5 rfl rfl ?_
  refine kw_callVX (As := [ki x1, ki x2]) (S := [ki 0, kr 96]) C (kdec dc_L_worst 5 rfl) 8 rfl cv_L_58 rfl rfl ((mx_pf_P_worst_0 l0 hfl h).C μ z) ⟨rfl, rfl⟩ ⟨Nat.le_of_ble_eq_true rfl, Nat.le_of_ble_eq_true rfl⟩ ⟨Nat.le_of_ble_eq_true rfl, Nat.le_of_ble_eq_true rfl⟩ rfl (Nat.le_of_ble_eq_true rfl) ?_
  refine kw_i2l C (kdec dc_L_worst 6 rfl) 9 rfl ?_
  refine kw_last (k := 96) (n := 1) C (kdec dc_L_worst 7 rfl) 10 rfl yL_out (by decide) (by decide) ?_
  refine kw_sig (kmg_out τ μ z (kup z 0 r)).symm ?_
  refine kw_goto C (kdec dc_L_worst 8 rfl) 21 (by decide) ?_
  refine kw_iconst C (kdec dc_L_worst 15 rfl) 22 rfl rfl ⟨by decide, by decide⟩ ?_
  exact kw_xret (Nat.le_of_ble_eq_true rfl) (Nat.le_of_ble_eq_true rfl) (kw_ireturn C (kdec dc_L_worst 16 rfl)))
theorem he1_L_worst (l0 : Launch) (hfl : l0.stackTraces = false) {σ : kM} {x1 : Int} {x2 : Int} {τ : kM} (h : pf_P_worst_0 σ x1 x2 = some (.inl sNE, τ)) (μ : kM) (z : Nat → Int) : kHet l0 ky_L_worst method_17_code 5 [(0, 10, 13, 18), (0, 10, 17, 13)] R0_L_worst yL (kmg σ μ z) [kr 0, ki x1, ki x2, kr 96] 1 (kmg τ μ z) 2 12 := kHet.of [some (kr 0), some (ki x1), some (ki x2), some (kr 96), none] (by decide) (Nat.le_of_ble_eq_true rfl) ⟨rfl, rfl, rfl, rfl, trivial⟩ (fun x C hT hE => by
  refine kw_aload_n C (kdec dc_L_worst 0 rfl) rfl 1 rfl rfl ?_
  refine kw_iconst C (kdec dc_L_worst 1 rfl) 2 rfl rfl ⟨by decide, by decide⟩ ?_
  refine kw_aload_n C (kdec dc_L_worst 2 rfl) rfl 3 rfl rfl ?_
  refine kw_iload_n C (kdec dc_L_worst 3 rfl) rfl 4 rfl rfl ?_
  refine kw_iload_n C (kdec dc_L_worst 4 rfl) rfl 5 rfl rfl ?_
  refine kw_callVX_c (pre := []) (h := (0, 10, 13, 18)) (rest := [(0, 10, 17, 13)]) (i := 4) (As := [ki x1, ki x2]) (S := [ki 0, kr 96]) C hT hE (kdec dc_L_worst 5 rfl) cv_L_58 rfl rfl ((me_pf_P_worst_0 l0 hfl h).C μ z) ⟨rfl, rfl⟩ ⟨Nat.le_of_ble_eq_true rfl, Nat.le_of_ble_eq_true rfl⟩ ⟨Nat.le_of_ble_eq_true rfl, Nat.le_of_ble_eq_true rfl⟩ rfl (Nat.le_of_ble_eq_true rfl) (fun q hq => by cases hq) ⟨⟨by decide, by decide, by decide⟩, sNE, wl_1069, Or.inl ⟨rfl, rfl, Or.inl rfl⟩⟩ 15 (Or.inr ⟨kdec dc_L_worst 9 rfl, rfl⟩) (by decide) rfl ?_
  refine kw_iconst C (kdec dc_L_worst 10 rfl) 16 rfl rfl ⟨by decide, by decide⟩ ?_
  exact kw_xret (Nat.le_of_ble_eq_true rfl) (Nat.le_of_ble_eq_true rfl) (kw_ireturn C (kdec dc_L_worst 11 rfl)))
theorem he2_L_worst (l0 : Launch) (hfl : l0.stackTraces = false) {σ : kM} {x1 : Int} {x2 : Int} {τ : kM} (h : pf_P_worst_0 σ x1 x2 = some (.inl sIA, τ)) (μ : kM) (z : Nat → Int) : kHet l0 ky_L_worst method_17_code 5 [(0, 10, 13, 18), (0, 10, 17, 13)] R0_L_worst yL (kmg σ μ z) [kr 0, ki x1, ki x2, kr 96] 2 (kmg τ μ z) 2 12 := kHet.of [some (kr 0), some (ki x1), some (ki x2), some (kr 96), none] (by decide) (Nat.le_of_ble_eq_true rfl) ⟨rfl, rfl, rfl, rfl, trivial⟩ (fun x C hT hE => by
  refine kw_aload_n C (kdec dc_L_worst 0 rfl) rfl 1 rfl rfl ?_
  refine kw_iconst C (kdec dc_L_worst 1 rfl) 2 rfl rfl ⟨by decide, by decide⟩ ?_
  refine kw_aload_n C (kdec dc_L_worst 2 rfl) rfl 3 rfl rfl ?_
  refine kw_iload_n C (kdec dc_L_worst 3 rfl) rfl 4 rfl rfl ?_
  refine kw_iload_n C (kdec dc_L_worst 4 rfl) rfl 5 rfl rfl ?_
  refine kw_callVX_c (pre := [(0, 10, 13, 18)]) (h := (0, 10, 17, 13)) (rest := []) (i := 4) (As := [ki x1, ki x2]) (S := [ki 0, kr 96]) C hT hE (kdec dc_L_worst 5 rfl) cv_L_58 rfl rfl ((me_pf_P_worst_0 l0 hfl h).C μ z) ⟨rfl, rfl⟩ ⟨Nat.le_of_ble_eq_true rfl, Nat.le_of_ble_eq_true rfl⟩ ⟨Nat.le_of_ble_eq_true rfl, Nat.le_of_ble_eq_true rfl⟩ rfl (Nat.le_of_ble_eq_true rfl) (fun q hq => by rw [List.mem_singleton] at hq; subst hq; exact ⟨⟨by decide, by decide, by decide⟩, sNE, wl_1069, Or.inr ⟨rfl, rfl, rfl⟩⟩) ⟨⟨by decide, by decide, by decide⟩, sIA, wl_682, Or.inl ⟨rfl, rfl, Or.inr rfl⟩⟩ 19 (Or.inr ⟨kdec dc_L_worst 12 rfl, rfl⟩) (by decide) rfl ?_
  refine kw_iconst C (kdec dc_L_worst 13 rfl) 20 rfl rfl ⟨by decide, by decide⟩ ?_
  exact kw_xret (Nat.le_of_ble_eq_true rfl) (Nat.le_of_ble_eq_true rfl) (kw_ireturn C (kdec dc_L_worst 14 rfl)))
theorem hx_L_probe (l0 : Launch) (hfl : l0.stackTraces = false) {σ : kM} {x1 : Int} {x2 : Int} {x3 : Int} {x4 : Int} {r : Int} {τ : kM} (h : pf_P_probe_0 σ x1 x2 x3 x4 = some (.inr r, τ)) (μ : kM) (z : Nat → Int) : kHet l0 ky_L_probe method_18_code 7 [(0, 14, 17, 18), (0, 14, 21, 13)] R0_L_probe yL (kmg σ μ z) [kr 0, ki x1, ki x2, ki x3, ki x4, kr 96] 0 (kmg τ μ (kup z 0 r)) 4 24 := kHet.of [some (kr 0), some (ki x1), some (ki x2), some (ki x3), some (ki x4), some (kr 96), none] (by decide) (Nat.le_of_ble_eq_true rfl) ⟨rfl, rfl, rfl, rfl, rfl, rfl, trivial⟩ (fun x C hT hE => by
  refine kw_aload C (kdec dc_L_probe 0 rfl) 2 rfl rfl ?_
  refine kw_iconst C (kdec dc_L_probe 1 rfl) 3 rfl rfl ⟨by decide, by decide⟩ ?_
  refine kw_aload_n C (kdec dc_L_probe 2 rfl) rfl 4 rfl rfl ?_
  refine kw_iload_n C (kdec dc_L_probe 3 rfl) rfl 5 rfl rfl ?_
  refine kw_iload_n C (kdec dc_L_probe 4 rfl) rfl 6 rfl rfl ?_
  refine kw_iload_n C (kdec dc_L_probe 5 rfl) rfl 7 rfl rfl ?_
  refine kw_iload C (kdec dc_L_probe 6 rfl) 9 rfl rfl ?_
  refine kw_callVX (As := [ki x1, ki x2, ki x3, ki x4]) (S := [ki 0, kr 96]) C (kdec dc_L_probe 7 rfl) 12 rfl cv_L_61 rfl rfl ((mx_pf_P_probe_0 l0 hfl h).C μ z) ⟨rfl, rfl⟩ ⟨Nat.le_of_ble_eq_true rfl, Nat.le_of_ble_eq_true rfl⟩ ⟨Nat.le_of_ble_eq_true rfl, Nat.le_of_ble_eq_true rfl⟩ rfl (Nat.le_of_ble_eq_true rfl) ?_
  refine kw_i2l C (kdec dc_L_probe 8 rfl) 13 rfl ?_
  refine kw_last (k := 96) (n := 1) C (kdec dc_L_probe 9 rfl) 14 rfl yL_out (by decide) (by decide) ?_
  refine kw_sig (kmg_out τ μ z (kup z 0 r)).symm ?_
  refine kw_goto C (kdec dc_L_probe 10 rfl) 25 (by decide) ?_
  refine kw_iconst C (kdec dc_L_probe 17 rfl) 26 rfl rfl ⟨by decide, by decide⟩ ?_
  exact kw_xret (Nat.le_of_ble_eq_true rfl) (Nat.le_of_ble_eq_true rfl) (kw_ireturn C (kdec dc_L_probe 18 rfl)))
theorem he1_L_probe (l0 : Launch) (hfl : l0.stackTraces = false) {σ : kM} {x1 : Int} {x2 : Int} {x3 : Int} {x4 : Int} {τ : kM} (h : pf_P_probe_0 σ x1 x2 x3 x4 = some (.inl sNE, τ)) (μ : kM) (z : Nat → Int) : kHet l0 ky_L_probe method_18_code 7 [(0, 14, 17, 18), (0, 14, 21, 13)] R0_L_probe yL (kmg σ μ z) [kr 0, ki x1, ki x2, ki x3, ki x4, kr 96] 1 (kmg τ μ z) 4 24 := kHet.of [some (kr 0), some (ki x1), some (ki x2), some (ki x3), some (ki x4), some (kr 96), none] (by decide) (Nat.le_of_ble_eq_true rfl) ⟨rfl, rfl, rfl, rfl, rfl, rfl, trivial⟩ (fun x C hT hE => by
  refine kw_aload C (kdec dc_L_probe 0 rfl) 2 rfl rfl ?_
  refine kw_iconst C (kdec dc_L_probe 1 rfl) 3 rfl rfl ⟨by decide, by decide⟩ ?_
  refine kw_aload_n C (kdec dc_L_probe 2 rfl) rfl 4 rfl rfl ?_
  refine kw_iload_n C (kdec dc_L_probe 3 rfl) rfl 5 rfl rfl ?_
  refine kw_iload_n C (kdec dc_L_probe 4 rfl) rfl 6 rfl rfl ?_
  refine kw_iload_n C (kdec dc_L_probe 5 rfl) rfl 7 rfl rfl ?_
  refine kw_iload C (kdec dc_L_probe 6 rfl) 9 rfl rfl ?_
  refine kw_callVX_c (pre := []) (h := (0, 14, 17, 18)) (rest := [(0, 14, 21, 13)]) (i := 6) (As := [ki x1, ki x2, ki x3, ki x4]) (S := [ki 0, kr 96]) C hT hE (kdec dc_L_probe 7 rfl) cv_L_61 rfl rfl ((me_pf_P_probe_0 l0 hfl h).C μ z) ⟨rfl, rfl⟩ ⟨Nat.le_of_ble_eq_true rfl, Nat.le_of_ble_eq_true rfl⟩ ⟨Nat.le_of_ble_eq_true rfl, Nat.le_of_ble_eq_true rfl⟩ rfl (Nat.le_of_ble_eq_true rfl) (fun q hq => by cases hq) ⟨⟨by decide, by decide, by decide⟩, sNE, wl_1069, Or.inl ⟨rfl, rfl, Or.inl rfl⟩⟩ 19 (Or.inr ⟨kdec dc_L_probe 11 rfl, rfl⟩) (by decide) rfl ?_
  refine kw_iconst C (kdec dc_L_probe 12 rfl) 20 rfl rfl ⟨by decide, by decide⟩ ?_
  exact kw_xret (Nat.le_of_ble_eq_true rfl) (Nat.le_of_ble_eq_true rfl) (kw_ireturn C (kdec dc_L_probe 13 rfl)))
theorem he2_L_probe (l0 : Launch) (hfl : l0.stackTraces = false) {σ : kM} {x1 : Int} {x2 : Int} {x3 : Int} {x4 : Int} {τ : kM} (h : pf_P_probe_0 σ x1 x2 x3 x4 = some (.inl sIA, τ)) (μ : kM) (z : Nat → Int) : kHet l0 ky_L_probe method_18_code 7 [(0, 14, 17, 18), (0, 14, 21, 13)] R0_L_probe yL (kmg σ μ z) [kr 0, ki x1, ki x2, ki x3, ki x4, kr 96] 2 (kmg τ μ z) 4 24 := kHet.of [some (kr 0), some (ki x1), some (ki x2), some (ki x3), some (ki x4), some (kr 96), none] (by decide) (Nat.le_of_ble_eq_true rfl) ⟨rfl, rfl, rfl, rfl, rfl, rfl, trivial⟩ (fun x C hT hE => by
  refine kw_aload C (kdec dc_L_probe 0 rfl) 2 rfl rfl ?_
  refine kw_iconst C (kdec dc_L_probe 1 rfl) 3 rfl rfl ⟨by decide, by decide⟩ ?_
  refine kw_aload_n C (kdec dc_L_probe 2 rfl) rfl 4 rfl rfl ?_
  refine kw_iload_n C (kdec dc_L_probe 3 rfl) rfl 5 rfl rfl ?_
  refine kw_iload_n C (kdec dc_L_probe 4 rfl) rfl 6 rfl rfl ?_
  refine kw_iload_n C (kdec dc_L_probe 5 rfl) rfl 7 rfl rfl ?_
  refine kw_iload C (kdec dc_L_probe 6 rfl) 9 rfl rfl ?_
  refine kw_callVX_c (pre := [(0, 14, 17, 18)]) (h := (0, 14, 21, 13)) (rest := []) (i := 6) (As := [ki x1, ki x2, ki x3, ki x4]) (S := [ki 0, kr 96]) C hT hE (kdec dc_L_probe 7 rfl) cv_L_61 rfl rfl ((me_pf_P_probe_0 l0 hfl h).C μ z) ⟨rfl, rfl⟩ ⟨Nat.le_of_ble_eq_true rfl, Nat.le_of_ble_eq_true rfl⟩ ⟨Nat.le_of_ble_eq_true rfl, Nat.le_of_ble_eq_true rfl⟩ rfl (Nat.le_of_ble_eq_true rfl) (fun q hq => by rw [List.mem_singleton] at hq; subst hq; exact ⟨⟨by decide, by decide, by decide⟩, sNE, wl_1069, Or.inr ⟨rfl, rfl, rfl⟩⟩) ⟨⟨by decide, by decide, by decide⟩, sIA, wl_682, Or.inl ⟨rfl, rfl, Or.inr rfl⟩⟩ 23 (Or.inr ⟨kdec dc_L_probe 14 rfl, rfl⟩) (by decide) rfl ?_
  refine kw_iconst C (kdec dc_L_probe 15 rfl) 24 rfl rfl ⟨by decide, by decide⟩ ?_
  exact kw_xret (Nat.le_of_ble_eq_true rfl) (Nat.le_of_ble_eq_true rfl) (kw_ireturn C (kdec dc_L_probe 16 rfl)))
theorem hx_L_safe (l0 : Launch) (hfl : l0.stackTraces = false) {σ : kM} {x1 : Int} {x2 : Int} {r : Int} {τ : kM} (h : pf_P_safe_0 σ x1 x2 = some (.inr r, τ)) (μ : kM) (z : Nat → Int) : kHet l0 ky_L_safe method_19_code 5 [(0, 10, 13, 18), (0, 10, 17, 13)] R0_L_safe yL (kmg σ μ z) [kr 0, ki x1, ki x2, kr 96] 0 (kmg τ μ (kup z 0 r)) 2 12 := kHet.of [some (kr 0), some (ki x1), some (ki x2), some (kr 96), none] (by decide) (Nat.le_of_ble_eq_true rfl) ⟨rfl, rfl, rfl, rfl, trivial⟩ (fun x C hT hE => by
  refine kw_aload_n C (kdec dc_L_safe 0 rfl) rfl 1 rfl rfl ?_
  refine kw_iconst C (kdec dc_L_safe 1 rfl) 2 rfl rfl ⟨by decide, by decide⟩ ?_
  refine kw_aload_n C (kdec dc_L_safe 2 rfl) rfl 3 rfl rfl ?_
  refine kw_iload_n C (kdec dc_L_safe 3 rfl) rfl 4 rfl rfl ?_
  refine kw_iload_n C (kdec dc_L_safe 4 rfl) rfl 5 rfl rfl ?_
  refine kw_callVX (As := [ki x1, ki x2]) (S := [ki 0, kr 96]) C (kdec dc_L_safe 5 rfl) 8 rfl cv_L_65 rfl rfl ((mx_pf_P_safe_0 l0 hfl h).C μ z) ⟨rfl, rfl⟩ ⟨Nat.le_of_ble_eq_true rfl, Nat.le_of_ble_eq_true rfl⟩ ⟨Nat.le_of_ble_eq_true rfl, Nat.le_of_ble_eq_true rfl⟩ rfl (Nat.le_of_ble_eq_true rfl) ?_
  refine kw_i2l C (kdec dc_L_safe 6 rfl) 9 rfl ?_
  refine kw_last (k := 96) (n := 1) C (kdec dc_L_safe 7 rfl) 10 rfl yL_out (by decide) (by decide) ?_
  refine kw_sig (kmg_out τ μ z (kup z 0 r)).symm ?_
  refine kw_goto C (kdec dc_L_safe 8 rfl) 21 (by decide) ?_
  refine kw_iconst C (kdec dc_L_safe 15 rfl) 22 rfl rfl ⟨by decide, by decide⟩ ?_
  exact kw_xret (Nat.le_of_ble_eq_true rfl) (Nat.le_of_ble_eq_true rfl) (kw_ireturn C (kdec dc_L_safe 16 rfl)))
theorem he1_L_safe (l0 : Launch) (hfl : l0.stackTraces = false) {σ : kM} {x1 : Int} {x2 : Int} {τ : kM} (h : pf_P_safe_0 σ x1 x2 = some (.inl sNE, τ)) (μ : kM) (z : Nat → Int) : kHet l0 ky_L_safe method_19_code 5 [(0, 10, 13, 18), (0, 10, 17, 13)] R0_L_safe yL (kmg σ μ z) [kr 0, ki x1, ki x2, kr 96] 1 (kmg τ μ z) 2 12 := kHet.of [some (kr 0), some (ki x1), some (ki x2), some (kr 96), none] (by decide) (Nat.le_of_ble_eq_true rfl) ⟨rfl, rfl, rfl, rfl, trivial⟩ (fun x C hT hE => by
  refine kw_aload_n C (kdec dc_L_safe 0 rfl) rfl 1 rfl rfl ?_
  refine kw_iconst C (kdec dc_L_safe 1 rfl) 2 rfl rfl ⟨by decide, by decide⟩ ?_
  refine kw_aload_n C (kdec dc_L_safe 2 rfl) rfl 3 rfl rfl ?_
  refine kw_iload_n C (kdec dc_L_safe 3 rfl) rfl 4 rfl rfl ?_
  refine kw_iload_n C (kdec dc_L_safe 4 rfl) rfl 5 rfl rfl ?_
  refine kw_callVX_c (pre := []) (h := (0, 10, 13, 18)) (rest := [(0, 10, 17, 13)]) (i := 4) (As := [ki x1, ki x2]) (S := [ki 0, kr 96]) C hT hE (kdec dc_L_safe 5 rfl) cv_L_65 rfl rfl ((me_pf_P_safe_0 l0 hfl h).C μ z) ⟨rfl, rfl⟩ ⟨Nat.le_of_ble_eq_true rfl, Nat.le_of_ble_eq_true rfl⟩ ⟨Nat.le_of_ble_eq_true rfl, Nat.le_of_ble_eq_true rfl⟩ rfl (Nat.le_of_ble_eq_true rfl) (fun q hq => by cases hq) ⟨⟨by decide, by decide, by decide⟩, sNE, wl_1069, Or.inl ⟨rfl, rfl, Or.inl rfl⟩⟩ 15 (Or.inr ⟨kdec dc_L_safe 9 rfl, rfl⟩) (by decide) rfl ?_
  refine kw_iconst C (kdec dc_L_safe 10 rfl) 16 rfl rfl ⟨by decide, by decide⟩ ?_
  exact kw_xret (Nat.le_of_ble_eq_true rfl) (Nat.le_of_ble_eq_true rfl) (kw_ireturn C (kdec dc_L_safe 11 rfl)))
theorem he2_L_safe (l0 : Launch) (hfl : l0.stackTraces = false) {σ : kM} {x1 : Int} {x2 : Int} {τ : kM} (h : pf_P_safe_0 σ x1 x2 = some (.inl sIA, τ)) (μ : kM) (z : Nat → Int) : kHet l0 ky_L_safe method_19_code 5 [(0, 10, 13, 18), (0, 10, 17, 13)] R0_L_safe yL (kmg σ μ z) [kr 0, ki x1, ki x2, kr 96] 2 (kmg τ μ z) 2 12 := kHet.of [some (kr 0), some (ki x1), some (ki x2), some (kr 96), none] (by decide) (Nat.le_of_ble_eq_true rfl) ⟨rfl, rfl, rfl, rfl, trivial⟩ (fun x C hT hE => by
  refine kw_aload_n C (kdec dc_L_safe 0 rfl) rfl 1 rfl rfl ?_
  refine kw_iconst C (kdec dc_L_safe 1 rfl) 2 rfl rfl ⟨by decide, by decide⟩ ?_
  refine kw_aload_n C (kdec dc_L_safe 2 rfl) rfl 3 rfl rfl ?_
  refine kw_iload_n C (kdec dc_L_safe 3 rfl) rfl 4 rfl rfl ?_
  refine kw_iload_n C (kdec dc_L_safe 4 rfl) rfl 5 rfl rfl ?_
  refine kw_callVX_c (pre := [(0, 10, 13, 18)]) (h := (0, 10, 17, 13)) (rest := []) (i := 4) (As := [ki x1, ki x2]) (S := [ki 0, kr 96]) C hT hE (kdec dc_L_safe 5 rfl) cv_L_65 rfl rfl ((me_pf_P_safe_0 l0 hfl h).C μ z) ⟨rfl, rfl⟩ ⟨Nat.le_of_ble_eq_true rfl, Nat.le_of_ble_eq_true rfl⟩ ⟨Nat.le_of_ble_eq_true rfl, Nat.le_of_ble_eq_true rfl⟩ rfl (Nat.le_of_ble_eq_true rfl) (fun q hq => by rw [List.mem_singleton] at hq; subst hq; exact ⟨⟨by decide, by decide, by decide⟩, sNE, wl_1069, Or.inr ⟨rfl, rfl, rfl⟩⟩) ⟨⟨by decide, by decide, by decide⟩, sIA, wl_682, Or.inl ⟨rfl, rfl, Or.inr rfl⟩⟩ 19 (Or.inr ⟨kdec dc_L_safe 12 rfl, rfl⟩) (by decide) rfl ?_
  refine kw_iconst C (kdec dc_L_safe 13 rfl) 20 rfl rfl ⟨by decide, by decide⟩ ?_
  exact kw_xret (Nat.le_of_ble_eq_true rfl) (Nat.le_of_ble_eq_true rfl) (kw_ireturn C (kdec dc_L_safe 14 rfl)))
theorem hx_L_sonnet (l0 : Launch) (hfl : l0.stackTraces = false) {σ : kM} {x1 : Int} {x2 : Int} {r : Int} {τ : kM} (h : pf_P_sonnet_0 σ x1 x2 = some (.inr r, τ)) (μ : kM) (z : Nat → Int) : kHet l0 ky_L_sonnet method_20_code 5 [(0, 10, 13, 18)] R0_L_sonnet yL (kmg σ μ z) [kr 0, ki x1, ki x2, kr 96] 0 (kmg τ μ (kup z 0 r)) 2 12 := kHet.of [some (kr 0), some (ki x1), some (ki x2), some (kr 96), none] (by decide) (Nat.le_of_ble_eq_true rfl) ⟨rfl, rfl, rfl, rfl, trivial⟩ (fun x C hT hE => by
  refine kw_aload_n C (kdec dc_L_sonnet 0 rfl) rfl 1 rfl rfl ?_
  refine kw_iconst C (kdec dc_L_sonnet 1 rfl) 2 rfl rfl ⟨by decide, by decide⟩ ?_
  refine kw_aload_n C (kdec dc_L_sonnet 2 rfl) rfl 3 rfl rfl ?_
  refine kw_iload_n C (kdec dc_L_sonnet 3 rfl) rfl 4 rfl rfl ?_
  refine kw_iload_n C (kdec dc_L_sonnet 4 rfl) rfl 5 rfl rfl ?_
  refine kw_callVX (As := [ki x1, ki x2]) (S := [ki 0, kr 96]) C (kdec dc_L_sonnet 5 rfl) 8 rfl cv_L_68 rfl rfl ((mx_pf_P_sonnet_0 l0 hfl h).C μ z) ⟨rfl, rfl⟩ ⟨Nat.le_of_ble_eq_true rfl, Nat.le_of_ble_eq_true rfl⟩ ⟨Nat.le_of_ble_eq_true rfl, Nat.le_of_ble_eq_true rfl⟩ rfl (Nat.le_of_ble_eq_true rfl) ?_
  refine kw_i2l C (kdec dc_L_sonnet 6 rfl) 9 rfl ?_
  refine kw_last (k := 96) (n := 1) C (kdec dc_L_sonnet 7 rfl) 10 rfl yL_out (by decide) (by decide) ?_
  refine kw_sig (kmg_out τ μ z (kup z 0 r)).symm ?_
  refine kw_goto C (kdec dc_L_sonnet 8 rfl) 17 (by decide) ?_
  refine kw_iconst C (kdec dc_L_sonnet 12 rfl) 18 rfl rfl ⟨by decide, by decide⟩ ?_
  exact kw_xret (Nat.le_of_ble_eq_true rfl) (Nat.le_of_ble_eq_true rfl) (kw_ireturn C (kdec dc_L_sonnet 13 rfl)))
theorem he1_L_sonnet (l0 : Launch) (hfl : l0.stackTraces = false) {σ : kM} {x1 : Int} {x2 : Int} {τ : kM} (h : pf_P_sonnet_0 σ x1 x2 = some (.inl sNE, τ)) (μ : kM) (z : Nat → Int) : kHet l0 ky_L_sonnet method_20_code 5 [(0, 10, 13, 18)] R0_L_sonnet yL (kmg σ μ z) [kr 0, ki x1, ki x2, kr 96] 1 (kmg τ μ z) 2 12 := kHet.of [some (kr 0), some (ki x1), some (ki x2), some (kr 96), none] (by decide) (Nat.le_of_ble_eq_true rfl) ⟨rfl, rfl, rfl, rfl, trivial⟩ (fun x C hT hE => by
  refine kw_aload_n C (kdec dc_L_sonnet 0 rfl) rfl 1 rfl rfl ?_
  refine kw_iconst C (kdec dc_L_sonnet 1 rfl) 2 rfl rfl ⟨by decide, by decide⟩ ?_
  refine kw_aload_n C (kdec dc_L_sonnet 2 rfl) rfl 3 rfl rfl ?_
  refine kw_iload_n C (kdec dc_L_sonnet 3 rfl) rfl 4 rfl rfl ?_
  refine kw_iload_n C (kdec dc_L_sonnet 4 rfl) rfl 5 rfl rfl ?_
  refine kw_callVX_c (pre := []) (h := (0, 10, 13, 18)) (rest := []) (i := 4) (As := [ki x1, ki x2]) (S := [ki 0, kr 96]) C hT hE (kdec dc_L_sonnet 5 rfl) cv_L_68 rfl rfl ((me_pf_P_sonnet_0 l0 hfl h).C μ z) ⟨rfl, rfl⟩ ⟨Nat.le_of_ble_eq_true rfl, Nat.le_of_ble_eq_true rfl⟩ ⟨Nat.le_of_ble_eq_true rfl, Nat.le_of_ble_eq_true rfl⟩ rfl (Nat.le_of_ble_eq_true rfl) (fun q hq => by cases hq) ⟨⟨by decide, by decide, by decide⟩, sNE, wl_1069, Or.inl ⟨rfl, rfl, Or.inl rfl⟩⟩ 15 (Or.inr ⟨kdec dc_L_sonnet 9 rfl, rfl⟩) (by decide) rfl ?_
  refine kw_iconst C (kdec dc_L_sonnet 10 rfl) 16 rfl rfl ⟨by decide, by decide⟩ ?_
  exact kw_xret (Nat.le_of_ble_eq_true rfl) (Nat.le_of_ble_eq_true rfl) (kw_ireturn C (kdec dc_L_sonnet 11 rfl)))
theorem hx_L_action (l0 : Launch) (hfl : l0.stackTraces = false) {σ : kM} {x1 : Int} {r : Int} {τ : kM} (h : pf_P_action_0 σ x1 = some (.inr r, τ)) (μ : kM) (z : Nat → Int) : kHet l0 ky_L_action method_21_code 4 [(0, 9, 12, 18)] R0_L_action yL (kmg σ μ z) [kr 0, ki x1, kr 96] 0 (kmg τ μ (kup z 0 r)) 1 6 := kHet.of [some (kr 0), some (ki x1), some (kr 96), none] (by decide) (Nat.le_of_ble_eq_true rfl) ⟨rfl, rfl, rfl, trivial⟩ (fun x C hT hE => by
  refine kw_aload_n C (kdec dc_L_action 0 rfl) rfl 1 rfl rfl ?_
  refine kw_iconst C (kdec dc_L_action 1 rfl) 2 rfl rfl ⟨by decide, by decide⟩ ?_
  refine kw_aload_n C (kdec dc_L_action 2 rfl) rfl 3 rfl rfl ?_
  refine kw_iload_n C (kdec dc_L_action 3 rfl) rfl 4 rfl rfl ?_
  refine kw_callVX (As := [ki x1]) (S := [ki 0, kr 96]) C (kdec dc_L_action 4 rfl) 7 rfl cv_L_71 rfl rfl ((mx_pf_P_action_0 l0 hfl h).C μ z) ⟨rfl, rfl⟩ ⟨Nat.le_of_ble_eq_true rfl, Nat.le_of_ble_eq_true rfl⟩ ⟨Nat.le_of_ble_eq_true rfl, Nat.le_of_ble_eq_true rfl⟩ rfl (Nat.le_of_ble_eq_true rfl) ?_
  refine kw_i2l C (kdec dc_L_action 5 rfl) 8 rfl ?_
  refine kw_last (k := 96) (n := 1) C (kdec dc_L_action 6 rfl) 9 rfl yL_out (by decide) (by decide) ?_
  refine kw_sig (kmg_out τ μ z (kup z 0 r)).symm ?_
  refine kw_goto C (kdec dc_L_action 7 rfl) 15 (by decide) ?_
  refine kw_iconst C (kdec dc_L_action 11 rfl) 16 rfl rfl ⟨by decide, by decide⟩ ?_
  exact kw_xret (Nat.le_of_ble_eq_true rfl) (Nat.le_of_ble_eq_true rfl) (kw_ireturn C (kdec dc_L_action 12 rfl)))
theorem he1_L_action (l0 : Launch) (hfl : l0.stackTraces = false) {σ : kM} {x1 : Int} {τ : kM} (h : pf_P_action_0 σ x1 = some (.inl sNE, τ)) (μ : kM) (z : Nat → Int) : kHet l0 ky_L_action method_21_code 4 [(0, 9, 12, 18)] R0_L_action yL (kmg σ μ z) [kr 0, ki x1, kr 96] 1 (kmg τ μ z) 1 6 := kHet.of [some (kr 0), some (ki x1), some (kr 96), none] (by decide) (Nat.le_of_ble_eq_true rfl) ⟨rfl, rfl, rfl, trivial⟩ (fun x C hT hE => by
  refine kw_aload_n C (kdec dc_L_action 0 rfl) rfl 1 rfl rfl ?_
  refine kw_iconst C (kdec dc_L_action 1 rfl) 2 rfl rfl ⟨by decide, by decide⟩ ?_
  refine kw_aload_n C (kdec dc_L_action 2 rfl) rfl 3 rfl rfl ?_
  refine kw_iload_n C (kdec dc_L_action 3 rfl) rfl 4 rfl rfl ?_
  refine kw_callVX_c (pre := []) (h := (0, 9, 12, 18)) (rest := []) (i := 3) (As := [ki x1]) (S := [ki 0, kr 96]) C hT hE (kdec dc_L_action 4 rfl) cv_L_71 rfl rfl ((me_pf_P_action_0 l0 hfl h).C μ z) ⟨rfl, rfl⟩ ⟨Nat.le_of_ble_eq_true rfl, Nat.le_of_ble_eq_true rfl⟩ ⟨Nat.le_of_ble_eq_true rfl, Nat.le_of_ble_eq_true rfl⟩ rfl (Nat.le_of_ble_eq_true rfl) (fun q hq => by cases hq) ⟨⟨by decide, by decide, by decide⟩, sNE, wl_1069, Or.inl ⟨rfl, rfl, Or.inl rfl⟩⟩ 13 (Or.inl ⟨3, kdec dc_L_action 8 rfl, rfl, rfl⟩) (by decide) rfl ?_
  refine kw_iconst C (kdec dc_L_action 9 rfl) 14 rfl rfl ⟨by decide, by decide⟩ ?_
  exact kw_xret (Nat.le_of_ble_eq_true rfl) (Nat.le_of_ble_eq_true rfl) (kw_ireturn C (kdec dc_L_action 10 rfl)))
theorem hx_L_readings (l0 : Launch) (hfl : l0.stackTraces = false) {σ : kM} {x1 : Int} {r : Int} {τ : kM} (h : pf_P_readings_0 σ x1 = some (.inr r, τ)) (μ : kM) (z : Nat → Int) : kHet l0 ky_L_readings method_22_code 4 [(0, 9, 12, 18)] R0_L_readings yL (kmg σ μ z) [kr 0, ki x1, kr 96] 0 (kmg τ μ (kup z 0 r)) 1 6 := kHet.of [some (kr 0), some (ki x1), some (kr 96), none] (by decide) (Nat.le_of_ble_eq_true rfl) ⟨rfl, rfl, rfl, trivial⟩ (fun x C hT hE => by
  refine kw_aload_n C (kdec dc_L_readings 0 rfl) rfl 1 rfl rfl ?_
  refine kw_iconst C (kdec dc_L_readings 1 rfl) 2 rfl rfl ⟨by decide, by decide⟩ ?_
  refine kw_aload_n C (kdec dc_L_readings 2 rfl) rfl 3 rfl rfl ?_
  refine kw_iload_n C (kdec dc_L_readings 3 rfl) rfl 4 rfl rfl ?_
  refine kw_callVX (As := [ki x1]) (S := [ki 0, kr 96]) C (kdec dc_L_readings 4 rfl) 7 rfl cv_L_74 rfl rfl ((mx_pf_P_readings_0 l0 hfl h).C μ z) ⟨rfl, rfl⟩ ⟨Nat.le_of_ble_eq_true rfl, Nat.le_of_ble_eq_true rfl⟩ ⟨Nat.le_of_ble_eq_true rfl, Nat.le_of_ble_eq_true rfl⟩ rfl (Nat.le_of_ble_eq_true rfl) ?_
  refine kw_i2l C (kdec dc_L_readings 5 rfl) 8 rfl ?_
  refine kw_last (k := 96) (n := 1) C (kdec dc_L_readings 6 rfl) 9 rfl yL_out (by decide) (by decide) ?_
  refine kw_sig (kmg_out τ μ z (kup z 0 r)).symm ?_
  refine kw_goto C (kdec dc_L_readings 7 rfl) 15 (by decide) ?_
  refine kw_iconst C (kdec dc_L_readings 11 rfl) 16 rfl rfl ⟨by decide, by decide⟩ ?_
  exact kw_xret (Nat.le_of_ble_eq_true rfl) (Nat.le_of_ble_eq_true rfl) (kw_ireturn C (kdec dc_L_readings 12 rfl)))
theorem he1_L_readings (l0 : Launch) (hfl : l0.stackTraces = false) {σ : kM} {x1 : Int} {τ : kM} (h : pf_P_readings_0 σ x1 = some (.inl sNE, τ)) (μ : kM) (z : Nat → Int) : kHet l0 ky_L_readings method_22_code 4 [(0, 9, 12, 18)] R0_L_readings yL (kmg σ μ z) [kr 0, ki x1, kr 96] 1 (kmg τ μ z) 1 6 := kHet.of [some (kr 0), some (ki x1), some (kr 96), none] (by decide) (Nat.le_of_ble_eq_true rfl) ⟨rfl, rfl, rfl, trivial⟩ (fun x C hT hE => by
  refine kw_aload_n C (kdec dc_L_readings 0 rfl) rfl 1 rfl rfl ?_
  refine kw_iconst C (kdec dc_L_readings 1 rfl) 2 rfl rfl ⟨by decide, by decide⟩ ?_
  refine kw_aload_n C (kdec dc_L_readings 2 rfl) rfl 3 rfl rfl ?_
  refine kw_iload_n C (kdec dc_L_readings 3 rfl) rfl 4 rfl rfl ?_
  refine kw_callVX_c (pre := []) (h := (0, 9, 12, 18)) (rest := []) (i := 3) (As := [ki x1]) (S := [ki 0, kr 96]) C hT hE (kdec dc_L_readings 4 rfl) cv_L_74 rfl rfl ((me_pf_P_readings_0 l0 hfl h).C μ z) ⟨rfl, rfl⟩ ⟨Nat.le_of_ble_eq_true rfl, Nat.le_of_ble_eq_true rfl⟩ ⟨Nat.le_of_ble_eq_true rfl, Nat.le_of_ble_eq_true rfl⟩ rfl (Nat.le_of_ble_eq_true rfl) (fun q hq => by cases hq) ⟨⟨by decide, by decide, by decide⟩, sNE, wl_1069, Or.inl ⟨rfl, rfl, Or.inl rfl⟩⟩ 13 (Or.inl ⟨3, kdec dc_L_readings 8 rfl, rfl, rfl⟩) (by decide) rfl ?_
  refine kw_iconst C (kdec dc_L_readings 9 rfl) 14 rfl rfl ⟨by decide, by decide⟩ ?_
  exact kw_xret (Nat.le_of_ble_eq_true rfl) (Nat.le_of_ble_eq_true rfl) (kw_ireturn C (kdec dc_L_readings 10 rfl)))
theorem hx_L_best (l0 : Launch) (hfl : l0.stackTraces = false) {σ : kM} {x1 : Int} {x2 : Int} {r : Int} {τ : kM} (h : pf_P_best_0 σ x1 x2 = some (.inr r, τ)) (μ : kM) (z : Nat → Int) : kHet l0 ky_L_best method_23_code 5 [(0, 10, 13, 18), (0, 10, 17, 13)] R0_L_best yL (kmg σ μ z) [kr 0, ki x1, ki x2, kr 96] 0 (kmg τ μ (kup z 0 r)) 2 12 := kHet.of [some (kr 0), some (ki x1), some (ki x2), some (kr 96), none] (by decide) (Nat.le_of_ble_eq_true rfl) ⟨rfl, rfl, rfl, rfl, trivial⟩ (fun x C hT hE => by
  refine kw_aload_n C (kdec dc_L_best 0 rfl) rfl 1 rfl rfl ?_
  refine kw_iconst C (kdec dc_L_best 1 rfl) 2 rfl rfl ⟨by decide, by decide⟩ ?_
  refine kw_aload_n C (kdec dc_L_best 2 rfl) rfl 3 rfl rfl ?_
  refine kw_iload_n C (kdec dc_L_best 3 rfl) rfl 4 rfl rfl ?_
  refine kw_iload_n C (kdec dc_L_best 4 rfl) rfl 5 rfl rfl ?_
  refine kw_callVX (As := [ki x1, ki x2]) (S := [ki 0, kr 96]) C (kdec dc_L_best 5 rfl) 8 rfl cv_L_77 rfl rfl ((mx_pf_P_best_0 l0 hfl h).C μ z) ⟨rfl, rfl⟩ ⟨Nat.le_of_ble_eq_true rfl, Nat.le_of_ble_eq_true rfl⟩ ⟨Nat.le_of_ble_eq_true rfl, Nat.le_of_ble_eq_true rfl⟩ rfl (Nat.le_of_ble_eq_true rfl) ?_
  refine kw_i2l C (kdec dc_L_best 6 rfl) 9 rfl ?_
  refine kw_last (k := 96) (n := 1) C (kdec dc_L_best 7 rfl) 10 rfl yL_out (by decide) (by decide) ?_
  refine kw_sig (kmg_out τ μ z (kup z 0 r)).symm ?_
  refine kw_goto C (kdec dc_L_best 8 rfl) 21 (by decide) ?_
  refine kw_iconst C (kdec dc_L_best 15 rfl) 22 rfl rfl ⟨by decide, by decide⟩ ?_
  exact kw_xret (Nat.le_of_ble_eq_true rfl) (Nat.le_of_ble_eq_true rfl) (kw_ireturn C (kdec dc_L_best 16 rfl)))
theorem he1_L_best (l0 : Launch) (hfl : l0.stackTraces = false) {σ : kM} {x1 : Int} {x2 : Int} {τ : kM} (h : pf_P_best_0 σ x1 x2 = some (.inl sNE, τ)) (μ : kM) (z : Nat → Int) : kHet l0 ky_L_best method_23_code 5 [(0, 10, 13, 18), (0, 10, 17, 13)] R0_L_best yL (kmg σ μ z) [kr 0, ki x1, ki x2, kr 96] 1 (kmg τ μ z) 2 12 := kHet.of [some (kr 0), some (ki x1), some (ki x2), some (kr 96), none] (by decide) (Nat.le_of_ble_eq_true rfl) ⟨rfl, rfl, rfl, rfl, trivial⟩ (fun x C hT hE => by
  refine kw_aload_n C (kdec dc_L_best 0 rfl) rfl 1 rfl rfl ?_
  refine kw_iconst C (kdec dc_L_best 1 rfl) 2 rfl rfl ⟨by decide, by decide⟩ ?_
  refine kw_aload_n C (kdec dc_L_best 2 rfl) rfl 3 rfl rfl ?_
  refine kw_iload_n C (kdec dc_L_best 3 rfl) rfl 4 rfl rfl ?_
  refine kw_iload_n C (kdec dc_L_best 4 rfl) rfl 5 rfl rfl ?_
  refine kw_callVX_c (pre := []) (h := (0, 10, 13, 18)) (rest := [(0, 10, 17, 13)]) (i := 4) (As := [ki x1, ki x2]) (S := [ki 0, kr 96]) C hT hE (kdec dc_L_best 5 rfl) cv_L_77 rfl rfl ((me_pf_P_best_0 l0 hfl h).C μ z) ⟨rfl, rfl⟩ ⟨Nat.le_of_ble_eq_true rfl, Nat.le_of_ble_eq_true rfl⟩ ⟨Nat.le_of_ble_eq_true rfl, Nat.le_of_ble_eq_true rfl⟩ rfl (Nat.le_of_ble_eq_true rfl) (fun q hq => by cases hq) ⟨⟨by decide, by decide, by decide⟩, sNE, wl_1069, Or.inl ⟨rfl, rfl, Or.inl rfl⟩⟩ 15 (Or.inr ⟨kdec dc_L_best 9 rfl, rfl⟩) (by decide) rfl ?_
  refine kw_iconst C (kdec dc_L_best 10 rfl) 16 rfl rfl ⟨by decide, by decide⟩ ?_
  exact kw_xret (Nat.le_of_ble_eq_true rfl) (Nat.le_of_ble_eq_true rfl) (kw_ireturn C (kdec dc_L_best 11 rfl)))
theorem he2_L_best (l0 : Launch) (hfl : l0.stackTraces = false) {σ : kM} {x1 : Int} {x2 : Int} {τ : kM} (h : pf_P_best_0 σ x1 x2 = some (.inl sIA, τ)) (μ : kM) (z : Nat → Int) : kHet l0 ky_L_best method_23_code 5 [(0, 10, 13, 18), (0, 10, 17, 13)] R0_L_best yL (kmg σ μ z) [kr 0, ki x1, ki x2, kr 96] 2 (kmg τ μ z) 2 12 := kHet.of [some (kr 0), some (ki x1), some (ki x2), some (kr 96), none] (by decide) (Nat.le_of_ble_eq_true rfl) ⟨rfl, rfl, rfl, rfl, trivial⟩ (fun x C hT hE => by
  refine kw_aload_n C (kdec dc_L_best 0 rfl) rfl 1 rfl rfl ?_
  refine kw_iconst C (kdec dc_L_best 1 rfl) 2 rfl rfl ⟨by decide, by decide⟩ ?_
  refine kw_aload_n C (kdec dc_L_best 2 rfl) rfl 3 rfl rfl ?_
  refine kw_iload_n C (kdec dc_L_best 3 rfl) rfl 4 rfl rfl ?_
  refine kw_iload_n C (kdec dc_L_best 4 rfl) rfl 5 rfl rfl ?_
  refine kw_callVX_c (pre := [(0, 10, 13, 18)]) (h := (0, 10, 17, 13)) (rest := []) (i := 4) (As := [ki x1, ki x2]) (S := [ki 0, kr 96]) C hT hE (kdec dc_L_best 5 rfl) cv_L_77 rfl rfl ((me_pf_P_best_0 l0 hfl h).C μ z) ⟨rfl, rfl⟩ ⟨Nat.le_of_ble_eq_true rfl, Nat.le_of_ble_eq_true rfl⟩ ⟨Nat.le_of_ble_eq_true rfl, Nat.le_of_ble_eq_true rfl⟩ rfl (Nat.le_of_ble_eq_true rfl) (fun q hq => by rw [List.mem_singleton] at hq; subst hq; exact ⟨⟨by decide, by decide, by decide⟩, sNE, wl_1069, Or.inr ⟨rfl, rfl, rfl⟩⟩) ⟨⟨by decide, by decide, by decide⟩, sIA, wl_682, Or.inl ⟨rfl, rfl, Or.inr rfl⟩⟩ 19 (Or.inr ⟨kdec dc_L_best 12 rfl, rfl⟩) (by decide) rfl ?_
  refine kw_iconst C (kdec dc_L_best 13 rfl) 20 rfl rfl ⟨by decide, by decide⟩ ?_
  exact kw_xret (Nat.le_of_ble_eq_true rfl) (Nat.le_of_ble_eq_true rfl) (kw_ireturn C (kdec dc_L_best 14 rfl)))
theorem hx_L_feel (l0 : Launch) (hfl : l0.stackTraces = false) {σ : kM} {x1 : Int} {x2 : Int} {x3 : Int} {r : Int} {τ : kM} (h : pf_P_feel_0 σ x1 x2 x3 = some (.inr r, τ)) (μ : kM) (z : Nat → Int) : kHet l0 ky_L_feel method_24_code 6 [(0, 12, 15, 18)] R0_L_feel yL (kmg σ μ z) [kr 0, ki x1, ki x2, ki x3, kr 96] 0 (kmg τ μ (kup z 0 r)) 1 6 := kHet.of [some (kr 0), some (ki x1), some (ki x2), some (ki x3), some (kr 96), none] (by decide) (Nat.le_of_ble_eq_true rfl) ⟨rfl, rfl, rfl, rfl, rfl, trivial⟩ (fun x C hT hE => by
  refine kw_aload C (kdec dc_L_feel 0 rfl) 2 rfl rfl ?_
  refine kw_iconst C (kdec dc_L_feel 1 rfl) 3 rfl rfl ⟨by decide, by decide⟩ ?_
  refine kw_aload_n C (kdec dc_L_feel 2 rfl) rfl 4 rfl rfl ?_
  refine kw_iload_n C (kdec dc_L_feel 3 rfl) rfl 5 rfl rfl ?_
  refine kw_iload_n C (kdec dc_L_feel 4 rfl) rfl 6 rfl rfl ?_
  refine kw_iload_n C (kdec dc_L_feel 5 rfl) rfl 7 rfl rfl ?_
  refine kw_callVX (As := [ki x1, ki x2, ki x3]) (S := [ki 0, kr 96]) C (kdec dc_L_feel 6 rfl) 10 rfl cv_L_80 rfl rfl ((mx_pf_P_feel_0 l0 hfl h).C μ z) ⟨rfl, rfl⟩ ⟨Nat.le_of_ble_eq_true rfl, Nat.le_of_ble_eq_true rfl⟩ ⟨Nat.le_of_ble_eq_true rfl, Nat.le_of_ble_eq_true rfl⟩ rfl (Nat.le_of_ble_eq_true rfl) ?_
  refine kw_i2l C (kdec dc_L_feel 7 rfl) 11 rfl ?_
  refine kw_last (k := 96) (n := 1) C (kdec dc_L_feel 8 rfl) 12 rfl yL_out (by decide) (by decide) ?_
  refine kw_sig (kmg_out τ μ z (kup z 0 r)).symm ?_
  refine kw_goto C (kdec dc_L_feel 9 rfl) 19 (by decide) ?_
  refine kw_iconst C (kdec dc_L_feel 13 rfl) 20 rfl rfl ⟨by decide, by decide⟩ ?_
  exact kw_xret (Nat.le_of_ble_eq_true rfl) (Nat.le_of_ble_eq_true rfl) (kw_ireturn C (kdec dc_L_feel 14 rfl)))
theorem he1_L_feel (l0 : Launch) (hfl : l0.stackTraces = false) {σ : kM} {x1 : Int} {x2 : Int} {x3 : Int} {τ : kM} (h : pf_P_feel_0 σ x1 x2 x3 = some (.inl sNE, τ)) (μ : kM) (z : Nat → Int) : kHet l0 ky_L_feel method_24_code 6 [(0, 12, 15, 18)] R0_L_feel yL (kmg σ μ z) [kr 0, ki x1, ki x2, ki x3, kr 96] 1 (kmg τ μ z) 1 6 := kHet.of [some (kr 0), some (ki x1), some (ki x2), some (ki x3), some (kr 96), none] (by decide) (Nat.le_of_ble_eq_true rfl) ⟨rfl, rfl, rfl, rfl, rfl, trivial⟩ (fun x C hT hE => by
  refine kw_aload C (kdec dc_L_feel 0 rfl) 2 rfl rfl ?_
  refine kw_iconst C (kdec dc_L_feel 1 rfl) 3 rfl rfl ⟨by decide, by decide⟩ ?_
  refine kw_aload_n C (kdec dc_L_feel 2 rfl) rfl 4 rfl rfl ?_
  refine kw_iload_n C (kdec dc_L_feel 3 rfl) rfl 5 rfl rfl ?_
  refine kw_iload_n C (kdec dc_L_feel 4 rfl) rfl 6 rfl rfl ?_
  refine kw_iload_n C (kdec dc_L_feel 5 rfl) rfl 7 rfl rfl ?_
  refine kw_callVX_c (pre := []) (h := (0, 12, 15, 18)) (rest := []) (i := 5) (As := [ki x1, ki x2, ki x3]) (S := [ki 0, kr 96]) C hT hE (kdec dc_L_feel 6 rfl) cv_L_80 rfl rfl ((me_pf_P_feel_0 l0 hfl h).C μ z) ⟨rfl, rfl⟩ ⟨Nat.le_of_ble_eq_true rfl, Nat.le_of_ble_eq_true rfl⟩ ⟨Nat.le_of_ble_eq_true rfl, Nat.le_of_ble_eq_true rfl⟩ rfl (Nat.le_of_ble_eq_true rfl) (fun q hq => by cases hq) ⟨⟨by decide, by decide, by decide⟩, sNE, wl_1069, Or.inl ⟨rfl, rfl, Or.inl rfl⟩⟩ 17 (Or.inr ⟨kdec dc_L_feel 10 rfl, rfl⟩) (by decide) rfl ?_
  refine kw_iconst C (kdec dc_L_feel 11 rfl) 18 rfl rfl ⟨by decide, by decide⟩ ?_
  exact kw_xret (Nat.le_of_ble_eq_true rfl) (Nat.le_of_ble_eq_true rfl) (kw_ireturn C (kdec dc_L_feel 12 rfl)))
theorem hx_L_truths (l0 : Launch) (hfl : l0.stackTraces = false) {σ : kM} {x1 : Int} {r : Int} {τ : kM} (h : pf_P_truths_0 σ x1 = some (.inr r, τ)) (μ : kM) (z : Nat → Int) : kHet l0 ky_L_truths method_25_code 4 [(0, 9, 12, 18)] R0_L_truths yL (kmg σ μ z) [kr 0, ki x1, kr 96] 0 (kmg τ μ (kup z 0 r)) 1 6 := kHet.of [some (kr 0), some (ki x1), some (kr 96), none] (by decide) (Nat.le_of_ble_eq_true rfl) ⟨rfl, rfl, rfl, trivial⟩ (fun x C hT hE => by
  refine kw_aload_n C (kdec dc_L_truths 0 rfl) rfl 1 rfl rfl ?_
  refine kw_iconst C (kdec dc_L_truths 1 rfl) 2 rfl rfl ⟨by decide, by decide⟩ ?_
  refine kw_aload_n C (kdec dc_L_truths 2 rfl) rfl 3 rfl rfl ?_
  refine kw_iload_n C (kdec dc_L_truths 3 rfl) rfl 4 rfl rfl ?_
  refine kw_callVX (As := [ki x1]) (S := [ki 0, kr 96]) C (kdec dc_L_truths 4 rfl) 7 rfl cv_L_84 rfl rfl ((mx_pf_P_truths_0 l0 hfl h).C μ z) ⟨rfl, rfl⟩ ⟨Nat.le_of_ble_eq_true rfl, Nat.le_of_ble_eq_true rfl⟩ ⟨Nat.le_of_ble_eq_true rfl, Nat.le_of_ble_eq_true rfl⟩ rfl (Nat.le_of_ble_eq_true rfl) ?_
  refine kw_i2l C (kdec dc_L_truths 5 rfl) 8 rfl ?_
  refine kw_last (k := 96) (n := 1) C (kdec dc_L_truths 6 rfl) 9 rfl yL_out (by decide) (by decide) ?_
  refine kw_sig (kmg_out τ μ z (kup z 0 r)).symm ?_
  refine kw_goto C (kdec dc_L_truths 7 rfl) 15 (by decide) ?_
  refine kw_iconst C (kdec dc_L_truths 11 rfl) 16 rfl rfl ⟨by decide, by decide⟩ ?_
  exact kw_xret (Nat.le_of_ble_eq_true rfl) (Nat.le_of_ble_eq_true rfl) (kw_ireturn C (kdec dc_L_truths 12 rfl)))
theorem he1_L_truths (l0 : Launch) (hfl : l0.stackTraces = false) {σ : kM} {x1 : Int} {τ : kM} (h : pf_P_truths_0 σ x1 = some (.inl sNE, τ)) (μ : kM) (z : Nat → Int) : kHet l0 ky_L_truths method_25_code 4 [(0, 9, 12, 18)] R0_L_truths yL (kmg σ μ z) [kr 0, ki x1, kr 96] 1 (kmg τ μ z) 1 6 := kHet.of [some (kr 0), some (ki x1), some (kr 96), none] (by decide) (Nat.le_of_ble_eq_true rfl) ⟨rfl, rfl, rfl, trivial⟩ (fun x C hT hE => by
  refine kw_aload_n C (kdec dc_L_truths 0 rfl) rfl 1 rfl rfl ?_
  refine kw_iconst C (kdec dc_L_truths 1 rfl) 2 rfl rfl ⟨by decide, by decide⟩ ?_
  refine kw_aload_n C (kdec dc_L_truths 2 rfl) rfl 3 rfl rfl ?_
  refine kw_iload_n C (kdec dc_L_truths 3 rfl) rfl 4 rfl rfl ?_
  refine kw_callVX_c (pre := []) (h := (0, 9, 12, 18)) (rest := []) (i := 3) (As := [ki x1]) (S := [ki 0, kr 96]) C hT hE (kdec dc_L_truths 4 rfl) cv_L_84 rfl rfl ((me_pf_P_truths_0 l0 hfl h).C μ z) ⟨rfl, rfl⟩ ⟨Nat.le_of_ble_eq_true rfl, Nat.le_of_ble_eq_true rfl⟩ ⟨Nat.le_of_ble_eq_true rfl, Nat.le_of_ble_eq_true rfl⟩ rfl (Nat.le_of_ble_eq_true rfl) (fun q hq => by cases hq) ⟨⟨by decide, by decide, by decide⟩, sNE, wl_1069, Or.inl ⟨rfl, rfl, Or.inl rfl⟩⟩ 13 (Or.inl ⟨3, kdec dc_L_truths 8 rfl, rfl, rfl⟩) (by decide) rfl ?_
  refine kw_iconst C (kdec dc_L_truths 9 rfl) 14 rfl rfl ⟨by decide, by decide⟩ ?_
  exact kw_xret (Nat.le_of_ble_eq_true rfl) (Nat.le_of_ble_eq_true rfl) (kw_ireturn C (kdec dc_L_truths 10 rfl)))
theorem hx_L_listen (l0 : Launch) (hfl : l0.stackTraces = false) {σ : kM} {x1 : Int} {r : Int} {τ : kM} (h : pf_P_listen_0 σ x1 = some (.inr r, τ)) (μ : kM) (z : Nat → Int) : kHet l0 ky_L_listen method_26_code 4 [(0, 9, 12, 18)] R0_L_listen yL (kmg σ μ z) [kr 0, ki x1, kr 96] 0 (kmg τ μ (kup z 0 r)) 1 6 := kHet.of [some (kr 0), some (ki x1), some (kr 96), none] (by decide) (Nat.le_of_ble_eq_true rfl) ⟨rfl, rfl, rfl, trivial⟩ (fun x C hT hE => by
  refine kw_aload_n C (kdec dc_L_listen 0 rfl) rfl 1 rfl rfl ?_
  refine kw_iconst C (kdec dc_L_listen 1 rfl) 2 rfl rfl ⟨by decide, by decide⟩ ?_
  refine kw_aload_n C (kdec dc_L_listen 2 rfl) rfl 3 rfl rfl ?_
  refine kw_iload_n C (kdec dc_L_listen 3 rfl) rfl 4 rfl rfl ?_
  refine kw_callVX (As := [ki x1]) (S := [ki 0, kr 96]) C (kdec dc_L_listen 4 rfl) 7 rfl cv_L_87 rfl rfl ((mx_pf_P_listen_0 l0 hfl h).C μ z) ⟨rfl, rfl⟩ ⟨Nat.le_of_ble_eq_true rfl, Nat.le_of_ble_eq_true rfl⟩ ⟨Nat.le_of_ble_eq_true rfl, Nat.le_of_ble_eq_true rfl⟩ rfl (Nat.le_of_ble_eq_true rfl) ?_
  refine kw_i2l C (kdec dc_L_listen 5 rfl) 8 rfl ?_
  refine kw_last (k := 96) (n := 1) C (kdec dc_L_listen 6 rfl) 9 rfl yL_out (by decide) (by decide) ?_
  refine kw_sig (kmg_out τ μ z (kup z 0 r)).symm ?_
  refine kw_goto C (kdec dc_L_listen 7 rfl) 15 (by decide) ?_
  refine kw_iconst C (kdec dc_L_listen 11 rfl) 16 rfl rfl ⟨by decide, by decide⟩ ?_
  exact kw_xret (Nat.le_of_ble_eq_true rfl) (Nat.le_of_ble_eq_true rfl) (kw_ireturn C (kdec dc_L_listen 12 rfl)))
theorem he1_L_listen (l0 : Launch) (hfl : l0.stackTraces = false) {σ : kM} {x1 : Int} {τ : kM} (h : pf_P_listen_0 σ x1 = some (.inl sNE, τ)) (μ : kM) (z : Nat → Int) : kHet l0 ky_L_listen method_26_code 4 [(0, 9, 12, 18)] R0_L_listen yL (kmg σ μ z) [kr 0, ki x1, kr 96] 1 (kmg τ μ z) 1 6 := kHet.of [some (kr 0), some (ki x1), some (kr 96), none] (by decide) (Nat.le_of_ble_eq_true rfl) ⟨rfl, rfl, rfl, trivial⟩ (fun x C hT hE => by
  refine kw_aload_n C (kdec dc_L_listen 0 rfl) rfl 1 rfl rfl ?_
  refine kw_iconst C (kdec dc_L_listen 1 rfl) 2 rfl rfl ⟨by decide, by decide⟩ ?_
  refine kw_aload_n C (kdec dc_L_listen 2 rfl) rfl 3 rfl rfl ?_
  refine kw_iload_n C (kdec dc_L_listen 3 rfl) rfl 4 rfl rfl ?_
  refine kw_callVX_c (pre := []) (h := (0, 9, 12, 18)) (rest := []) (i := 3) (As := [ki x1]) (S := [ki 0, kr 96]) C hT hE (kdec dc_L_listen 4 rfl) cv_L_87 rfl rfl ((me_pf_P_listen_0 l0 hfl h).C μ z) ⟨rfl, rfl⟩ ⟨Nat.le_of_ble_eq_true rfl, Nat.le_of_ble_eq_true rfl⟩ ⟨Nat.le_of_ble_eq_true rfl, Nat.le_of_ble_eq_true rfl⟩ rfl (Nat.le_of_ble_eq_true rfl) (fun q hq => by cases hq) ⟨⟨by decide, by decide, by decide⟩, sNE, wl_1069, Or.inl ⟨rfl, rfl, Or.inl rfl⟩⟩ 13 (Or.inl ⟨3, kdec dc_L_listen 8 rfl, rfl, rfl⟩) (by decide) rfl ?_
  refine kw_iconst C (kdec dc_L_listen 9 rfl) 14 rfl rfl ⟨by decide, by decide⟩ ?_
  exact kw_xret (Nat.le_of_ble_eq_true rfl) (Nat.le_of_ble_eq_true rfl) (kw_ireturn C (kdec dc_L_listen 10 rfl)))
theorem hx_L_accidents (l0 : Launch) (hfl : l0.stackTraces = false) {σ : kM} {x1 : Int} {x2 : Int} {x3 : Int} {r : Int} {τ : kM} (h : pf_P_accidents_0 σ x1 x2 x3 = some (.inr r, τ)) (μ : kM) (z : Nat → Int) : kHet l0 ky_L_accidents method_27_code 6 [(0, 12, 15, 18), (0, 12, 19, 13)] R0_L_accidents yL (kmg σ μ z) [kr 0, ki x1, ki x2, ki x3, kr 96] 0 (kmg τ μ (kup z 0 r)) 3 18 := kHet.of [some (kr 0), some (ki x1), some (ki x2), some (ki x3), some (kr 96), none] (by decide) (Nat.le_of_ble_eq_true rfl) ⟨rfl, rfl, rfl, rfl, rfl, trivial⟩ (fun x C hT hE => by
  refine kw_aload C (kdec dc_L_accidents 0 rfl) 2 rfl rfl ?_
  refine kw_iconst C (kdec dc_L_accidents 1 rfl) 3 rfl rfl ⟨by decide, by decide⟩ ?_
  refine kw_aload_n C (kdec dc_L_accidents 2 rfl) rfl 4 rfl rfl ?_
  refine kw_iload_n C (kdec dc_L_accidents 3 rfl) rfl 5 rfl rfl ?_
  refine kw_iload_n C (kdec dc_L_accidents 4 rfl) rfl 6 rfl rfl ?_
  refine kw_iload_n C (kdec dc_L_accidents 5 rfl) rfl 7 rfl rfl ?_
  refine kw_callVX (As := [ki x1, ki x2, ki x3]) (S := [ki 0, kr 96]) C (kdec dc_L_accidents 6 rfl) 10 rfl cv_L_90 rfl rfl ((mx_pf_P_accidents_0 l0 hfl h).C μ z) ⟨rfl, rfl⟩ ⟨Nat.le_of_ble_eq_true rfl, Nat.le_of_ble_eq_true rfl⟩ ⟨Nat.le_of_ble_eq_true rfl, Nat.le_of_ble_eq_true rfl⟩ rfl (Nat.le_of_ble_eq_true rfl) ?_
  refine kw_i2l C (kdec dc_L_accidents 7 rfl) 11 rfl ?_
  refine kw_last (k := 96) (n := 1) C (kdec dc_L_accidents 8 rfl) 12 rfl yL_out (by decide) (by decide) ?_
  refine kw_sig (kmg_out τ μ z (kup z 0 r)).symm ?_
  refine kw_goto C (kdec dc_L_accidents 9 rfl) 23 (by decide) ?_
  refine kw_iconst C (kdec dc_L_accidents 16 rfl) 24 rfl rfl ⟨by decide, by decide⟩ ?_
  exact kw_xret (Nat.le_of_ble_eq_true rfl) (Nat.le_of_ble_eq_true rfl) (kw_ireturn C (kdec dc_L_accidents 17 rfl)))
theorem he1_L_accidents (l0 : Launch) (hfl : l0.stackTraces = false) {σ : kM} {x1 : Int} {x2 : Int} {x3 : Int} {τ : kM} (h : pf_P_accidents_0 σ x1 x2 x3 = some (.inl sNE, τ)) (μ : kM) (z : Nat → Int) : kHet l0 ky_L_accidents method_27_code 6 [(0, 12, 15, 18), (0, 12, 19, 13)] R0_L_accidents yL (kmg σ μ z) [kr 0, ki x1, ki x2, ki x3, kr 96] 1 (kmg τ μ z) 3 18 := kHet.of [some (kr 0), some (ki x1), some (ki x2), some (ki x3), some (kr 96), none] (by decide) (Nat.le_of_ble_eq_true rfl) ⟨rfl, rfl, rfl, rfl, rfl, trivial⟩ (fun x C hT hE => by
  refine kw_aload C (kdec dc_L_accidents 0 rfl) 2 rfl rfl ?_
  refine kw_iconst C (kdec dc_L_accidents 1 rfl) 3 rfl rfl ⟨by decide, by decide⟩ ?_
  refine kw_aload_n C (kdec dc_L_accidents 2 rfl) rfl 4 rfl rfl ?_
  refine kw_iload_n C (kdec dc_L_accidents 3 rfl) rfl 5 rfl rfl ?_
  refine kw_iload_n C (kdec dc_L_accidents 4 rfl) rfl 6 rfl rfl ?_
  refine kw_iload_n C (kdec dc_L_accidents 5 rfl) rfl 7 rfl rfl ?_
  refine kw_callVX_c (pre := []) (h := (0, 12, 15, 18)) (rest := [(0, 12, 19, 13)]) (i := 5) (As := [ki x1, ki x2, ki x3]) (S := [ki 0, kr 96]) C hT hE (kdec dc_L_accidents 6 rfl) cv_L_90 rfl rfl ((me_pf_P_accidents_0 l0 hfl h).C μ z) ⟨rfl, rfl⟩ ⟨Nat.le_of_ble_eq_true rfl, Nat.le_of_ble_eq_true rfl⟩ ⟨Nat.le_of_ble_eq_true rfl, Nat.le_of_ble_eq_true rfl⟩ rfl (Nat.le_of_ble_eq_true rfl) (fun q hq => by cases hq) ⟨⟨by decide, by decide, by decide⟩, sNE, wl_1069, Or.inl ⟨rfl, rfl, Or.inl rfl⟩⟩ 17 (Or.inr ⟨kdec dc_L_accidents 10 rfl, rfl⟩) (by decide) rfl ?_
  refine kw_iconst C (kdec dc_L_accidents 11 rfl) 18 rfl rfl ⟨by decide, by decide⟩ ?_
  exact kw_xret (Nat.le_of_ble_eq_true rfl) (Nat.le_of_ble_eq_true rfl) (kw_ireturn C (kdec dc_L_accidents 12 rfl)))
theorem he2_L_accidents (l0 : Launch) (hfl : l0.stackTraces = false) {σ : kM} {x1 : Int} {x2 : Int} {x3 : Int} {τ : kM} (h : pf_P_accidents_0 σ x1 x2 x3 = some (.inl sIA, τ)) (μ : kM) (z : Nat → Int) : kHet l0 ky_L_accidents method_27_code 6 [(0, 12, 15, 18), (0, 12, 19, 13)] R0_L_accidents yL (kmg σ μ z) [kr 0, ki x1, ki x2, ki x3, kr 96] 2 (kmg τ μ z) 3 18 := kHet.of [some (kr 0), some (ki x1), some (ki x2), some (ki x3), some (kr 96), none] (by decide) (Nat.le_of_ble_eq_true rfl) ⟨rfl, rfl, rfl, rfl, rfl, trivial⟩ (fun x C hT hE => by
  refine kw_aload C (kdec dc_L_accidents 0 rfl) 2 rfl rfl ?_
  refine kw_iconst C (kdec dc_L_accidents 1 rfl) 3 rfl rfl ⟨by decide, by decide⟩ ?_
  refine kw_aload_n C (kdec dc_L_accidents 2 rfl) rfl 4 rfl rfl ?_
  refine kw_iload_n C (kdec dc_L_accidents 3 rfl) rfl 5 rfl rfl ?_
  refine kw_iload_n C (kdec dc_L_accidents 4 rfl) rfl 6 rfl rfl ?_
  refine kw_iload_n C (kdec dc_L_accidents 5 rfl) rfl 7 rfl rfl ?_
  refine kw_callVX_c (pre := [(0, 12, 15, 18)]) (h := (0, 12, 19, 13)) (rest := []) (i := 5) (As := [ki x1, ki x2, ki x3]) (S := [ki 0, kr 96]) C hT hE (kdec dc_L_accidents 6 rfl) cv_L_90 rfl rfl ((me_pf_P_accidents_0 l0 hfl h).C μ z) ⟨rfl, rfl⟩ ⟨Nat.le_of_ble_eq_true rfl, Nat.le_of_ble_eq_true rfl⟩ ⟨Nat.le_of_ble_eq_true rfl, Nat.le_of_ble_eq_true rfl⟩ rfl (Nat.le_of_ble_eq_true rfl) (fun q hq => by rw [List.mem_singleton] at hq; subst hq; exact ⟨⟨by decide, by decide, by decide⟩, sNE, wl_1069, Or.inr ⟨rfl, rfl, rfl⟩⟩) ⟨⟨by decide, by decide, by decide⟩, sIA, wl_682, Or.inl ⟨rfl, rfl, Or.inr rfl⟩⟩ 21 (Or.inr ⟨kdec dc_L_accidents 13 rfl, rfl⟩) (by decide) rfl ?_
  refine kw_iconst C (kdec dc_L_accidents 14 rfl) 22 rfl rfl ⟨by decide, by decide⟩ ?_
  exact kw_xret (Nat.le_of_ble_eq_true rfl) (Nat.le_of_ble_eq_true rfl) (kw_ireturn C (kdec dc_L_accidents 15 rfl)))
theorem hx_L_game (l0 : Launch) (hfl : l0.stackTraces = false) {σ : kM} {x1 : Int} {x2 : Int} {x3 : Int} {r : Int} {τ : kM} (h : pf_P_game_0 σ x1 x2 x3 = some (.inr r, τ)) (μ : kM) (z : Nat → Int) : kHet l0 ky_L_game method_28_code 6 [(0, 12, 15, 18), (0, 12, 19, 13)] R0_L_game yL (kmg σ μ z) [kr 0, ki x1, ki x2, ki x3, kr 96] 0 (kmg τ μ (kup z 0 r)) 4 24 := kHet.of [some (kr 0), some (ki x1), some (ki x2), some (ki x3), some (kr 96), none] (by decide) (Nat.le_of_ble_eq_true rfl) ⟨rfl, rfl, rfl, rfl, rfl, trivial⟩ (fun x C hT hE => by
  refine kw_aload C (kdec dc_L_game 0 rfl) 2 rfl rfl ?_
  refine kw_iconst C (kdec dc_L_game 1 rfl) 3 rfl rfl ⟨by decide, by decide⟩ ?_
  refine kw_aload_n C (kdec dc_L_game 2 rfl) rfl 4 rfl rfl ?_
  refine kw_iload_n C (kdec dc_L_game 3 rfl) rfl 5 rfl rfl ?_
  refine kw_iload_n C (kdec dc_L_game 4 rfl) rfl 6 rfl rfl ?_
  refine kw_iload_n C (kdec dc_L_game 5 rfl) rfl 7 rfl rfl ?_
  refine kw_callVX (As := [ki x1, ki x2, ki x3]) (S := [ki 0, kr 96]) C (kdec dc_L_game 6 rfl) 10 rfl cv_L_93 rfl rfl ((mx_pf_P_game_0 l0 hfl h).C μ z) ⟨rfl, rfl⟩ ⟨Nat.le_of_ble_eq_true rfl, Nat.le_of_ble_eq_true rfl⟩ ⟨Nat.le_of_ble_eq_true rfl, Nat.le_of_ble_eq_true rfl⟩ rfl (Nat.le_of_ble_eq_true rfl) ?_
  refine kw_i2l C (kdec dc_L_game 7 rfl) 11 rfl ?_
  refine kw_last (k := 96) (n := 1) C (kdec dc_L_game 8 rfl) 12 rfl yL_out (by decide) (by decide) ?_
  refine kw_sig (kmg_out τ μ z (kup z 0 r)).symm ?_
  refine kw_goto C (kdec dc_L_game 9 rfl) 23 (by decide) ?_
  refine kw_iconst C (kdec dc_L_game 16 rfl) 24 rfl rfl ⟨by decide, by decide⟩ ?_
  exact kw_xret (Nat.le_of_ble_eq_true rfl) (Nat.le_of_ble_eq_true rfl) (kw_ireturn C (kdec dc_L_game 17 rfl)))
theorem he1_L_game (l0 : Launch) (hfl : l0.stackTraces = false) {σ : kM} {x1 : Int} {x2 : Int} {x3 : Int} {τ : kM} (h : pf_P_game_0 σ x1 x2 x3 = some (.inl sNE, τ)) (μ : kM) (z : Nat → Int) : kHet l0 ky_L_game method_28_code 6 [(0, 12, 15, 18), (0, 12, 19, 13)] R0_L_game yL (kmg σ μ z) [kr 0, ki x1, ki x2, ki x3, kr 96] 1 (kmg τ μ z) 4 24 := kHet.of [some (kr 0), some (ki x1), some (ki x2), some (ki x3), some (kr 96), none] (by decide) (Nat.le_of_ble_eq_true rfl) ⟨rfl, rfl, rfl, rfl, rfl, trivial⟩ (fun x C hT hE => by
  refine kw_aload C (kdec dc_L_game 0 rfl) 2 rfl rfl ?_
  refine kw_iconst C (kdec dc_L_game 1 rfl) 3 rfl rfl ⟨by decide, by decide⟩ ?_
  refine kw_aload_n C (kdec dc_L_game 2 rfl) rfl 4 rfl rfl ?_
  refine kw_iload_n C (kdec dc_L_game 3 rfl) rfl 5 rfl rfl ?_
  refine kw_iload_n C (kdec dc_L_game 4 rfl) rfl 6 rfl rfl ?_
  refine kw_iload_n C (kdec dc_L_game 5 rfl) rfl 7 rfl rfl ?_
  refine kw_callVX_c (pre := []) (h := (0, 12, 15, 18)) (rest := [(0, 12, 19, 13)]) (i := 5) (As := [ki x1, ki x2, ki x3]) (S := [ki 0, kr 96]) C hT hE (kdec dc_L_game 6 rfl) cv_L_93 rfl rfl ((me_pf_P_game_0 l0 hfl h).C μ z) ⟨rfl, rfl⟩ ⟨Nat.le_of_ble_eq_true rfl, Nat.le_of_ble_eq_true rfl⟩ ⟨Nat.le_of_ble_eq_true rfl, Nat.le_of_ble_eq_true rfl⟩ rfl (Nat.le_of_ble_eq_true rfl) (fun q hq => by cases hq) ⟨⟨by decide, by decide, by decide⟩, sNE, wl_1069, Or.inl ⟨rfl, rfl, Or.inl rfl⟩⟩ 17 (Or.inr ⟨kdec dc_L_game 10 rfl, rfl⟩) (by decide) rfl ?_
  refine kw_iconst C (kdec dc_L_game 11 rfl) 18 rfl rfl ⟨by decide, by decide⟩ ?_
  exact kw_xret (Nat.le_of_ble_eq_true rfl) (Nat.le_of_ble_eq_true rfl) (kw_ireturn C (kdec dc_L_game 12 rfl)))
theorem he2_L_game (l0 : Launch) (hfl : l0.stackTraces = false) {σ : kM} {x1 : Int} {x2 : Int} {x3 : Int} {τ : kM} (h : pf_P_game_0 σ x1 x2 x3 = some (.inl sIA, τ)) (μ : kM) (z : Nat → Int) : kHet l0 ky_L_game method_28_code 6 [(0, 12, 15, 18), (0, 12, 19, 13)] R0_L_game yL (kmg σ μ z) [kr 0, ki x1, ki x2, ki x3, kr 96] 2 (kmg τ μ z) 4 24 := kHet.of [some (kr 0), some (ki x1), some (ki x2), some (ki x3), some (kr 96), none] (by decide) (Nat.le_of_ble_eq_true rfl) ⟨rfl, rfl, rfl, rfl, rfl, trivial⟩ (fun x C hT hE => by
  refine kw_aload C (kdec dc_L_game 0 rfl) 2 rfl rfl ?_
  refine kw_iconst C (kdec dc_L_game 1 rfl) 3 rfl rfl ⟨by decide, by decide⟩ ?_
  refine kw_aload_n C (kdec dc_L_game 2 rfl) rfl 4 rfl rfl ?_
  refine kw_iload_n C (kdec dc_L_game 3 rfl) rfl 5 rfl rfl ?_
  refine kw_iload_n C (kdec dc_L_game 4 rfl) rfl 6 rfl rfl ?_
  refine kw_iload_n C (kdec dc_L_game 5 rfl) rfl 7 rfl rfl ?_
  refine kw_callVX_c (pre := [(0, 12, 15, 18)]) (h := (0, 12, 19, 13)) (rest := []) (i := 5) (As := [ki x1, ki x2, ki x3]) (S := [ki 0, kr 96]) C hT hE (kdec dc_L_game 6 rfl) cv_L_93 rfl rfl ((me_pf_P_game_0 l0 hfl h).C μ z) ⟨rfl, rfl⟩ ⟨Nat.le_of_ble_eq_true rfl, Nat.le_of_ble_eq_true rfl⟩ ⟨Nat.le_of_ble_eq_true rfl, Nat.le_of_ble_eq_true rfl⟩ rfl (Nat.le_of_ble_eq_true rfl) (fun q hq => by rw [List.mem_singleton] at hq; subst hq; exact ⟨⟨by decide, by decide, by decide⟩, sNE, wl_1069, Or.inr ⟨rfl, rfl, rfl⟩⟩) ⟨⟨by decide, by decide, by decide⟩, sIA, wl_682, Or.inl ⟨rfl, rfl, Or.inr rfl⟩⟩ 21 (Or.inr ⟨kdec dc_L_game 13 rfl, rfl⟩) (by decide) rfl ?_
  refine kw_iconst C (kdec dc_L_game 14 rfl) 22 rfl rfl ⟨by decide, by decide⟩ ?_
  exact kw_xret (Nat.le_of_ble_eq_true rfl) (Nat.le_of_ble_eq_true rfl) (kw_ireturn C (kdec dc_L_game 15 rfl)))
theorem hx_L_decades (l0 : Launch) (hfl : l0.stackTraces = false) {σ : kM} {x1 : Int} {x2 : Int} {x3 : Int} {r : Int} {τ : kM} (h : pf_P_decades_0 σ x1 x2 x3 = some (.inr r, τ)) (μ : kM) (z : Nat → Int) : kHet l0 ky_L_decades method_29_code 6 [(0, 12, 15, 18), (0, 12, 19, 13)] R0_L_decades yL (kmg σ μ z) [kr 0, ki x1, ki x2, ki x3, kr 96] 0 (kmg τ μ (kup z 0 r)) 2 12 := kHet.of [some (kr 0), some (ki x1), some (ki x2), some (ki x3), some (kr 96), none] (by decide) (Nat.le_of_ble_eq_true rfl) ⟨rfl, rfl, rfl, rfl, rfl, trivial⟩ (fun x C hT hE => by
  refine kw_aload C (kdec dc_L_decades 0 rfl) 2 rfl rfl ?_
  refine kw_iconst C (kdec dc_L_decades 1 rfl) 3 rfl rfl ⟨by decide, by decide⟩ ?_
  refine kw_aload_n C (kdec dc_L_decades 2 rfl) rfl 4 rfl rfl ?_
  refine kw_iload_n C (kdec dc_L_decades 3 rfl) rfl 5 rfl rfl ?_
  refine kw_iload_n C (kdec dc_L_decades 4 rfl) rfl 6 rfl rfl ?_
  refine kw_iload_n C (kdec dc_L_decades 5 rfl) rfl 7 rfl rfl ?_
  refine kw_callVX (As := [ki x1, ki x2, ki x3]) (S := [ki 0, kr 96]) C (kdec dc_L_decades 6 rfl) 10 rfl cv_L_96 rfl rfl ((mx_pf_P_decades_0 l0 hfl h).C μ z) ⟨rfl, rfl⟩ ⟨Nat.le_of_ble_eq_true rfl, Nat.le_of_ble_eq_true rfl⟩ ⟨Nat.le_of_ble_eq_true rfl, Nat.le_of_ble_eq_true rfl⟩ rfl (Nat.le_of_ble_eq_true rfl) ?_
  refine kw_i2l C (kdec dc_L_decades 7 rfl) 11 rfl ?_
  refine kw_last (k := 96) (n := 1) C (kdec dc_L_decades 8 rfl) 12 rfl yL_out (by decide) (by decide) ?_
  refine kw_sig (kmg_out τ μ z (kup z 0 r)).symm ?_
  refine kw_goto C (kdec dc_L_decades 9 rfl) 23 (by decide) ?_
  refine kw_iconst C (kdec dc_L_decades 16 rfl) 24 rfl rfl ⟨by decide, by decide⟩ ?_
  exact kw_xret (Nat.le_of_ble_eq_true rfl) (Nat.le_of_ble_eq_true rfl) (kw_ireturn C (kdec dc_L_decades 17 rfl)))
theorem he1_L_decades (l0 : Launch) (hfl : l0.stackTraces = false) {σ : kM} {x1 : Int} {x2 : Int} {x3 : Int} {τ : kM} (h : pf_P_decades_0 σ x1 x2 x3 = some (.inl sNE, τ)) (μ : kM) (z : Nat → Int) : kHet l0 ky_L_decades method_29_code 6 [(0, 12, 15, 18), (0, 12, 19, 13)] R0_L_decades yL (kmg σ μ z) [kr 0, ki x1, ki x2, ki x3, kr 96] 1 (kmg τ μ z) 2 12 := kHet.of [some (kr 0), some (ki x1), some (ki x2), some (ki x3), some (kr 96), none] (by decide) (Nat.le_of_ble_eq_true rfl) ⟨rfl, rfl, rfl, rfl, rfl, trivial⟩ (fun x C hT hE => by
  refine kw_aload C (kdec dc_L_decades 0 rfl) 2 rfl rfl ?_
  refine kw_iconst C (kdec dc_L_decades 1 rfl) 3 rfl rfl ⟨by decide, by decide⟩ ?_
  refine kw_aload_n C (kdec dc_L_decades 2 rfl) rfl 4 rfl rfl ?_
  refine kw_iload_n C (kdec dc_L_decades 3 rfl) rfl 5 rfl rfl ?_
  refine kw_iload_n C (kdec dc_L_decades 4 rfl) rfl 6 rfl rfl ?_
  refine kw_iload_n C (kdec dc_L_decades 5 rfl) rfl 7 rfl rfl ?_
  refine kw_callVX_c (pre := []) (h := (0, 12, 15, 18)) (rest := [(0, 12, 19, 13)]) (i := 5) (As := [ki x1, ki x2, ki x3]) (S := [ki 0, kr 96]) C hT hE (kdec dc_L_decades 6 rfl) cv_L_96 rfl rfl ((me_pf_P_decades_0 l0 hfl h).C μ z) ⟨rfl, rfl⟩ ⟨Nat.le_of_ble_eq_true rfl, Nat.le_of_ble_eq_true rfl⟩ ⟨Nat.le_of_ble_eq_true rfl, Nat.le_of_ble_eq_true rfl⟩ rfl (Nat.le_of_ble_eq_true rfl) (fun q hq => by cases hq) ⟨⟨by decide, by decide, by decide⟩, sNE, wl_1069, Or.inl ⟨rfl, rfl, Or.inl rfl⟩⟩ 17 (Or.inr ⟨kdec dc_L_decades 10 rfl, rfl⟩) (by decide) rfl ?_
  refine kw_iconst C (kdec dc_L_decades 11 rfl) 18 rfl rfl ⟨by decide, by decide⟩ ?_
  exact kw_xret (Nat.le_of_ble_eq_true rfl) (Nat.le_of_ble_eq_true rfl) (kw_ireturn C (kdec dc_L_decades 12 rfl)))
theorem he2_L_decades (l0 : Launch) (hfl : l0.stackTraces = false) {σ : kM} {x1 : Int} {x2 : Int} {x3 : Int} {τ : kM} (h : pf_P_decades_0 σ x1 x2 x3 = some (.inl sIA, τ)) (μ : kM) (z : Nat → Int) : kHet l0 ky_L_decades method_29_code 6 [(0, 12, 15, 18), (0, 12, 19, 13)] R0_L_decades yL (kmg σ μ z) [kr 0, ki x1, ki x2, ki x3, kr 96] 2 (kmg τ μ z) 2 12 := kHet.of [some (kr 0), some (ki x1), some (ki x2), some (ki x3), some (kr 96), none] (by decide) (Nat.le_of_ble_eq_true rfl) ⟨rfl, rfl, rfl, rfl, rfl, trivial⟩ (fun x C hT hE => by
  refine kw_aload C (kdec dc_L_decades 0 rfl) 2 rfl rfl ?_
  refine kw_iconst C (kdec dc_L_decades 1 rfl) 3 rfl rfl ⟨by decide, by decide⟩ ?_
  refine kw_aload_n C (kdec dc_L_decades 2 rfl) rfl 4 rfl rfl ?_
  refine kw_iload_n C (kdec dc_L_decades 3 rfl) rfl 5 rfl rfl ?_
  refine kw_iload_n C (kdec dc_L_decades 4 rfl) rfl 6 rfl rfl ?_
  refine kw_iload_n C (kdec dc_L_decades 5 rfl) rfl 7 rfl rfl ?_
  refine kw_callVX_c (pre := [(0, 12, 15, 18)]) (h := (0, 12, 19, 13)) (rest := []) (i := 5) (As := [ki x1, ki x2, ki x3]) (S := [ki 0, kr 96]) C hT hE (kdec dc_L_decades 6 rfl) cv_L_96 rfl rfl ((me_pf_P_decades_0 l0 hfl h).C μ z) ⟨rfl, rfl⟩ ⟨Nat.le_of_ble_eq_true rfl, Nat.le_of_ble_eq_true rfl⟩ ⟨Nat.le_of_ble_eq_true rfl, Nat.le_of_ble_eq_true rfl⟩ rfl (Nat.le_of_ble_eq_true rfl) (fun q hq => by rw [List.mem_singleton] at hq; subst hq; exact ⟨⟨by decide, by decide, by decide⟩, sNE, wl_1069, Or.inr ⟨rfl, rfl, rfl⟩⟩) ⟨⟨by decide, by decide, by decide⟩, sIA, wl_682, Or.inl ⟨rfl, rfl, Or.inr rfl⟩⟩ 21 (Or.inr ⟨kdec dc_L_decades 13 rfl, rfl⟩) (by decide) rfl ?_
  refine kw_iconst C (kdec dc_L_decades 14 rfl) 22 rfl rfl ⟨by decide, by decide⟩ ?_
  exact kw_xret (Nat.le_of_ble_eq_true rfl) (Nat.le_of_ble_eq_true rfl) (kw_ireturn C (kdec dc_L_decades 15 rfl)))
theorem hx_L_jailed (l0 : Launch) (hfl : l0.stackTraces = false) {σ : kM} {x1 : Int} {x2 : Int} {r : Int} {τ : kM} (h : pf_P_jailed_0 σ x1 x2 = some (.inr r, τ)) (μ : kM) (z : Nat → Int) : kHet l0 ky_L_jailed method_30_code 5 [(0, 10, 13, 18), (0, 10, 17, 13)] R0_L_jailed yL (kmg σ μ z) [kr 0, ki x1, ki x2, kr 96] 0 (kmg τ μ (kup z 0 r)) 2 12 := kHet.of [some (kr 0), some (ki x1), some (ki x2), some (kr 96), none] (by decide) (Nat.le_of_ble_eq_true rfl) ⟨rfl, rfl, rfl, rfl, trivial⟩ (fun x C hT hE => by
  refine kw_aload_n C (kdec dc_L_jailed 0 rfl) rfl 1 rfl rfl ?_
  refine kw_iconst C (kdec dc_L_jailed 1 rfl) 2 rfl rfl ⟨by decide, by decide⟩ ?_
  refine kw_aload_n C (kdec dc_L_jailed 2 rfl) rfl 3 rfl rfl ?_
  refine kw_iload_n C (kdec dc_L_jailed 3 rfl) rfl 4 rfl rfl ?_
  refine kw_iload_n C (kdec dc_L_jailed 4 rfl) rfl 5 rfl rfl ?_
  refine kw_callVX (As := [ki x1, ki x2]) (S := [ki 0, kr 96]) C (kdec dc_L_jailed 5 rfl) 8 rfl cv_L_99 rfl rfl ((mx_pf_P_jailed_0 l0 hfl h).C μ z) ⟨rfl, rfl⟩ ⟨Nat.le_of_ble_eq_true rfl, Nat.le_of_ble_eq_true rfl⟩ ⟨Nat.le_of_ble_eq_true rfl, Nat.le_of_ble_eq_true rfl⟩ rfl (Nat.le_of_ble_eq_true rfl) ?_
  refine kw_i2l C (kdec dc_L_jailed 6 rfl) 9 rfl ?_
  refine kw_last (k := 96) (n := 1) C (kdec dc_L_jailed 7 rfl) 10 rfl yL_out (by decide) (by decide) ?_
  refine kw_sig (kmg_out τ μ z (kup z 0 r)).symm ?_
  refine kw_goto C (kdec dc_L_jailed 8 rfl) 21 (by decide) ?_
  refine kw_iconst C (kdec dc_L_jailed 15 rfl) 22 rfl rfl ⟨by decide, by decide⟩ ?_
  exact kw_xret (Nat.le_of_ble_eq_true rfl) (Nat.le_of_ble_eq_true rfl) (kw_ireturn C (kdec dc_L_jailed 16 rfl)))
theorem he1_L_jailed (l0 : Launch) (hfl : l0.stackTraces = false) {σ : kM} {x1 : Int} {x2 : Int} {τ : kM} (h : pf_P_jailed_0 σ x1 x2 = some (.inl sNE, τ)) (μ : kM) (z : Nat → Int) : kHet l0 ky_L_jailed method_30_code 5 [(0, 10, 13, 18), (0, 10, 17, 13)] R0_L_jailed yL (kmg σ μ z) [kr 0, ki x1, ki x2, kr 96] 1 (kmg τ μ z) 2 12 := kHet.of [some (kr 0), some (ki x1), some (ki x2), some (kr 96), none] (by decide) (Nat.le_of_ble_eq_true rfl) ⟨rfl, rfl, rfl, rfl, trivial⟩ (fun x C hT hE => by
  refine kw_aload_n C (kdec dc_L_jailed 0 rfl) rfl 1 rfl rfl ?_
  refine kw_iconst C (kdec dc_L_jailed 1 rfl) 2 rfl rfl ⟨by decide, by decide⟩ ?_
  refine kw_aload_n C (kdec dc_L_jailed 2 rfl) rfl 3 rfl rfl ?_
  refine kw_iload_n C (kdec dc_L_jailed 3 rfl) rfl 4 rfl rfl ?_
  refine kw_iload_n C (kdec dc_L_jailed 4 rfl) rfl 5 rfl rfl ?_
  refine kw_callVX_c (pre := []) (h := (0, 10, 13, 18)) (rest := [(0, 10, 17, 13)]) (i := 4) (As := [ki x1, ki x2]) (S := [ki 0, kr 96]) C hT hE (kdec dc_L_jailed 5 rfl) cv_L_99 rfl rfl ((me_pf_P_jailed_0 l0 hfl h).C μ z) ⟨rfl, rfl⟩ ⟨Nat.le_of_ble_eq_true rfl, Nat.le_of_ble_eq_true rfl⟩ ⟨Nat.le_of_ble_eq_true rfl, Nat.le_of_ble_eq_true rfl⟩ rfl (Nat.le_of_ble_eq_true rfl) (fun q hq => by cases hq) ⟨⟨by decide, by decide, by decide⟩, sNE, wl_1069, Or.inl ⟨rfl, rfl, Or.inl rfl⟩⟩ 15 (Or.inr ⟨kdec dc_L_jailed 9 rfl, rfl⟩) (by decide) rfl ?_
  refine kw_iconst C (kdec dc_L_jailed 10 rfl) 16 rfl rfl ⟨by decide, by decide⟩ ?_
  exact kw_xret (Nat.le_of_ble_eq_true rfl) (Nat.le_of_ble_eq_true rfl) (kw_ireturn C (kdec dc_L_jailed 11 rfl)))
theorem he2_L_jailed (l0 : Launch) (hfl : l0.stackTraces = false) {σ : kM} {x1 : Int} {x2 : Int} {τ : kM} (h : pf_P_jailed_0 σ x1 x2 = some (.inl sIA, τ)) (μ : kM) (z : Nat → Int) : kHet l0 ky_L_jailed method_30_code 5 [(0, 10, 13, 18), (0, 10, 17, 13)] R0_L_jailed yL (kmg σ μ z) [kr 0, ki x1, ki x2, kr 96] 2 (kmg τ μ z) 2 12 := kHet.of [some (kr 0), some (ki x1), some (ki x2), some (kr 96), none] (by decide) (Nat.le_of_ble_eq_true rfl) ⟨rfl, rfl, rfl, rfl, trivial⟩ (fun x C hT hE => by
  refine kw_aload_n C (kdec dc_L_jailed 0 rfl) rfl 1 rfl rfl ?_
  refine kw_iconst C (kdec dc_L_jailed 1 rfl) 2 rfl rfl ⟨by decide, by decide⟩ ?_
  refine kw_aload_n C (kdec dc_L_jailed 2 rfl) rfl 3 rfl rfl ?_
  refine kw_iload_n C (kdec dc_L_jailed 3 rfl) rfl 4 rfl rfl ?_
  refine kw_iload_n C (kdec dc_L_jailed 4 rfl) rfl 5 rfl rfl ?_
  refine kw_callVX_c (pre := [(0, 10, 13, 18)]) (h := (0, 10, 17, 13)) (rest := []) (i := 4) (As := [ki x1, ki x2]) (S := [ki 0, kr 96]) C hT hE (kdec dc_L_jailed 5 rfl) cv_L_99 rfl rfl ((me_pf_P_jailed_0 l0 hfl h).C μ z) ⟨rfl, rfl⟩ ⟨Nat.le_of_ble_eq_true rfl, Nat.le_of_ble_eq_true rfl⟩ ⟨Nat.le_of_ble_eq_true rfl, Nat.le_of_ble_eq_true rfl⟩ rfl (Nat.le_of_ble_eq_true rfl) (fun q hq => by rw [List.mem_singleton] at hq; subst hq; exact ⟨⟨by decide, by decide, by decide⟩, sNE, wl_1069, Or.inr ⟨rfl, rfl, rfl⟩⟩) ⟨⟨by decide, by decide, by decide⟩, sIA, wl_682, Or.inl ⟨rfl, rfl, Or.inr rfl⟩⟩ 19 (Or.inr ⟨kdec dc_L_jailed 12 rfl, rfl⟩) (by decide) rfl ?_
  refine kw_iconst C (kdec dc_L_jailed 13 rfl) 20 rfl rfl ⟨by decide, by decide⟩ ?_
  exact kw_xret (Nat.le_of_ble_eq_true rfl) (Nat.le_of_ble_eq_true rfl) (kw_ireturn C (kdec dc_L_jailed 14 rfl)))
theorem hx_L_into (l0 : Launch) (hfl : l0.stackTraces = false) {σ : kM} {x1 : Int} {x2 : Int} {x3 : Int} {r : Int} {τ : kM} (h : pf_P_into_0 σ x1 x2 x3 = some (.inr r, τ)) (μ : kM) (z : Nat → Int) : kHet l0 ky_L_into method_31_code 6 [(0, 12, 15, 18), (0, 12, 19, 13)] R0_L_into yL (kmg σ μ z) [kr 0, ki x1, ki x2, ki x3, kr 96] 0 (kmg τ μ (kup z 0 r)) 3 18 := kHet.of [some (kr 0), some (ki x1), some (ki x2), some (ki x3), some (kr 96), none] (by decide) (Nat.le_of_ble_eq_true rfl) ⟨rfl, rfl, rfl, rfl, rfl, trivial⟩ (fun x C hT hE => by
  refine kw_aload C (kdec dc_L_into 0 rfl) 2 rfl rfl ?_
  refine kw_iconst C (kdec dc_L_into 1 rfl) 3 rfl rfl ⟨by decide, by decide⟩ ?_
  refine kw_aload_n C (kdec dc_L_into 2 rfl) rfl 4 rfl rfl ?_
  refine kw_iload_n C (kdec dc_L_into 3 rfl) rfl 5 rfl rfl ?_
  refine kw_iload_n C (kdec dc_L_into 4 rfl) rfl 6 rfl rfl ?_
  refine kw_iload_n C (kdec dc_L_into 5 rfl) rfl 7 rfl rfl ?_
  refine kw_callVX (As := [ki x1, ki x2, ki x3]) (S := [ki 0, kr 96]) C (kdec dc_L_into 6 rfl) 10 rfl cv_L_102 rfl rfl ((mx_pf_P_into_0 l0 hfl h).C μ z) ⟨rfl, rfl⟩ ⟨Nat.le_of_ble_eq_true rfl, Nat.le_of_ble_eq_true rfl⟩ ⟨Nat.le_of_ble_eq_true rfl, Nat.le_of_ble_eq_true rfl⟩ rfl (Nat.le_of_ble_eq_true rfl) ?_
  refine kw_i2l C (kdec dc_L_into 7 rfl) 11 rfl ?_
  refine kw_last (k := 96) (n := 1) C (kdec dc_L_into 8 rfl) 12 rfl yL_out (by decide) (by decide) ?_
  refine kw_sig (kmg_out τ μ z (kup z 0 r)).symm ?_
  refine kw_goto C (kdec dc_L_into 9 rfl) 23 (by decide) ?_
  refine kw_iconst C (kdec dc_L_into 16 rfl) 24 rfl rfl ⟨by decide, by decide⟩ ?_
  exact kw_xret (Nat.le_of_ble_eq_true rfl) (Nat.le_of_ble_eq_true rfl) (kw_ireturn C (kdec dc_L_into 17 rfl)))
theorem he1_L_into (l0 : Launch) (hfl : l0.stackTraces = false) {σ : kM} {x1 : Int} {x2 : Int} {x3 : Int} {τ : kM} (h : pf_P_into_0 σ x1 x2 x3 = some (.inl sNE, τ)) (μ : kM) (z : Nat → Int) : kHet l0 ky_L_into method_31_code 6 [(0, 12, 15, 18), (0, 12, 19, 13)] R0_L_into yL (kmg σ μ z) [kr 0, ki x1, ki x2, ki x3, kr 96] 1 (kmg τ μ z) 3 18 := kHet.of [some (kr 0), some (ki x1), some (ki x2), some (ki x3), some (kr 96), none] (by decide) (Nat.le_of_ble_eq_true rfl) ⟨rfl, rfl, rfl, rfl, rfl, trivial⟩ (fun x C hT hE => by
  refine kw_aload C (kdec dc_L_into 0 rfl) 2 rfl rfl ?_
  refine kw_iconst C (kdec dc_L_into 1 rfl) 3 rfl rfl ⟨by decide, by decide⟩ ?_
  refine kw_aload_n C (kdec dc_L_into 2 rfl) rfl 4 rfl rfl ?_
  refine kw_iload_n C (kdec dc_L_into 3 rfl) rfl 5 rfl rfl ?_
  refine kw_iload_n C (kdec dc_L_into 4 rfl) rfl 6 rfl rfl ?_
  refine kw_iload_n C (kdec dc_L_into 5 rfl) rfl 7 rfl rfl ?_
  refine kw_callVX_c (pre := []) (h := (0, 12, 15, 18)) (rest := [(0, 12, 19, 13)]) (i := 5) (As := [ki x1, ki x2, ki x3]) (S := [ki 0, kr 96]) C hT hE (kdec dc_L_into 6 rfl) cv_L_102 rfl rfl ((me_pf_P_into_0 l0 hfl h).C μ z) ⟨rfl, rfl⟩ ⟨Nat.le_of_ble_eq_true rfl, Nat.le_of_ble_eq_true rfl⟩ ⟨Nat.le_of_ble_eq_true rfl, Nat.le_of_ble_eq_true rfl⟩ rfl (Nat.le_of_ble_eq_true rfl) (fun q hq => by cases hq) ⟨⟨by decide, by decide, by decide⟩, sNE, wl_1069, Or.inl ⟨rfl, rfl, Or.inl rfl⟩⟩ 17 (Or.inr ⟨kdec dc_L_into 10 rfl, rfl⟩) (by decide) rfl ?_
  refine kw_iconst C (kdec dc_L_into 11 rfl) 18 rfl rfl ⟨by decide, by decide⟩ ?_
  exact kw_xret (Nat.le_of_ble_eq_true rfl) (Nat.le_of_ble_eq_true rfl) (kw_ireturn C (kdec dc_L_into 12 rfl)))
theorem he2_L_into (l0 : Launch) (hfl : l0.stackTraces = false) {σ : kM} {x1 : Int} {x2 : Int} {x3 : Int} {τ : kM} (h : pf_P_into_0 σ x1 x2 x3 = some (.inl sIA, τ)) (μ : kM) (z : Nat → Int) : kHet l0 ky_L_into method_31_code 6 [(0, 12, 15, 18), (0, 12, 19, 13)] R0_L_into yL (kmg σ μ z) [kr 0, ki x1, ki x2, ki x3, kr 96] 2 (kmg τ μ z) 3 18 := kHet.of [some (kr 0), some (ki x1), some (ki x2), some (ki x3), some (kr 96), none] (by decide) (Nat.le_of_ble_eq_true rfl) ⟨rfl, rfl, rfl, rfl, rfl, trivial⟩ (fun x C hT hE => by
  refine kw_aload C (kdec dc_L_into 0 rfl) 2 rfl rfl ?_
  refine kw_iconst C (kdec dc_L_into 1 rfl) 3 rfl rfl ⟨by decide, by decide⟩ ?_
  refine kw_aload_n C (kdec dc_L_into 2 rfl) rfl 4 rfl rfl ?_
  refine kw_iload_n C (kdec dc_L_into 3 rfl) rfl 5 rfl rfl ?_
  refine kw_iload_n C (kdec dc_L_into 4 rfl) rfl 6 rfl rfl ?_
  refine kw_iload_n C (kdec dc_L_into 5 rfl) rfl 7 rfl rfl ?_
  refine kw_callVX_c (pre := [(0, 12, 15, 18)]) (h := (0, 12, 19, 13)) (rest := []) (i := 5) (As := [ki x1, ki x2, ki x3]) (S := [ki 0, kr 96]) C hT hE (kdec dc_L_into 6 rfl) cv_L_102 rfl rfl ((me_pf_P_into_0 l0 hfl h).C μ z) ⟨rfl, rfl⟩ ⟨Nat.le_of_ble_eq_true rfl, Nat.le_of_ble_eq_true rfl⟩ ⟨Nat.le_of_ble_eq_true rfl, Nat.le_of_ble_eq_true rfl⟩ rfl (Nat.le_of_ble_eq_true rfl) (fun q hq => by rw [List.mem_singleton] at hq; subst hq; exact ⟨⟨by decide, by decide, by decide⟩, sNE, wl_1069, Or.inr ⟨rfl, rfl, rfl⟩⟩) ⟨⟨by decide, by decide, by decide⟩, sIA, wl_682, Or.inl ⟨rfl, rfl, Or.inr rfl⟩⟩ 21 (Or.inr ⟨kdec dc_L_into 13 rfl, rfl⟩) (by decide) rfl ?_
  refine kw_iconst C (kdec dc_L_into 14 rfl) 22 rfl rfl ⟨by decide, by decide⟩ ?_
  exact kw_xret (Nat.le_of_ble_eq_true rfl) (Nat.le_of_ble_eq_true rfl) (kw_ireturn C (kdec dc_L_into 15 rfl)))
theorem hx_L_laureate (l0 : Launch) (hfl : l0.stackTraces = false) {σ : kM} {x1 : Int} {r : Int} {τ : kM} (h : pf_P_laureate_0 σ x1 = some (.inr r, τ)) (μ : kM) (z : Nat → Int) : kHet l0 ky_L_laureate method_32_code 4 [(0, 9, 12, 13)] R0_L_laureate yL (kmg σ μ z) [kr 0, ki x1, kr 96] 0 (kmg τ μ (kup z 0 r)) 1 6 := kHet.of [some (kr 0), some (ki x1), some (kr 96), none] (by decide) (Nat.le_of_ble_eq_true rfl) ⟨rfl, rfl, rfl, trivial⟩ (fun x C hT hE => by
  refine kw_aload_n C (kdec dc_L_laureate 0 rfl) rfl 1 rfl rfl ?_
  refine kw_iconst C (kdec dc_L_laureate 1 rfl) 2 rfl rfl ⟨by decide, by decide⟩ ?_
  refine kw_aload_n C (kdec dc_L_laureate 2 rfl) rfl 3 rfl rfl ?_
  refine kw_iload_n C (kdec dc_L_laureate 3 rfl) rfl 4 rfl rfl ?_
  refine kw_callVX (As := [ki x1]) (S := [ki 0, kr 96]) C (kdec dc_L_laureate 4 rfl) 7 rfl cv_L_105 rfl rfl ((mx_pf_P_laureate_0 l0 hfl h).C μ z) ⟨rfl, rfl⟩ ⟨Nat.le_of_ble_eq_true rfl, Nat.le_of_ble_eq_true rfl⟩ ⟨Nat.le_of_ble_eq_true rfl, Nat.le_of_ble_eq_true rfl⟩ rfl (Nat.le_of_ble_eq_true rfl) ?_
  refine kw_i2l C (kdec dc_L_laureate 5 rfl) 8 rfl ?_
  refine kw_last (k := 96) (n := 1) C (kdec dc_L_laureate 6 rfl) 9 rfl yL_out (by decide) (by decide) ?_
  refine kw_sig (kmg_out τ μ z (kup z 0 r)).symm ?_
  refine kw_goto C (kdec dc_L_laureate 7 rfl) 15 (by decide) ?_
  refine kw_iconst C (kdec dc_L_laureate 11 rfl) 16 rfl rfl ⟨by decide, by decide⟩ ?_
  exact kw_xret (Nat.le_of_ble_eq_true rfl) (Nat.le_of_ble_eq_true rfl) (kw_ireturn C (kdec dc_L_laureate 12 rfl)))
theorem he1_L_laureate (l0 : Launch) (hfl : l0.stackTraces = false) {σ : kM} {x1 : Int} {τ : kM} (h : pf_P_laureate_0 σ x1 = some (.inl sIA, τ)) (μ : kM) (z : Nat → Int) : kHet l0 ky_L_laureate method_32_code 4 [(0, 9, 12, 13)] R0_L_laureate yL (kmg σ μ z) [kr 0, ki x1, kr 96] 1 (kmg τ μ z) 1 6 := kHet.of [some (kr 0), some (ki x1), some (kr 96), none] (by decide) (Nat.le_of_ble_eq_true rfl) ⟨rfl, rfl, rfl, trivial⟩ (fun x C hT hE => by
  refine kw_aload_n C (kdec dc_L_laureate 0 rfl) rfl 1 rfl rfl ?_
  refine kw_iconst C (kdec dc_L_laureate 1 rfl) 2 rfl rfl ⟨by decide, by decide⟩ ?_
  refine kw_aload_n C (kdec dc_L_laureate 2 rfl) rfl 3 rfl rfl ?_
  refine kw_iload_n C (kdec dc_L_laureate 3 rfl) rfl 4 rfl rfl ?_
  refine kw_callVX_c (pre := []) (h := (0, 9, 12, 13)) (rest := []) (i := 3) (As := [ki x1]) (S := [ki 0, kr 96]) C hT hE (kdec dc_L_laureate 4 rfl) cv_L_105 rfl rfl ((me_pf_P_laureate_0 l0 hfl h).C μ z) ⟨rfl, rfl⟩ ⟨Nat.le_of_ble_eq_true rfl, Nat.le_of_ble_eq_true rfl⟩ ⟨Nat.le_of_ble_eq_true rfl, Nat.le_of_ble_eq_true rfl⟩ rfl (Nat.le_of_ble_eq_true rfl) (fun q hq => by cases hq) ⟨⟨by decide, by decide, by decide⟩, sIA, wl_682, Or.inl ⟨rfl, rfl, Or.inr rfl⟩⟩ 13 (Or.inl ⟨3, kdec dc_L_laureate 8 rfl, rfl, rfl⟩) (by decide) rfl ?_
  refine kw_iconst C (kdec dc_L_laureate 9 rfl) 14 rfl rfl ⟨by decide, by decide⟩ ?_
  exact kw_xret (Nat.le_of_ble_eq_true rfl) (Nat.le_of_ble_eq_true rfl) (kw_ireturn C (kdec dc_L_laureate 10 rfl)))
theorem hx_L_plaintiff (l0 : Launch) (hfl : l0.stackTraces = false) {σ : kM} {x1 : Int} {r : Int} {τ : kM} (h : pf_P_plaintiff_0 σ x1 = some (.inr r, τ)) (μ : kM) (z : Nat → Int) : kHet l0 ky_L_plaintiff method_33_code 4 [(0, 9, 12, 18)] R0_L_plaintiff yL (kmg σ μ z) [kr 0, ki x1, kr 96] 0 (kmg τ μ (kup z 0 r)) 1 6 := kHet.of [some (kr 0), some (ki x1), some (kr 96), none] (by decide) (Nat.le_of_ble_eq_true rfl) ⟨rfl, rfl, rfl, trivial⟩ (fun x C hT hE => by
  refine kw_aload_n C (kdec dc_L_plaintiff 0 rfl) rfl 1 rfl rfl ?_
  refine kw_iconst C (kdec dc_L_plaintiff 1 rfl) 2 rfl rfl ⟨by decide, by decide⟩ ?_
  refine kw_aload_n C (kdec dc_L_plaintiff 2 rfl) rfl 3 rfl rfl ?_
  refine kw_iload_n C (kdec dc_L_plaintiff 3 rfl) rfl 4 rfl rfl ?_
  refine kw_callVX (As := [ki x1]) (S := [ki 0, kr 96]) C (kdec dc_L_plaintiff 4 rfl) 7 rfl cv_L_108 rfl rfl ((mx_pf_P_plaintiff_0 l0 hfl h).C μ z) ⟨rfl, rfl⟩ ⟨Nat.le_of_ble_eq_true rfl, Nat.le_of_ble_eq_true rfl⟩ ⟨Nat.le_of_ble_eq_true rfl, Nat.le_of_ble_eq_true rfl⟩ rfl (Nat.le_of_ble_eq_true rfl) ?_
  refine kw_i2l C (kdec dc_L_plaintiff 5 rfl) 8 rfl ?_
  refine kw_last (k := 96) (n := 1) C (kdec dc_L_plaintiff 6 rfl) 9 rfl yL_out (by decide) (by decide) ?_
  refine kw_sig (kmg_out τ μ z (kup z 0 r)).symm ?_
  refine kw_goto C (kdec dc_L_plaintiff 7 rfl) 15 (by decide) ?_
  refine kw_iconst C (kdec dc_L_plaintiff 11 rfl) 16 rfl rfl ⟨by decide, by decide⟩ ?_
  exact kw_xret (Nat.le_of_ble_eq_true rfl) (Nat.le_of_ble_eq_true rfl) (kw_ireturn C (kdec dc_L_plaintiff 12 rfl)))
theorem he1_L_plaintiff (l0 : Launch) (hfl : l0.stackTraces = false) {σ : kM} {x1 : Int} {τ : kM} (h : pf_P_plaintiff_0 σ x1 = some (.inl sNE, τ)) (μ : kM) (z : Nat → Int) : kHet l0 ky_L_plaintiff method_33_code 4 [(0, 9, 12, 18)] R0_L_plaintiff yL (kmg σ μ z) [kr 0, ki x1, kr 96] 1 (kmg τ μ z) 1 6 := kHet.of [some (kr 0), some (ki x1), some (kr 96), none] (by decide) (Nat.le_of_ble_eq_true rfl) ⟨rfl, rfl, rfl, trivial⟩ (fun x C hT hE => by
  refine kw_aload_n C (kdec dc_L_plaintiff 0 rfl) rfl 1 rfl rfl ?_
  refine kw_iconst C (kdec dc_L_plaintiff 1 rfl) 2 rfl rfl ⟨by decide, by decide⟩ ?_
  refine kw_aload_n C (kdec dc_L_plaintiff 2 rfl) rfl 3 rfl rfl ?_
  refine kw_iload_n C (kdec dc_L_plaintiff 3 rfl) rfl 4 rfl rfl ?_
  refine kw_callVX_c (pre := []) (h := (0, 9, 12, 18)) (rest := []) (i := 3) (As := [ki x1]) (S := [ki 0, kr 96]) C hT hE (kdec dc_L_plaintiff 4 rfl) cv_L_108 rfl rfl ((me_pf_P_plaintiff_0 l0 hfl h).C μ z) ⟨rfl, rfl⟩ ⟨Nat.le_of_ble_eq_true rfl, Nat.le_of_ble_eq_true rfl⟩ ⟨Nat.le_of_ble_eq_true rfl, Nat.le_of_ble_eq_true rfl⟩ rfl (Nat.le_of_ble_eq_true rfl) (fun q hq => by cases hq) ⟨⟨by decide, by decide, by decide⟩, sNE, wl_1069, Or.inl ⟨rfl, rfl, Or.inl rfl⟩⟩ 13 (Or.inl ⟨3, kdec dc_L_plaintiff 8 rfl, rfl, rfl⟩) (by decide) rfl ?_
  refine kw_iconst C (kdec dc_L_plaintiff 9 rfl) 14 rfl rfl ⟨by decide, by decide⟩ ?_
  exact kw_xret (Nat.le_of_ble_eq_true rfl) (Nat.le_of_ble_eq_true rfl) (kw_ireturn C (kdec dc_L_plaintiff 10 rfl)))

/-! CALLS: feed -/
theorem by_of (z : Int32) : (0 ≤ (z &&& 255).toInt ∧ (z &&& 255).toInt < 256) ∧ z.toInt8.toInt32.toInt = (if (z &&& 255).toInt < 128 then (z &&& 255).toInt else (z &&& 255).toInt - 256) := by
  obtain ⟨n, hn, rfl⟩ := wb_of32 z
  have e3 : nI n &&& 255 = nI (n % 256) := by
    apply Int32.toBitVec_inj.1
    show BitVec.ofNat 32 n &&& BitVec.ofNat 32 255 = BitVec.ofNat 32 (n % 256)
    rw [show n % 256 = n &&& 255 from (Nat.and_two_pow_sub_one_eq_mod n 8).symm]
    apply BitVec.eq_of_getLsbD_eq
    intro i hi
    simp [hi]
  have h6 : n % 256 < 256 := Nat.mod_lt _ (by decide)
  have e4 : (nI n &&& 255).toInt = ((n % 256 : Nat) : Int) := by rw [e3, nI_toInt (by omega)]
  have e5 : (nI n).toInt8.toInt32.toInt = (nI n).toInt8.toBitVec.toInt := Int8.toInt_toInt32 _
  have e6 : (nI n).toInt8.toBitVec.toNat = n % 256 := by
    rw [Int32.toBitVec_toInt8, BitVec.signExtend_eq_setWidth_of_le _ (by decide)]
    show ((BitVec.ofNat 32 n).setWidth 8).toNat = n % 256
    rw [BitVec.toNat_setWidth, BitVec.toNat_ofNat]
    omega
  rw [e4, e5, BitVec.toInt_eq_toNat_cond, e6]
  refine ⟨by omega, ?_⟩
  by_cases c : n % 256 < 128
  · rw [if_pos (by omega), if_pos (by omega)]
  · rw [if_neg (by omega), if_neg (by omega)]
    rfl
theorem by_sh : ∀ k : Fin 4, Int32.ofInt (24 - 8 * (k.val : Int)) = nI (24 - 8 * k.val) := by decide +kernel
def fB (x : Int) (i : Nat) : Int := kand (kshr x (24 - 8 * (i : Int))) 255
def sgB (v : Int) : Int := if v < 128 then v else v - 256
theorem fB_rng (x : Int) (i : Nat) : 0 ≤ fB x i ∧ fB x i < 256 := by
  unfold fB kand
  exact (by_of _).1
theorem sgB_of (x : Int) {i : Nat} (hi : i < 4) : kb8s (kb8 (kushr x (24 - 8 * (i : Int)))) = sgB (fB x i) := by
  have e0 : ∀ z : Int32, (vp_nar .byte z) = z.toInt8.toInt32 := fun _ => rfl
  have e1 : ∀ z : Int32, z.toInt8.toInt32.toInt8.toInt32 = z.toInt8.toInt32 := fun z => by rw [Int8.toInt8_toInt32]
  unfold kb8s kb8 kushr fB kand kshr sgB
  rw [k32_of, k32_of, k32_of, e0, e1, (by_of _).2]
  have e2 : ((Int32.ofInt x).toUInt32 >>> ((Int32.ofInt (24 - 8 * (i : Int))).toUInt32 &&& Int32.toUInt32 31)).toInt32 &&& 255 = (Int32.ofInt x >>> (Int32.ofInt (24 - 8 * (i : Int)) &&& 31)) &&& Int32.ofInt 255 := by
    rw [by_sh ⟨i, hi⟩, show Int32.ofInt 255 = 255 from by decide +kernel]
    refine b_ext (fun j hj => ?_)
    rw [b_and, b_and, b_255, b_ushr _ (by omega), b_sshr _ (by omega) _ hj]
    by_cases c : j < 8
    · rw [if_pos (by show 24 - 8 * i + j < 32; omega)]
    · rw [decide_eq_false c, Bool.and_false, Bool.and_false]
  rw [e2]
section FEED
variable {N M tp : Int} {L : Nat → Int} {PH PF PB : List Int} {σ σ' μ μ' : kM}
theorem c_put {x : Int} {T : Nat} (hT : σ 0 1 = (T : Int)) (h7 : T + 4 ≤ 700) : ∃ σ', pf_P_putBytes_0 σ x = some σ' ∧ (∀ c : Nat, c ≠ 0 → c ≠ 1 → σ' c = σ c) ∧ (∀ j : Nat, j ≠ 1 → σ' 0 j = σ 0 j) ∧ σ' 0 1 = ((T + 4 : Nat) : Int) ∧ ∀ k : Nat, σ' 1 k = if T ≤ k ∧ k < T + 4 then sgB (fB x (k - T)) else σ 1 k := by
  obtain ⟨σ1, b1, b2, b3, b4, b5⟩ := kl_M (body := fun st => pf_P_putBytes_0_l3 st.1 x st.2) (fun i σ1 => (∀ c : Nat, c ≠ 0 → c ≠ 1 → σ1 c = σ c) ∧ (∀ j : Nat, j ≠ 1 → σ1 0 j = σ 0 j) ∧ σ1 0 1 = ((T + i : Nat) : Int) ∧ ∀ k : Nat, σ1 1 k = if T ≤ k ∧ k < T + i then sgB (fB x (k - T)) else σ 1 k) (fun i => 24 - 8 * (i : Int)) 4 (by decide) (fun i σ1 hi hs => by
    have ew := kw_inc (i := T + i) (by omega)
    have es : w32 (24 - 8 * (i : Int) + -8) = 24 - 8 * ((i + 1 : Nat) : Int) := by
      rw [w32_s (by omega) (by omega)]
      omega
    have c1 : ¬ 24 - 8 * (i : Int) < 0 := by omega
    have c2 : ¬ (700 : Int) ≤ ((T + i : Nat) : Int) := by omega
    have c3 : 0 ≤ ((T + i : Nat) : Int) ∧ ((T + i : Nat) : Int) < 700 := by omega
    obtain ⟨s1, s2, s3, s4⟩ := hs
    have s3 : σ1 0 1 = ((T + i : Nat) : Int) := s3
    refine ⟨kst (kst σ1 1 (kup (σ1 1) (T + i) (sgB (fB x i)))) 0 (kup (σ1 0) 1 ((T + i + 1 : Nat) : Int)), ?_, fun c a b => ?_, fun j hj => ?_, ?_, fun k => ?_⟩
    · show pf_P_putBytes_0_l3 σ1 x (24 - 8 * (i : Int)) = _
      unfold pf_P_putBytes_0_l3
      rw [if_neg c1, s3, if_neg c2, kchk_t c3, klet_eq, klet_eq, klet_eq, es, kst_ne (show (0 : Nat) ≠ 1 by decide), s3, ew, Int.toNat_natCast, sgB_of x hi]
    · rw [kst_ne a, kst_ne b]
      exact s1 c a b
    · rw [kst_eq, kup_ne hj]
      exact s2 j hj
    · rw [kst_eq, kup_eq]
      rfl
    · rw [kst_ne (by decide), kst_eq]
      by_cases e : k = T + i
      · subst e
        rw [kup_eq, if_pos (by omega), show T + i - T = i by omega]
      · rw [kup_ne e, s4 k]
        by_cases c : T ≤ k ∧ k < T + i
        · rw [if_pos c, if_pos (by omega)]
        · rw [if_neg c, if_neg (by omega)]) (fun σ1 hs => by
    refine ⟨σ1, ?_, hs⟩
    show pf_P_putBytes_0_l3 σ1 x (24 - 8 * ((4 : Nat) : Int)) = _
    unfold pf_P_putBytes_0_l3
    rw [if_pos (by decide)]) (σ := σ) ⟨fun _ _ _ => rfl, fun _ _ => rfl, hT, fun k => by rw [if_neg (by omega)]⟩ (b0 := 24) rfl
  refine ⟨σ1, ?_, b2, b3, b4, b5⟩
  unfold pf_P_putBytes_0
  rw [kbind_eq b1]
theorem m_put {x : Int} {T : Nat} (hT : μ 0 9 = (T : Int)) (h7 : T + 4 ≤ 700) : ∃ μ', mm_lays μ x = some μ' ∧ (∀ c : Nat, c ≠ 0 → c ≠ 2 → μ' c = μ c) ∧ (∀ j : Nat, j ≠ 9 → μ' 0 j = μ 0 j) ∧ μ' 0 9 = ((T + 4 : Nat) : Int) ∧ ∀ k : Nat, μ' 2 k = if T ≤ k ∧ k < T + 4 then fB x (k - T) else μ 2 k := by
  obtain ⟨μ1, b1, b2, b3, b4, b5⟩ := kl_M (body := fun st => mm_lays_l3 st.1 x st.2) (fun i μ1 => (∀ c : Nat, c ≠ 0 → c ≠ 2 → μ1 c = μ c) ∧ (∀ j : Nat, j ≠ 9 → μ1 0 j = μ 0 j) ∧ μ1 0 9 = ((T + i : Nat) : Int) ∧ ∀ k : Nat, μ1 2 k = if T ≤ k ∧ k < T + i then fB x (k - T) else μ 2 k) (fun i => 24 - 8 * (i : Int)) 4 (by decide) (fun i μ1 hi hs => by
    have ew := kw_inc (i := T + i) (by omega)
    have es : w32 (24 - 8 * (i : Int) + -8) = 24 - 8 * ((i + 1 : Nat) : Int) := by
      rw [w32_s (by omega) (by omega)]
      omega
    have c1 : ¬ 24 - 8 * (i : Int) < 0 := by omega
    have c3 : 0 ≤ ((T + i : Nat) : Int) ∧ ((T + i : Nat) : Int) < 700 := by omega
    obtain ⟨s1, s2, s3, s4⟩ := hs
    have s3 : μ1 0 9 = ((T + i : Nat) : Int) := s3
    refine ⟨kst (kst μ1 2 (kup (μ1 2) (T + i) (fB x i))) 0 (kup (μ1 0) 9 ((T + i + 1 : Nat) : Int)), ?_, fun c a b => ?_, fun j hj => ?_, ?_, fun k => ?_⟩
    · show mm_lays_l3 μ1 x (24 - 8 * (i : Int)) = _
      unfold mm_lays_l3
      rw [if_neg c1, s3, kchk_t c3, klet_eq, klet_eq, klet_eq, es, kst_ne (show (0 : Nat) ≠ 2 by decide), s3, ew, Int.toNat_natCast]
      rfl
    · rw [kst_ne a, kst_ne b]
      exact s1 c a b
    · rw [kst_eq, kup_ne hj]
      exact s2 j hj
    · rw [kst_eq, kup_eq]
      rfl
    · rw [kst_ne (by decide), kst_eq]
      by_cases e : k = T + i
      · subst e
        rw [kup_eq, if_pos (by omega), show T + i - T = i by omega]
      · rw [kup_ne e, s4 k]
        by_cases c : T ≤ k ∧ k < T + i
        · rw [if_pos c, if_pos (by omega)]
        · rw [if_neg c, if_neg (by omega)]) (fun μ1 hs => by
    refine ⟨μ1, ?_, hs⟩
    show mm_lays_l3 μ1 x (24 - 8 * ((4 : Nat) : Int)) = _
    unfold mm_lays_l3
    rw [if_pos (by decide)]) (σ := μ) ⟨fun _ _ _ => rfl, fun _ _ => rfl, hT, fun k => by rw [if_neg (by omega)]⟩ (b0 := 24) rfl
  refine ⟨μ1, ?_, b2, b3, b4, b5⟩
  unfold mm_lays
  rw [kbind_eq b1]
/-- the tape alone changes, and the place of a fault -/
theorem RE.tape (h : RE N M tp L PH PF PB σ μ) (hC : ∀ c : Nat, c ≠ 0 → c ≠ 1 → c < 12 ∨ 29 ≤ c → σ' c = σ c) (h8 : σ' 0 8 = σ 0 8) (hM : ∀ c : Nat, c = 1 ∨ c = 3 ∨ c = 8 ∨ c = 9 ∨ c = 19 ∨ (22 ≤ c ∧ c ≤ 24) → μ' c = μ c) (hM0 : ∀ j : Nat, (1 ≤ j ∧ j ≤ 6) ∨ j = 38 ∨ j = 48 ∨ j = 53 ∨ (58 ≤ j ∧ j ≤ 60) → μ' 0 j = μ 0 j) (ht : σ' 0 1 = μ' 0 9 ∧ (0 ≤ μ' 0 9 ∧ μ' 0 9 ≤ 700) ∧ ∀ i : Nat, (i : Int) < μ' 0 9 → (0 ≤ μ' 2 i ∧ μ' 2 i < 256) ∧ σ' 1 i = if μ' 2 i < 128 then μ' 2 i else μ' 2 i - 256) (hf : σ' 0 2 = μ' 0 11) : RE N M tp L PH PF PB σ' μ' := by
  obtain ⟨a1, a2, a3, a4, a5, a6, a7, a8, a9, a10⟩ := h
  have hC : ∀ c : Nat, 2 ≤ c → c < 12 ∨ 29 ≤ c → σ' c = σ c := fun c hc h2 => hC c (by omega) (by omega) h2
  refine ⟨a1, a2.kept (hC _ (by decide) (by decide)) (hC _ (by decide) (by decide)) (hC _ (by decide) (by decide)) (hC _ (by decide) (by decide)) (hC _ (by decide) (by decide)), a3.kept (fun j h1 h2 => hM0 j (by omega)) (hM 1 (by decide)), by rw [hM0 48 (by decide)]; exact a4, ?_, ht, hf, ?_, ?_, ?_⟩
  · rw [hM 9 (by decide), hM0 38 (by decide), hM0 53 (by decide), hM 19 (by decide), hM 8 (by decide)]
    exact a5.kept (by decide) (hC _ (by decide) (by decide)) (hC _ (by decide) (by decide)) (hC _ (by decide) (by decide)) (hC _ (by decide) (by decide)) (hC _ (by decide) (by decide)) (hC _ (by decide) (by decide)) (hC _ (by decide) (by decide)) (hC _ (by decide) (by decide)) (hC _ (by decide) (by decide)) (fun _ _ => rfl)
  · rw [hC 2 (by decide) (by decide), hM 3 (by decide)]
    exact a8
  · rw [h8, hM0 58 (by decide)]
    exact a9
  · rw [hM0 58 (by decide), hM0 59 (by decide), hM0 60 (by decide), hM 22 (by decide), hM 23 (by decide), hM 24 (by decide)]
    intro h
    exact (a10 h).kept (by decide) (hC _ (by decide) (by decide)) (hC _ (by decide) (by decide)) (hC _ (by decide) (by decide)) (hC _ (by decide) (by decide)) (hC _ (by decide) (by decide)) (hC _ (by decide) (by decide)) (hC _ (by decide) (by decide)) (hC _ (by decide) (by decide)) (hC _ (by decide) (by decide)) (fun _ _ => rfl)
theorem feed1 (h : RE N M tp L PH PF PB σ μ) (x : Int) {T : Nat} (hT : μ 0 9 = (T : Int)) (h7 : T + 4 ≤ 700) : ∃ σ' μ', pf_P_putBytes_0 σ x = some σ' ∧ mm_lays μ x = some μ' ∧ RE N M tp L PH PF PB σ' μ' ∧ σ' 0 1 = ((T + 4 : Nat) : Int) ∧ μ' 0 9 = ((T + 4 : Nat) : Int) := by
  obtain ⟨t1, t2, t3⟩ := h.2.2.2.2.2.1
  obtain ⟨σ1, a1, a2, a3, a4, a5⟩ := c_put (σ := σ) (x := x) (t1.trans hT) h7
  obtain ⟨μ1, b1, b2, b3, b4, b5⟩ := m_put (μ := μ) (x := x) hT h7
  refine ⟨σ1, μ1, a1, b1, ?_, a4, b4⟩
  refine RE.tape h (fun c c0 c1 _ => a2 c c0 c1) (a3 8 (by decide)) (fun c hc => b2 c (by omega) (by omega)) (fun j hj => b3 j (by omega)) ⟨by rw [a4, b4], by rw [b4]; omega, fun i hi => ?_⟩ (by rw [a3 2 (by decide), b3 11 (by decide)]; exact h.2.2.2.2.2.2.1)
  rw [b4] at hi
  rw [a5 i, b5 i]
  by_cases c : T ≤ i ∧ i < T + 4
  · rw [if_pos c, if_pos c]
    exact ⟨fB_rng _ _, rfl⟩
  · rw [if_neg c, if_neg c]
    exact t3 i (by rw [hT]; omega)
theorem op_feed (h : RE N M tp L PH PF PB σ μ) (a b c d e : Int) : OP N M tp L PH PF PB (pf_P_feed_0 σ a b c d e) (mm_feed μ a b c d e) := by
  obtain ⟨t1, t2, t3⟩ := h.2.2.2.2.2.1
  have h0 := h.th
  have h9 : mT μ 0 9 = μ 0 9 := mTj (by decide)
  obtain ⟨T, hT⟩ : ∃ T : Nat, μ 0 9 = (T : Int) := ⟨(μ 0 9).toNat, by omega⟩
  unfold pf_P_feed_0 mm_feed
  rw [klet_eq, t1, show kst μ 0 (kup (μ 0) 0 0) 0 9 = μ 0 9 from h9, hT, w32_s (v := (T : Int) + 20) (by omega) (by omega)]
  by_cases k : (T : Int) + 20 ≤ 700
  · rw [if_pos k, if_pos k]
    obtain ⟨σ1, μ1, x1, y1, h1, -, z1⟩ := feed1 h0 a (h9.trans hT) (by omega)
    obtain ⟨σ2, μ2, x2, y2, h2, -, z2⟩ := feed1 h1 b z1 (by omega)
    obtain ⟨σ3, μ3, x3, y3, h3, -, z3⟩ := feed1 h2 c z2 (by omega)
    obtain ⟨σ4, μ4, x4, y4, h4, -, z4⟩ := feed1 h3 d z3 (by omega)
    obtain ⟨σ5, μ5, x5, y5, h5, w5, z5⟩ := feed1 h4 e z4 (by omega)
    rw [kbind_eq x1, kbind_eq x2, kbind_eq x3, kbind_eq x4, kbind_eq x5, kbind_eq y1, kbind_eq y2, kbind_eq y3, kbind_eq y4, kbind_eq y5, w5, z5]
    exact ⟨_, _, _, rfl, rfl, h5⟩
  · rw [if_neg k, if_neg k]
    exact ⟨_, _, _, rfl, rfl, h0⟩
end FEED

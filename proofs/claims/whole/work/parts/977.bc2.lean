/-! how many bits of a long are set: the JDK's method -/
def nL (n : Nat) : Int := (lN n).toInt
theorem nL_of (n : Nat) : Int64.ofInt (nL n) = lN n := Int64.ofInt_toInt _
theorem nL_lit {n : Nat} (h : n < 9223372036854775808) : nL n = (n : Int) := pk_lT h
theorem klushr_n {n k : Nat} {b : Int} (hb : Int32.ofInt b = nI k) (hn : n < 2 ^ 64) (hk : k < 64) : klushr (nL n) b = nL (n / 2 ^ k) := by
  unfold klushr
  rw [nL_of, hb, wb_shr hn hk]
  rfl
theorem kland_n {a b : Nat} (ha : a < 2 ^ 64) (hb : b < 2 ^ 64) : kland (nL a) (nL b) = nL (a &&& b) := by
  unfold kland
  rw [nL_of, nL_of, wb_and ha hb]
  rfl
theorem klor_n {a b : Nat} (ha : a < 2 ^ 64) (hb : b < 2 ^ 64) : klor (nL a) (nL b) = nL (a ||| b) := by
  unfold klor
  rw [nL_of, nL_of, wb_or ha hb]
  rfl
theorem klsub_n {a b : Nat} (ha : a < 2 ^ 64) (hb : b ≤ a) : klsub (nL a) (nL b) = nL (a - b) := by
  have e : lN a - lN b = lN (a - b) := by
    apply wb_inj
    rw [Int64.toBitVec_sub, wb_tb, wb_tb, wb_tb]
    apply BitVec.eq_of_toNat_eq
    rw [BitVec.toNat_sub, BitVec.toNat_ofNat, BitVec.toNat_ofNat, BitVec.toNat_ofNat, Nat.mod_eq_of_lt ha, Nat.mod_eq_of_lt (show b < 2 ^ 64 by omega), Nat.mod_eq_of_lt (show a - b < 2 ^ 64 by omega)]
    omega
  unfold klsub
  rw [nL_of, nL_of, e]
  rfl
theorem kladd_n {a b : Nat} (h : a + b < 2 ^ 64) : kladd (nL a) (nL b) = nL (a + b) := by
  have e : lN a + lN b = lN (a + b) := by
    apply wb_inj
    rw [Int64.toBitVec_add, wb_tb, wb_tb, wb_tb]
    apply BitVec.eq_of_toNat_eq
    rw [BitVec.toNat_add, BitVec.toNat_ofNat, BitVec.toNat_ofNat, BitVec.toNat_ofNat]
    omega
  unfold kladd
  rw [nL_of, nL_of, e]
  rfl
theorem k127_n (a : Nat) : kand (kl2i (nL a)) 127 = ((a % 128 : Nat) : Int) := by
  unfold kand kl2i
  rw [nL_of, k32_of]
  have e1 : (lN a).toInt32 = nI a := by
    apply Int32.toBitVec_inj.1
    rw [Int64.toBitVec_toInt32, wb_tb, BitVec.signExtend_eq_setWidth_of_le _ (by decide)]
    show _ = BitVec.ofNat 32 a
    apply BitVec.eq_of_toNat_eq
    rw [BitVec.toNat_setWidth, BitVec.toNat_ofNat, BitVec.toNat_ofNat]
    omega
  have e2 : Int32.ofInt 127 = nI 127 := by decide +kernel
  have e3 : nI a &&& nI 127 = nI (a % 128) := by
    apply Int32.toBitVec_inj.1
    show BitVec.ofNat 32 a &&& BitVec.ofNat 32 127 = BitVec.ofNat 32 (a % 128)
    rw [show a % 128 = a &&& 127 from (Nat.and_two_pow_sub_one_eq_mod a 7).symm]
    apply BitVec.eq_of_getLsbD_eq
    intro i hi
    simp [hi]
  have h6 : a % 128 < 128 := Nat.mod_lt _ (by decide)
  rw [e1, e2, e3, nI_toInt (by omega)]
theorem bX_le {f : Nat → Nat} {m : Nat} (hf : ∀ b : Nat, b < 256 → f b ≤ m) : ∀ n x : Nat, bX f n x ≤ bRep m n := by
  intro n
  induction n with
  | zero => intro x; exact Nat.le_refl _
  | succ n ih =>
    intro x
    have h1 := ih (x / 256)
    have h2 := hf (x % 256) (Nat.mod_lt _ (by decide))
    show f (x % 256) + 256 * bX f n (x / 256) ≤ m + 256 * bRep m n
    omega
theorem c_bitCountL {σ : kM} {n : Nat} (hn : n < 18446744073709551616) : pf_Long_bitCount_95d88 σ (nL n) = some ((bpc 64 n : Nat) : Int) := by
  have m5 : (6148914691236517205 : Int) = nL (bRep 85 8) := (nL_lit (n := 6148914691236517205) (by decide)).symm
  have m3 : (3689348814741910323 : Int) = nL (bRep 51 8) := (nL_lit (n := 3689348814741910323) (by decide)).symm
  have m1 : (1085102592571150095 : Int) = nL (bRep 15 8) := (nL_lit (n := 1085102592571150095) (by decide)).symm
  have b5 : bRep 85 8 < 2 ^ 64 := by decide
  have b3 : bRep 51 8 < 2 ^ 64 := by decide
  have b1 : bRep 15 8 < 2 ^ 64 := by decide
  have hn64 : n < 2 ^ 64 := hn
  have lt : ∀ a k : Nat, a < 2 ^ 64 → a / k < 2 ^ 64 := fun a k h => Nat.lt_of_le_of_lt (Nat.div_le_self a k) h
  obtain ⟨s1, s2⟩ := bs1 8 n hn
  have l1 : bX bf1 8 n < 2 ^ 64 := by rw [← s2]; omega
  have l2 : bX bf2 8 n ≤ 4919131752989213764 := bX_le (m := 68) (fun b hb => (bt3 ⟨b, hb⟩).1) 8 n
  have s3 := bs2 8 n
  have s4 := bs3 8 n
  obtain ⟨s5, s6⟩ := bs4 n hn
  unfold pf_Long_bitCount_95d88
  rw [klet_eq, m5, klushr_n (k := 1) (by decide +kernel) hn64 (by decide), kland_n (lt _ _ hn64) b5, show n / 2 ^ 1 = n / 2 from rfl, klsub_n hn64 s1, s2]
  rw [klet_eq, m3, klushr_n (k := 2) (by decide +kernel) l1 (by decide), kland_n l1 b3, kland_n (lt _ _ l1) b3, show bX bf1 8 n / 2 ^ 2 = bX bf1 8 n / 4 from rfl, kladd_n (by rw [s3]; omega), s3]
  rw [klet_eq, m1, klushr_n (k := 4) (by decide +kernel) (by omega) (by decide), show bX bf2 8 n / 2 ^ 4 = bX bf2 8 n / 16 from rfl, kladd_n (by omega), kland_n (by omega) b1, s4]
  clear s3 s4 s2 s1 l1 l2 m1 m3 m5 b5 b3 b1
  generalize bX (bpc 8) 8 n = X at *
  rw [klet_eq, klushr_n (k := 8) (by decide +kernel) (by omega) (by decide), show X / 2 ^ 8 = X / 256 from rfl, kladd_n (by omega)]
  rw [klet_eq, klushr_n (k := 16) (by decide +kernel) (by omega) (by decide), show (X + X / 256) / 2 ^ 16 = (X + X / 256) / 65536 from rfl, kladd_n (by omega)]
  rw [klet_eq, klushr_n (k := 32) (by decide +kernel) (by omega) (by decide), show (X + X / 256 + (X + X / 256) / 65536) / 2 ^ 32 = (X + X / 256 + (X + X / 256) / 65536) / 4294967296 from rfl, kladd_n (by omega)]
  rw [k127_n, s5]
/-- a bit is set -/
theorem bpc_add : ∀ (j k n : Nat), j < k → n / 2 ^ j % 2 = 0 → bpc k (n + 2 ^ j) = bpc k n + 1 := by
  intro j
  induction j with
  | zero =>
    intro k n hk hb
    obtain ⟨m, rfl⟩ : ∃ m, k = m + 1 := ⟨k - 1, by omega⟩
    have hb : n / 1 % 2 = 0 := hb
    show (n + 1) % 2 + bpc m ((n + 1) / 2) = n % 2 + bpc m (n / 2) + 1
    rw [show (n + 1) / 2 = n / 2 by omega]
    omega
  | succ j ih =>
    intro k n hk hb
    obtain ⟨m, rfl⟩ : ∃ m, k = m + 1 := ⟨k - 1, by omega⟩
    have e : (2 : Nat) ^ (j + 1) = 2 ^ j * 2 := Nat.pow_succ ..
    have hb2 : n / 2 / 2 ^ j % 2 = 0 := by
      rw [Nat.div_div_eq_div_mul, Nat.mul_comm, ← e]
      exact hb
    have h1 := ih m (n / 2) (by omega) hb2
    show (n + 2 ^ (j + 1)) % 2 + bpc m ((n + 2 ^ (j + 1)) / 2) = n % 2 + bpc m (n / 2) + 1
    rw [e, show (n + 2 ^ j * 2) / 2 = n / 2 + 2 ^ j by omega, h1]
    omega
theorem or_bit {n j : Nat} (h : n / 2 ^ j % 2 = 0) : n ||| 2 ^ j = n + 2 ^ j := by
  have hd : n % 2 ^ j < 2 ^ j := Nat.mod_lt _ (Nat.two_pow_pos j)
  have e : n = 2 ^ (j + 1) * (n / 2 ^ (j + 1)) + n % 2 ^ j := by
    have h1 := Nat.div_add_mod n (2 ^ j)
    have h2 := Nat.div_add_mod (n / 2 ^ j) 2
    have h3 : n / 2 ^ j / 2 = n / 2 ^ (j + 1) := by rw [Nat.div_div_eq_div_mul, ← Nat.pow_succ]
    rw [h3, h, Nat.add_zero] at h2
    rw [show (2 : Nat) ^ (j + 1) * (n / 2 ^ (j + 1)) = 2 ^ j * (2 * (n / 2 ^ (j + 1))) by rw [← Nat.mul_assoc, ← Nat.pow_succ], h2]
    exact h1.symm
  have h5 : n % 2 ^ j + 2 ^ j < 2 ^ (j + 1) := by rw [Nat.pow_succ]; omega
  have h6 : n % 2 ^ j ||| 2 ^ j = n % 2 ^ j + 2 ^ j := by
    have h7 := Nat.two_pow_add_eq_or_of_lt hd 1
    rw [Nat.mul_one] at h7
    rw [Nat.or_comm, ← h7, Nat.add_comm]
  have h8 : n % 2 ^ j < 2 ^ (j + 1) := by omega
  have h9 : n ||| 2 ^ j = 2 ^ (j + 1) * (n / 2 ^ (j + 1)) + (n % 2 ^ j + 2 ^ j) := by
    rw [Nat.two_pow_add_eq_or_of_lt h5, ← h6, ← Nat.or_assoc, ← Nat.two_pow_add_eq_or_of_lt h8, ← e]
  rw [h9]
  omega
theorem or_same {n j : Nat} (h : n / 2 ^ j % 2 = 1) : n ||| 2 ^ j = n := by
  have ht : n.testBit j = true := by
    rw [Nat.testBit_eq_decide_div_mod_eq, h]
    rfl
  apply Nat.eq_of_testBit_eq
  intro i
  rw [Nat.testBit_or]
  by_cases hi : j = i
  · subst hi
    rw [ht, Bool.true_or]
  · rw [Nat.testBit_two_pow]
    simp [hi]

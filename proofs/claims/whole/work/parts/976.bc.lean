/-! longs as numbers: laws of the kit, pasted (BITS) -/
theorem wb_tb (n : Nat) : (lN n).toBitVec = BitVec.ofNat 64 n := rfl
theorem wb_inj {a b : Int64} (h : a.toBitVec = b.toBitVec) : a = b := Int64.toBitVec_inj.mp h
theorem wb_tn {n : Nat} (h : n < 2 ^ 64) : (lN n).toBitVec.toNat = n := by rw [wb_tb, BitVec.toNat_ofNat, Nat.mod_eq_of_lt h]
theorem wb_of (x : Int64) : ∃ n, n < 2 ^ 64 ∧ x = lN n := ⟨x.toBitVec.toNat, x.toBitVec.isLt, wb_inj (by rw [wb_tb]; simp)⟩
theorem wb_of32 (x : Int32) : ∃ n, n < 2 ^ 32 ∧ x = nI n := ⟨x.toBitVec.toNat, x.toBitVec.isLt, Int32.toBitVec_inj.mp (by show _ = BitVec.ofNat 32 _; simp)⟩
theorem wb_c : ∀ k, k < 64 → ((nI k).toInt64 &&& 63) = lN k := by decide +kernel
theorem wb_cu : ∀ k, k < 64 → ((nI k).toInt64.toUInt64 &&& Int64.toUInt64 63) = UInt64.ofNat k := by decide +kernel
theorem wb_sm : ∀ k, k < 64 → (BitVec.ofNat 64 k).smod 64 = BitVec.ofNat 64 k := by decide +kernel
theorem wb_pw {a b : Nat} (h : a ≤ b) : 2 ^ b = 2 ^ a * 2 ^ (b - a) := by rw [← Nat.pow_add]; congr 1; omega
theorem wb_lt2 {a b : Nat} (h : a < b) : 2 ^ a < 2 ^ b := Nat.pow_lt_pow_right (by decide) h
theorem wb_mod (n : Nat) : lN n = lN (n % 2 ^ 64) := wb_inj (by rw [wb_tb, wb_tb]; apply BitVec.eq_of_toNat_eq; rw [BitVec.toNat_ofNat, BitVec.toNat_ofNat, Nat.mod_mod])
theorem wb_shr {n k : Nat} (hn : n < 2 ^ 64) (hk : k < 64) : ((lN n).toUInt64 >>> ((nI k).toInt64.toUInt64 &&& Int64.toUInt64 63)).toInt64 = lN (n / 2 ^ k) := by
  rw [wb_cu k hk]
  apply wb_inj
  apply BitVec.eq_of_toNat_eq
  show ((lN n).toUInt64 >>> UInt64.ofNat k).toNat = (BitVec.ofNat 64 _).toNat
  have h1 : (UInt64.ofNat k).toNat = k := by
    show (BitVec.ofNat 64 k).toNat = k
    rw [BitVec.toNat_ofNat, Nat.mod_eq_of_lt (by omega)]
  have h2 : (lN n).toUInt64.toNat = n := wb_tn hn
  rw [UInt64.toNat_shiftRight, h1, h2, Nat.mod_eq_of_lt hk, Nat.shiftRight_eq_div_pow, BitVec.toNat_ofNat, Nat.mod_eq_of_lt (Nat.lt_of_le_of_lt (Nat.div_le_self _ _) hn)]
theorem wb_shl (n : Nat) {k : Nat} (hk : k < 64) : lN n <<< ((nI k).toInt64 &&& 63) = lN (n * 2 ^ k) := by
  rw [wb_c k hk]
  apply wb_inj
  rw [Int64.toBitVec_shiftLeft, wb_tb, wb_tb, wb_tb, wb_sm k hk]
  apply BitVec.eq_of_toNat_eq
  rw [BitVec.shiftLeft_eq', BitVec.toNat_shiftLeft, BitVec.toNat_ofNat, BitVec.toNat_ofNat, BitVec.toNat_ofNat, Nat.mod_eq_of_lt (show k < 2 ^ 64 by omega), Nat.shiftLeft_eq, Nat.mul_mod, Nat.mod_mod, ← Nat.mul_mod]
theorem wb_and {a b : Nat} (ha : a < 2 ^ 64) (hb : b < 2 ^ 64) : lN a &&& lN b = lN (a &&& b) := by
  apply wb_inj
  rw [Int64.toBitVec_and, wb_tb, wb_tb, wb_tb]
  apply BitVec.eq_of_toNat_eq
  rw [BitVec.toNat_and, BitVec.toNat_ofNat, BitVec.toNat_ofNat, BitVec.toNat_ofNat, Nat.mod_eq_of_lt ha, Nat.mod_eq_of_lt hb, Nat.mod_eq_of_lt (Nat.and_lt_two_pow _ hb)]
theorem wb_or {a b : Nat} (ha : a < 2 ^ 64) (hb : b < 2 ^ 64) : lN a ||| lN b = lN (a ||| b) := by
  apply wb_inj
  rw [Int64.toBitVec_or, wb_tb, wb_tb, wb_tb]
  apply BitVec.eq_of_toNat_eq
  rw [BitVec.toNat_or, BitVec.toNat_ofNat, BitVec.toNat_ofNat, BitVec.toNat_ofNat, Nat.mod_eq_of_lt ha, Nat.mod_eq_of_lt hb, Nat.mod_eq_of_lt (Nat.or_lt_two_pow ha hb)]
theorem wb_mask {n k : Nat} (hn : n < 2 ^ 64) (hk : k < 64) : lN n &&& lN (2 ^ k - 1) = lN (n % 2 ^ k) := by
  rw [wb_and hn (by have := wb_lt2 hk; omega), Nat.and_two_pow_sub_one_eq_mod]
theorem wb_a1 {n : Nat} (hn : n < 2 ^ 64) : lN n &&& 1 = lN (n % 2) := wb_mask (k := 1) hn (by decide)
theorem wb_bit {n k : Nat} (hn : n < 2 ^ 64) (hk : k < 64) : ((lN n).toUInt64 >>> ((nI k).toInt64.toUInt64 &&& Int64.toUInt64 63)).toInt64 &&& 1 = lN (n / 2 ^ k % 2) := by
  rw [wb_shr hn hk, wb_a1 (Nat.lt_of_le_of_lt (Nat.div_le_self _ _) hn)]
/-! how many bits of a long are set, as the JDK counts them -/
theorem and_dig {k a b y z : Nat} (ha : a < 2 ^ k) (hb : b < 2 ^ k) : (a + 2 ^ k * y) &&& (b + 2 ^ k * z) = (a &&& b) + 2 ^ k * (y &&& z) := by
  apply Nat.eq_of_testBit_eq
  intro i
  rw [Nat.testBit_and, Nat.add_comm a, Nat.add_comm b, Nat.add_comm (a &&& b), Nat.testBit_two_pow_mul_add _ ha, Nat.testBit_two_pow_mul_add _ hb, Nat.testBit_two_pow_mul_add _ (Nat.and_lt_two_pow a hb)]
  by_cases h : i < k
  · rw [if_pos h, if_pos h, if_pos h, Nat.testBit_and]
  · rw [if_neg h, if_neg h, if_neg h, Nat.testBit_and]
theorem and_256 {a b y z : Nat} (ha : a < 256) (hb : b < 256) : (a + 256 * y) &&& (b + 256 * z) = (a &&& b) + 256 * (y &&& z) := and_dig (k := 8) ha hb
def bRep (m : Nat) : Nat → Nat
  | 0 => 0
  | n + 1 => m + 256 * bRep m n
def bX (f : Nat → Nat) : Nat → Nat → Nat
  | 0, _ => 0
  | n + 1, x => f (x % 256) + 256 * bX f n (x / 256)
def bf1 (b : Nat) : Nat := b - ((b / 2) &&& 85)
def bf2 (b : Nat) : Nat := (bf1 b &&& 51) + ((bf1 b / 4) &&& 51)
def bpc : Nat → Nat → Nat
  | 0, _ => 0
  | n + 1, x => x % 2 + bpc n (x / 2)
theorem bt1 : ∀ b : Fin 256, ∀ e : Fin 2, (b.val / 2 + 128 * e.val) &&& 85 = (b.val / 2) &&& 85 ∧ (b.val / 2) &&& 85 ≤ b.val ∧ bf1 b.val < 256 := by decide +kernel
theorem bt2 : ∀ c : Fin 256, ∀ e : Fin 4, (c.val / 4 + 64 * e.val) &&& 51 = (c.val / 4) &&& 51 := by decide +kernel
theorem bt3 : ∀ b : Fin 256, bf2 b.val ≤ 68 ∧ bf2 b.val % 16 ≤ 4 ∧ (bf2 b.val + bf2 b.val / 16) % 16 = bpc 8 b.val ∧ bpc 8 b.val ≤ 8 := by decide +kernel
theorem bs1 : ∀ (n x : Nat), x < 256 ^ n → (x / 2) &&& bRep 85 n ≤ x ∧ x - ((x / 2) &&& bRep 85 n) = bX bf1 n x := by
  intro n
  induction n with
  | zero =>
    intro x hx
    have hx : x < 1 := hx
    have e : (x / 2) &&& bRep 85 0 = 0 := Nat.and_zero _
    rw [e]
    exact ⟨Nat.zero_le _, by show x - 0 = 0; omega⟩
  | succ n ih =>
    intro x hx
    rw [Nat.pow_succ] at hx
    have hy : x / 256 < 256 ^ n := Nat.div_lt_of_lt_mul (by rw [Nat.mul_comm]; exact hx)
    obtain ⟨i1, i2⟩ := ih (x / 256) hy
    have hb : x % 256 < 256 := Nat.mod_lt _ (by decide)
    have t := bt1 ⟨x % 256, hb⟩ ⟨x / 256 % 2, Nat.mod_lt _ (by decide)⟩
    obtain ⟨t1, t2, -⟩ := t
    have e : x / 2 = (x % 256 / 2 + 128 * (x / 256 % 2)) + 256 * (x / 256 / 2) := by omega
    have e2 : (x / 2) &&& bRep 85 (n + 1) = ((x % 256 / 2) &&& 85) + 256 * ((x / 256 / 2) &&& bRep 85 n) := by
      show (x / 2) &&& (85 + 256 * bRep 85 n) = _
      rw [e, and_256 (by omega) (by decide)]
      dsimp only at t1
      rw [t1]
    rw [e2]
    show _ ∧ _ = bf1 (x % 256) + 256 * bX bf1 n (x / 256)
    dsimp only at t2
    rw [← i2]
    unfold bf1
    generalize (x % 256 / 2) &&& 85 = A at *
    generalize (x / 256 / 2) &&& bRep 85 n = B at *
    omega
theorem bs2 : ∀ (n x : Nat), (bX bf1 n x &&& bRep 51 n) + ((bX bf1 n x / 4) &&& bRep 51 n) = bX bf2 n x := by
  intro n
  induction n with
  | zero =>
    intro x
    show (bX bf1 0 x &&& 0) + ((bX bf1 0 x / 4) &&& 0) = 0
    rw [Nat.and_zero, Nat.and_zero]
  | succ n ih =>
    intro x
    have hi := ih (x / 256)
    have hb : x % 256 < 256 := Nat.mod_lt _ (by decide)
    have hc : bf1 (x % 256) < 256 := (bt1 ⟨x % 256, hb⟩ 0).2.2
    show ((bf1 (x % 256) + 256 * bX bf1 n (x / 256)) &&& (51 + 256 * bRep 51 n)) + (((bf1 (x % 256) + 256 * bX bf1 n (x / 256)) / 4) &&& (51 + 256 * bRep 51 n)) = bf2 (x % 256) + 256 * bX bf2 n (x / 256)
    rw [← hi]
    generalize bX bf1 n (x / 256) = Y
    have t := bt2 ⟨bf1 (x % 256), hc⟩ ⟨Y % 4, Nat.mod_lt _ (by decide)⟩
    dsimp only at t
    have e : (bf1 (x % 256) + 256 * Y) / 4 = (bf1 (x % 256) / 4 + 64 * (Y % 4)) + 256 * (Y / 4) := by omega
    rw [e, and_256 hc (by decide), and_256 (by omega) (by decide), t]
    unfold bf2
    generalize bf1 (x % 256) &&& 51 = A
    generalize (bf1 (x % 256) / 4) &&& 51 = B
    omega
theorem bX_lo (n x : Nat) : bX bf2 n x % 16 ≤ 4 := by
  cases n with
  | zero => show 0 % 16 ≤ 4; decide
  | succ n =>
    show (bf2 (x % 256) + 256 * bX bf2 n (x / 256)) % 16 ≤ 4
    have t := (bt3 ⟨x % 256, Nat.mod_lt _ (by decide)⟩).2.1
    dsimp only at t
    omega
theorem bs3 : ∀ (n x : Nat), (bX bf2 n x + bX bf2 n x / 16) &&& bRep 15 n = bX (bpc 8) n x := by
  intro n
  induction n with
  | zero => intro x; exact Nat.and_zero _
  | succ n ih =>
    intro x
    have hi := ih (x / 256)
    have hl := bX_lo n (x / 256)
    have t := bt3 ⟨x % 256, Nat.mod_lt _ (by decide)⟩
    dsimp only at t
    show ((bf2 (x % 256) + 256 * bX bf2 n (x / 256)) + (bf2 (x % 256) + 256 * bX bf2 n (x / 256)) / 16) &&& (15 + 256 * bRep 15 n) = bpc 8 (x % 256) + 256 * bX (bpc 8) n (x / 256)
    rw [← hi]
    generalize bX bf2 n (x / 256) = Y at hl
    generalize bf2 (x % 256) = c at t
    have e : (c + 256 * Y) + (c + 256 * Y) / 16 = (c + c / 16 + 16 * (Y % 16)) + 256 * (Y + Y / 16) := by omega
    have e2 : (c + c / 16 + 16 * (Y % 16)) &&& 15 = (c + c / 16 + 16 * (Y % 16)) % 16 := Nat.and_two_pow_sub_one_eq_mod _ 4
    rw [e, and_256 (by omega) (by decide), e2]
    omega
theorem bpc_split (n x : Nat) : bpc (n + 8) x = bpc 8 (x % 256) + bpc n (x / 256) := by
  have e : bpc (n + 8) x = x % 2 + (x / 2 % 2 + (x / 2 / 2 % 2 + (x / 2 / 2 / 2 % 2 + (x / 2 / 2 / 2 / 2 % 2 + (x / 2 / 2 / 2 / 2 / 2 % 2 + (x / 2 / 2 / 2 / 2 / 2 / 2 % 2 + (x / 2 / 2 / 2 / 2 / 2 / 2 / 2 % 2 + bpc n (x / 2 / 2 / 2 / 2 / 2 / 2 / 2 / 2)))))))) := rfl
  have e2 : bpc 8 (x % 256) = x % 256 % 2 + (x % 256 / 2 % 2 + (x % 256 / 2 / 2 % 2 + (x % 256 / 2 / 2 / 2 % 2 + (x % 256 / 2 / 2 / 2 / 2 % 2 + (x % 256 / 2 / 2 / 2 / 2 / 2 % 2 + (x % 256 / 2 / 2 / 2 / 2 / 2 / 2 % 2 + (x % 256 / 2 / 2 / 2 / 2 / 2 / 2 / 2 % 2 + 0))))))) := rfl
  have e3 : x / 2 / 2 / 2 / 2 / 2 / 2 / 2 / 2 = x / 256 := by omega
  rw [e, e2, e3]
  generalize bpc n (x / 256) = z
  omega
theorem bw1 (a0 a1 a2 a3 a4 a5 a6 a7 : Nat) (h0 : a0 ≤ 8) : (a0 + 256 * (a1 + 256 * (a2 + 256 * (a3 + 256 * (a4 + 256 * (a5 + 256 * (a6 + 256 * a7))))))) / 256 = a1 + 256 * (a2 + 256 * (a3 + 256 * (a4 + 256 * (a5 + 256 * (a6 + 256 * a7))))) := by
  rw [Nat.add_mul_div_left _ _ (by decide), Nat.div_eq_of_lt (by omega), Nat.zero_add]
theorem bw2 (a0 a1 a2 a3 a4 a5 a6 a7 : Nat) : a0 + 256 * (a1 + 256 * (a2 + 256 * (a3 + 256 * (a4 + 256 * (a5 + 256 * (a6 + 256 * a7)))))) + (a1 + 256 * (a2 + 256 * (a3 + 256 * (a4 + 256 * (a5 + 256 * (a6 + 256 * a7)))))) = ((a0 + a1) + 256 * (a1 + a2)) + 65536 * ((a2 + a3) + 256 * ((a3 + a4) + 256 * ((a4 + a5) + 256 * ((a5 + a6) + 256 * ((a6 + a7) + 256 * a7))))) := by omega
theorem bw3 (a0 a1 a2 a3 a4 a5 a6 a7 : Nat) (h0 : a0 ≤ 8) (h1 : a1 ≤ 8) (h2 : a2 ≤ 8) : (((a0 + a1) + 256 * (a1 + a2)) + 65536 * ((a2 + a3) + 256 * ((a3 + a4) + 256 * ((a4 + a5) + 256 * ((a5 + a6) + 256 * ((a6 + a7) + 256 * a7)))))) / 65536 = ((a2 + a3) + 256 * ((a3 + a4) + 256 * ((a4 + a5) + 256 * ((a5 + a6) + 256 * ((a6 + a7) + 256 * a7))))) := by
  have h : ((a0 + a1) + 256 * (a1 + a2)) < 65536 := by omega
  generalize ((a0 + a1) + 256 * (a1 + a2)) = A at h
  generalize ((a2 + a3) + 256 * ((a3 + a4) + 256 * ((a4 + a5) + 256 * ((a5 + a6) + 256 * ((a6 + a7) + 256 * a7))))) = B
  rw [Nat.add_mul_div_left _ _ (by decide), Nat.div_eq_of_lt h, Nat.zero_add]
theorem bw4 (a0 a1 a2 a3 a4 a5 a6 a7 : Nat) : ((a0 + a1) + 256 * (a1 + a2)) + 65536 * ((a2 + a3) + 256 * ((a3 + a4) + 256 * ((a4 + a5) + 256 * ((a5 + a6) + 256 * ((a6 + a7) + 256 * a7))))) + ((a2 + a3) + 256 * ((a3 + a4) + 256 * ((a4 + a5) + 256 * ((a5 + a6) + 256 * ((a6 + a7) + 256 * a7))))) = ((a0 + a1 + a2 + a3) + 256 * ((a1 + a2 + a3 + a4) + 256 * ((a2 + a3 + a4 + a5) + 256 * (a3 + a4 + a5 + a6)))) + 4294967296 * ((a4 + a5 + a6 + a7) + 256 * ((a5 + a6 + a7) + 256 * ((a6 + a7) + 256 * a7))) := by omega
theorem bw5 (a0 a1 a2 a3 a4 a5 a6 a7 : Nat) (h0 : a0 ≤ 8) (h1 : a1 ≤ 8) (h2 : a2 ≤ 8) (h3 : a3 ≤ 8) (h4 : a4 ≤ 8) (h5 : a5 ≤ 8) (h6 : a6 ≤ 8) : (((a0 + a1 + a2 + a3) + 256 * ((a1 + a2 + a3 + a4) + 256 * ((a2 + a3 + a4 + a5) + 256 * (a3 + a4 + a5 + a6)))) + 4294967296 * ((a4 + a5 + a6 + a7) + 256 * ((a5 + a6 + a7) + 256 * ((a6 + a7) + 256 * a7)))) / 4294967296 = ((a4 + a5 + a6 + a7) + 256 * ((a5 + a6 + a7) + 256 * ((a6 + a7) + 256 * a7))) := by
  have h : ((a0 + a1 + a2 + a3) + 256 * ((a1 + a2 + a3 + a4) + 256 * ((a2 + a3 + a4 + a5) + 256 * (a3 + a4 + a5 + a6)))) < 4294967296 := by omega
  generalize ((a0 + a1 + a2 + a3) + 256 * ((a1 + a2 + a3 + a4) + 256 * ((a2 + a3 + a4 + a5) + 256 * (a3 + a4 + a5 + a6)))) = A at h
  generalize ((a4 + a5 + a6 + a7) + 256 * ((a5 + a6 + a7) + 256 * ((a6 + a7) + 256 * a7))) = B
  rw [Nat.add_mul_div_left _ _ (by omega), Nat.div_eq_of_lt h, Nat.zero_add]
theorem bw6 (a0 a1 a2 a3 a4 a5 a6 a7 : Nat) : ((a0 + a1 + a2 + a3) + 256 * ((a1 + a2 + a3 + a4) + 256 * ((a2 + a3 + a4 + a5) + 256 * (a3 + a4 + a5 + a6)))) + 4294967296 * ((a4 + a5 + a6 + a7) + 256 * ((a5 + a6 + a7) + 256 * ((a6 + a7) + 256 * a7))) + ((a4 + a5 + a6 + a7) + 256 * ((a5 + a6 + a7) + 256 * ((a6 + a7) + 256 * a7))) = (a0 + a1 + a2 + a3 + a4 + a5 + a6 + a7) + 128 * (2 * ((a1 + a2 + a3 + a4) + 256 * ((a2 + a3 + a4 + a5) + 256 * (a3 + a4 + a5 + a6)) + ((a5 + a6 + a7) + 256 * ((a6 + a7) + 256 * a7)) + 16777216 * ((a4 + a5 + a6 + a7) + 256 * ((a5 + a6 + a7) + 256 * ((a6 + a7) + 256 * a7))))) := by omega
theorem bw7 (a0 a1 a2 a3 a4 a5 a6 a7 : Nat) (h0 : a0 ≤ 8) (h1 : a1 ≤ 8) (h2 : a2 ≤ 8) (h3 : a3 ≤ 8) (h4 : a4 ≤ 8) (h5 : a5 ≤ 8) (h6 : a6 ≤ 8) (h7 : a7 ≤ 8) (z : Nat) : (a0 + a1 + a2 + a3 + a4 + a5 + a6 + a7 + 128 * z) % 128 = a0 + a1 + a2 + a3 + a4 + a5 + a6 + a7 := by
  rw [Nat.add_mul_mod_self_left, Nat.mod_eq_of_lt (by omega)]
theorem bw8 (a0 a1 a2 a3 a4 a5 a6 a7 : Nat) (h0 : a0 ≤ 8) (h1 : a1 ≤ 8) (h2 : a2 ≤ 8) (h3 : a3 ≤ 8) (h4 : a4 ≤ 8) (h5 : a5 ≤ 8) (h6 : a6 ≤ 8) (h7 : a7 ≤ 8) : (a0 + 256 * (a1 + 256 * (a2 + 256 * (a3 + 256 * (a4 + 256 * (a5 + 256 * (a6 + 256 * a7)))))) + (a0 + 256 * (a1 + 256 * (a2 + 256 * (a3 + 256 * (a4 + 256 * (a5 + 256 * (a6 + 256 * a7))))))) / 256 + (a0 + 256 * (a1 + 256 * (a2 + 256 * (a3 + 256 * (a4 + 256 * (a5 + 256 * (a6 + 256 * a7)))))) + (a0 + 256 * (a1 + 256 * (a2 + 256 * (a3 + 256 * (a4 + 256 * (a5 + 256 * (a6 + 256 * a7))))))) / 256) / 65536 + (a0 + 256 * (a1 + 256 * (a2 + 256 * (a3 + 256 * (a4 + 256 * (a5 + 256 * (a6 + 256 * a7)))))) + (a0 + 256 * (a1 + 256 * (a2 + 256 * (a3 + 256 * (a4 + 256 * (a5 + 256 * (a6 + 256 * a7))))))) / 256 + (a0 + 256 * (a1 + 256 * (a2 + 256 * (a3 + 256 * (a4 + 256 * (a5 + 256 * (a6 + 256 * a7)))))) + (a0 + 256 * (a1 + 256 * (a2 + 256 * (a3 + 256 * (a4 + 256 * (a5 + 256 * (a6 + 256 * a7))))))) / 256) / 65536) / 4294967296) % 128 = a0 + a1 + a2 + a3 + a4 + a5 + a6 + a7 := by
  rw [bw1 a0 a1 a2 a3 a4 a5 a6 a7 h0, bw2, bw3 a0 a1 a2 a3 a4 a5 a6 a7 h0 h1 h2, bw4, bw5 a0 a1 a2 a3 a4 a5 a6 a7 h0 h1 h2 h3 h4 h5 h6, bw6, bw7 a0 a1 a2 a3 a4 a5 a6 a7 h0 h1 h2 h3 h4 h5 h6 h7]
theorem bw9 (a0 a1 a2 a3 a4 a5 a6 a7 : Nat) (h0 : a0 ≤ 8) (h1 : a1 ≤ 8) (h2 : a2 ≤ 8) (h3 : a3 ≤ 8) (h4 : a4 ≤ 8) (h5 : a5 ≤ 8) (h6 : a6 ≤ 8) (h7 : a7 ≤ 8) : a0 + 256 * (a1 + 256 * (a2 + 256 * (a3 + 256 * (a4 + 256 * (a5 + 256 * (a6 + 256 * a7)))))) < 1152921504606846976 := by omega
theorem bX_s (f : Nat → Nat) (n x : Nat) : bX f (n + 1) x = f (x % 256) + 256 * bX f n (x / 256) := rfl
theorem bX_1 (f : Nat → Nat) (x : Nat) : bX f 1 x = f (x % 256) := by
  show f (x % 256) + 256 * 0 = _
  omega
theorem bs4a (x : Nat) (hx : x < 18446744073709551616) : bpc 64 x = bpc 8 (x % 256) + bpc 8 (x / 256 % 256) + bpc 8 (x / 256 / 256 % 256) + bpc 8 (x / 256 / 256 / 256 % 256) + bpc 8 (x / 256 / 256 / 256 / 256 % 256) + bpc 8 (x / 256 / 256 / 256 / 256 / 256 % 256) + bpc 8 (x / 256 / 256 / 256 / 256 / 256 / 256 % 256) + bpc 8 (x / 256 / 256 / 256 / 256 / 256 / 256 / 256 % 256) := by
  have h8 : x / 256 / 256 / 256 / 256 / 256 / 256 / 256 % 256 = x / 256 / 256 / 256 / 256 / 256 / 256 / 256 := by omega
  have e0 : bpc 64 (x) = bpc 8 (x % 256) + bpc 56 (x / 256) := bpc_split 56 (x)
  have e1 : bpc 56 (x / 256) = bpc 8 (x / 256 % 256) + bpc 48 (x / 256 / 256) := bpc_split 48 (x / 256)
  have e2 : bpc 48 (x / 256 / 256) = bpc 8 (x / 256 / 256 % 256) + bpc 40 (x / 256 / 256 / 256) := bpc_split 40 (x / 256 / 256)
  have e3 : bpc 40 (x / 256 / 256 / 256) = bpc 8 (x / 256 / 256 / 256 % 256) + bpc 32 (x / 256 / 256 / 256 / 256) := bpc_split 32 (x / 256 / 256 / 256)
  have e4 : bpc 32 (x / 256 / 256 / 256 / 256) = bpc 8 (x / 256 / 256 / 256 / 256 % 256) + bpc 24 (x / 256 / 256 / 256 / 256 / 256) := bpc_split 24 (x / 256 / 256 / 256 / 256)
  have e5 : bpc 24 (x / 256 / 256 / 256 / 256 / 256) = bpc 8 (x / 256 / 256 / 256 / 256 / 256 % 256) + bpc 16 (x / 256 / 256 / 256 / 256 / 256 / 256) := bpc_split 16 (x / 256 / 256 / 256 / 256 / 256)
  have e6 : bpc 16 (x / 256 / 256 / 256 / 256 / 256 / 256) = bpc 8 (x / 256 / 256 / 256 / 256 / 256 / 256 % 256) + bpc 8 (x / 256 / 256 / 256 / 256 / 256 / 256 / 256) := bpc_split 8 (x / 256 / 256 / 256 / 256 / 256 / 256)
  rw [e0, e1, e2, e3, e4, e5, e6, h8]
  simp only [Nat.add_assoc]
theorem bs4b (f : Nat → Nat) (x : Nat) : bX f 8 x = f (x % 256) + 256 * (f (x / 256 % 256) + 256 * (f (x / 256 / 256 % 256) + 256 * (f (x / 256 / 256 / 256 % 256) + 256 * (f (x / 256 / 256 / 256 / 256 % 256) + 256 * (f (x / 256 / 256 / 256 / 256 / 256 % 256) + 256 * (f (x / 256 / 256 / 256 / 256 / 256 / 256 % 256) + 256 * (f (x / 256 / 256 / 256 / 256 / 256 / 256 / 256 % 256)))))))) := by
  have e0 : bX f 8 (x) = f (x % 256) + 256 * bX f 7 (x / 256) := bX_s f 7 (x)
  have e1 : bX f 7 (x / 256) = f (x / 256 % 256) + 256 * bX f 6 (x / 256 / 256) := bX_s f 6 (x / 256)
  have e2 : bX f 6 (x / 256 / 256) = f (x / 256 / 256 % 256) + 256 * bX f 5 (x / 256 / 256 / 256) := bX_s f 5 (x / 256 / 256)
  have e3 : bX f 5 (x / 256 / 256 / 256) = f (x / 256 / 256 / 256 % 256) + 256 * bX f 4 (x / 256 / 256 / 256 / 256) := bX_s f 4 (x / 256 / 256 / 256)
  have e4 : bX f 4 (x / 256 / 256 / 256 / 256) = f (x / 256 / 256 / 256 / 256 % 256) + 256 * bX f 3 (x / 256 / 256 / 256 / 256 / 256) := bX_s f 3 (x / 256 / 256 / 256 / 256)
  have e5 : bX f 3 (x / 256 / 256 / 256 / 256 / 256) = f (x / 256 / 256 / 256 / 256 / 256 % 256) + 256 * bX f 2 (x / 256 / 256 / 256 / 256 / 256 / 256) := bX_s f 2 (x / 256 / 256 / 256 / 256 / 256)
  have e6 : bX f 2 (x / 256 / 256 / 256 / 256 / 256 / 256) = f (x / 256 / 256 / 256 / 256 / 256 / 256 % 256) + 256 * bX f 1 (x / 256 / 256 / 256 / 256 / 256 / 256 / 256) := bX_s f 1 (x / 256 / 256 / 256 / 256 / 256 / 256)
  rw [e0, e1, e2, e3, e4, e5, e6, bX_1]
theorem bs4 (x : Nat) (hx : x < 18446744073709551616) : (bX (bpc 8) 8 x + bX (bpc 8) 8 x / 256 + (bX (bpc 8) 8 x + bX (bpc 8) 8 x / 256) / 65536 + (bX (bpc 8) 8 x + bX (bpc 8) 8 x / 256 + (bX (bpc 8) 8 x + bX (bpc 8) 8 x / 256) / 65536) / 4294967296) % 128 = bpc 64 x ∧ bX (bpc 8) 8 x < 1152921504606846976 := by
  have s : ∀ y : Nat, bpc 8 (y % 256) ≤ 8 := fun y => (bt3 ⟨y % 256, Nat.mod_lt _ (by decide)⟩).2.2.2
  rw [bs4a x hx, bs4b]
  exact ⟨bw8 _ _ _ _ _ _ _ _ (s (x)) (s (x / 256)) (s (x / 256 / 256)) (s (x / 256 / 256 / 256)) (s (x / 256 / 256 / 256 / 256)) (s (x / 256 / 256 / 256 / 256 / 256)) (s (x / 256 / 256 / 256 / 256 / 256 / 256)) (s (x / 256 / 256 / 256 / 256 / 256 / 256 / 256)), bw9 _ _ _ _ _ _ _ _ (s (x)) (s (x / 256)) (s (x / 256 / 256)) (s (x / 256 / 256 / 256)) (s (x / 256 / 256 / 256 / 256)) (s (x / 256 / 256 / 256 / 256 / 256)) (s (x / 256 / 256 / 256 / 256 / 256 / 256)) (s (x / 256 / 256 / 256 / 256 / 256 / 256 / 256))⟩

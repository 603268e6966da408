theorem jI_bv (n : Nat) : (jI (n : Int)).toBitVec = BitVec.ofNat 32 n := by
  unfold jI
  rw [Int32.toBitVec_ofInt, BitVec.ofInt_natCast]
theorem bv_int {b : BitVec 32} (h : b.toNat < 2147483648) : b.toInt = (b.toNat : Int) := BitVec.toInt_eq_toNat_of_lt (by omega)
theorem jor_n (a b : Nat) (ha : a < 2147483648) (hb : b < 2147483648) : jor (a : Int) (b : Int) = ((a ||| b : Nat) : Int) := by
  have h : a ||| b < 2147483648 := Nat.or_lt_two_pow (n := 31) ha hb
  unfold jor
  rw [← Int32.toInt_toBitVec, Int32.toBitVec_or, jI_bv, jI_bv]
  have e : (BitVec.ofNat 32 a ||| BitVec.ofNat 32 b).toNat = a ||| b := by
    rw [BitVec.toNat_or, BitVec.toNat_ofNat, BitVec.toNat_ofNat, Nat.mod_eq_of_lt (by omega), Nat.mod_eq_of_lt (by omega)]
  rw [bv_int (by rw [e]; exact h), e]
theorem jand_n (a b : Nat) (ha : a < 2147483648) (hb : b < 2147483648) : jand (a : Int) (b : Int) = ((a &&& b : Nat) : Int) := by
  have h : a &&& b < 2147483648 := Nat.and_lt_two_pow (n := 31) a hb
  unfold jand
  rw [← Int32.toInt_toBitVec, Int32.toBitVec_and, jI_bv, jI_bv]
  have e : (BitVec.ofNat 32 a &&& BitVec.ofNat 32 b).toNat = a &&& b := by
    rw [BitVec.toNat_and, BitVec.toNat_ofNat, BitVec.toNat_ofNat, Nat.mod_eq_of_lt (by omega), Nat.mod_eq_of_lt (by omega)]
  rw [bv_int (by rw [e]; exact h), e]
theorem jxor_n (a b : Nat) (ha : a < 2147483648) (hb : b < 2147483648) : jxor (a : Int) (b : Int) = ((a ^^^ b : Nat) : Int) := by
  have h : a ^^^ b < 2147483648 := Nat.xor_lt_two_pow (n := 31) ha hb
  unfold jxor
  rw [← Int32.toInt_toBitVec, Int32.toBitVec_xor, jI_bv, jI_bv]
  have e : (BitVec.ofNat 32 a ^^^ BitVec.ofNat 32 b).toNat = a ^^^ b := by
    rw [BitVec.toNat_xor, BitVec.toNat_ofNat, BitVec.toNat_ofNat, Nat.mod_eq_of_lt (by omega), Nat.mod_eq_of_lt (by omega)]
  rw [bv_int (by rw [e]; exact h), e]
theorem jshl_all : ∀ k : Fin 31, jshl 1 (k.val : Int) = ((2 ^ k.val : Nat) : Int) := by decide +kernel
theorem jshl_n {k : Nat} (h : k < 31) : jshl 1 (k : Int) = ((2 ^ k : Nat) : Int) := jshl_all ⟨k, h⟩
theorem shift_all : ∀ k : Fin 31, ((jI (k.val : Int) &&& 31).toBitVec.smod 32) = BitVec.ofNat 32 k.val := by decide +kernel
theorem jshr_n (a k : Nat) (ha : a < 2147483648) (hk : k < 31) : jshr (a : Int) (k : Int) = ((a >>> k : Nat) : Int) := by
  have h : a >>> k ≤ a := by rw [Nat.shiftRight_eq_div_pow]; exact Nat.div_le_self _ _
  unfold jshr
  rw [← Int32.toInt_toBitVec, Int32.toBitVec_shiftRight, shift_all ⟨k, hk⟩, jI_bv]
  have e0 : (BitVec.ofNat 32 a).toNat = a := by rw [BitVec.toNat_ofNat, Nat.mod_eq_of_lt (by omega)]
  have ek : (BitVec.ofNat 32 k).toNat = k := by rw [BitVec.toNat_ofNat, Nat.mod_eq_of_lt (by omega)]
  have e : ((BitVec.ofNat 32 a).sshiftRight' (BitVec.ofNat 32 k)).toNat = a >>> k := by
    show ((BitVec.ofNat 32 a).sshiftRight (BitVec.ofNat 32 k).toNat).toNat = a >>> k
    rw [ek, BitVec.sshiftRight_eq_of_msb_false (BitVec.msb_eq_false_iff_two_mul_lt.mpr (by rw [e0]; omega)), BitVec.toNat_ushiftRight, e0]
  rw [bv_int (by rw [e]; omega), e]
/-- Whether a bit is in a set. -/
def tb (x k : Int) : Bool := x.toNat.testBit k.toNat
theorem bit_n (a k : Nat) (ha : a < 2147483648) (hk : k < 31) : jand (jshr (a : Int) (k : Int)) 1 = if a.testBit k then 1 else 0 := by
  have h : a >>> k ≤ a := by rw [Nat.shiftRight_eq_div_pow]; exact Nat.div_le_self _ _
  rw [jshr_n a k ha hk, show (1 : Int) = ((1 : Nat) : Int) from rfl, jand_n _ _ (by omega) (by decide), Nat.and_one_is_mod, Nat.shiftRight_eq_div_pow, Nat.testBit_eq_decide_div_mod_eq]
  by_cases g : a / 2 ^ k % 2 = 1
  · simp [g]
  · have : a / 2 ^ k % 2 = 0 := by omega
    simp [this]
theorem jbit {x k : Int} (x0 : 0 ≤ x) (x1 : x < 2147483648) (k0 : 0 ≤ k) (k1 : k < 31) : jand (jshr x k) 1 = if tb x k then 1 else 0 := by
  have := bit_n x.toNat k.toNat (by omega) (by omega)
  rw [Int.toNat_of_nonneg x0, Int.toNat_of_nonneg k0] at this
  exact this
theorem tb_ext {x y : Int} (x0 : 0 ≤ x) (y0 : 0 ≤ y) (h : ∀ k, 0 ≤ k → tb x k = tb y k) : x = y := by
  have : x.toNat = y.toNat := by
    apply Nat.eq_of_testBit_eq
    intro i
    have := h i (by omega)
    unfold tb at this
    simpa using this
  omega
theorem tb_hi {x k : Int} {n : Nat} (h : x < 2 ^ n) (hk : (n : Int) ≤ k) : tb x k = false := by
  unfold tb
  apply Nat.testBit_lt_two_pow
  have h1 : (2 : Nat) ^ n ≤ 2 ^ k.toNat := Nat.pow_le_pow_right (by decide) (by omega)
  have h2 : ((2 ^ n : Nat) : Int) = (2 : Int) ^ n := by simp
  have h3 : 0 < (2 : Nat) ^ n := Nat.two_pow_pos n
  omega
theorem jor_tb {x k : Int} (x0 : 0 ≤ x) (x1 : x < 2147483648) (k0 : 0 ≤ k) (k1 : k < 31) : 0 ≤ jor x (jshl 1 k) ∧ (∀ j, 0 ≤ j → tb (jor x (jshl 1 k)) j = (tb x j || decide (j = k))) ∧ (∀ n : Nat, x < 2 ^ n → k < n → jor x (jshl 1 k) < 2 ^ n) := by
  have hp : (2 : Nat) ^ k.toNat < 2 ^ 31 := Nat.pow_lt_pow_right (by decide) (by omega)
  have e : jor x (jshl 1 k) = ((x.toNat ||| 2 ^ k.toNat : Nat) : Int) := by
    have a := jor_n x.toNat (2 ^ k.toNat) (by omega) hp
    have b := jshl_n (k := k.toNat) (by omega)
    rw [Int.toNat_of_nonneg k0] at b
    rw [Int.toNat_of_nonneg x0] at a
    rw [b, a]
  rw [e]
  refine ⟨by omega, ?_, ?_⟩
  · intro j j0
    unfold tb
    rw [Int.toNat_natCast, Nat.testBit_or, Nat.testBit_two_pow]
    congr 1
    apply decide_eq_decide.mpr
    omega
  · intro n h1 h2
    have a : x.toNat < 2 ^ n := by
      have h2 : ((2 ^ n : Nat) : Int) = (2 : Int) ^ n := by simp
      omega
    have b : (2 : Nat) ^ k.toNat < 2 ^ n := Nat.pow_lt_pow_right (by decide) (by omega)
    have c := Nat.or_lt_two_pow a b
    have h2 : ((2 ^ n : Nat) : Int) = (2 : Int) ^ n := by simp
    omega
theorem jor_0 {x : Int} (x0 : 0 ≤ x) (x1 : x < 2147483648) : jor x 0 = x := by
  have a := jor_n x.toNat 0 (by omega) (by decide)
  rw [Int.toNat_of_nonneg x0, Nat.or_zero, Int.toNat_of_nonneg x0] at a
  exact a
theorem jxor_tb {x k : Int} (x0 : 0 ≤ x) (x1 : x < 2147483648) (k0 : 0 ≤ k) (k1 : k < 31) : 0 ≤ jxor x (jshl 1 k) ∧ (∀ n : Nat, x < 2 ^ n → k < n → jxor x (jshl 1 k) < 2 ^ n) := by
  have hp : (2 : Nat) ^ k.toNat < 2 ^ 31 := Nat.pow_lt_pow_right (by decide) (by omega)
  have e : jxor x (jshl 1 k) = ((x.toNat ^^^ 2 ^ k.toNat : Nat) : Int) := by
    have a := jxor_n x.toNat (2 ^ k.toNat) (by omega) hp
    have b := jshl_n (k := k.toNat) (by omega)
    rw [Int.toNat_of_nonneg k0] at b
    rw [Int.toNat_of_nonneg x0] at a
    rw [b, a]
  rw [e]
  refine ⟨by omega, ?_⟩
  intro n h1 h2
  have a : x.toNat < 2 ^ n := by
    have h2 : ((2 ^ n : Nat) : Int) = (2 : Int) ^ n := by simp
    omega
  have b : (2 : Nat) ^ k.toNat < 2 ^ n := Nat.pow_lt_pow_right (by decide) (by omega)
  have c := Nat.xor_lt_two_pow a b
  have h2 : ((2 ^ n : Nat) : Int) = (2 : Int) ^ n := by simp
  omega
theorem kdiv_nn {a b : Int} (a1 : 0 ≤ a) (a2 : a < 9223372036854775808) (b1 : 0 < b) (b2 : b < 9223372036854775808) : kdiv a b = a / b := by
  have ha : (jL a).toInt = a := nrl_id (by omega) a2
  have hb : (jL b).toInt = b := nrl_id (by omega) b2
  unfold kdiv
  rw [Int64.toInt_div, ha, hb, Int.tdiv_eq_ediv_of_nonneg a1]
  have h1 : 0 ≤ a / b := Int.ediv_nonneg a1 (by omega)
  have h2 : a / b ≤ a := Int.ediv_le_self b a1
  exact Int.bmod_eq_of_le (by omega) (by omega)
theorem krem_nn {a b : Int} (a1 : 0 ≤ a) (a2 : a < 9223372036854775808) (b1 : 0 < b) (b2 : b < 9223372036854775808) : krem a b = a % b := by
  have ha : (jL a).toInt = a := nrl_id (by omega) a2
  have hb : (jL b).toInt = b := nrl_id (by omega) b2
  have hd : (jL a / jL b).toInt = a / b := kdiv_nn a1 a2 b1 b2
  have h0 : 0 ≤ a % b := Int.emod_nonneg a (by omega)
  have h1 : a % b < b := Int.emod_lt_of_pos a b1
  have h2 : b * (a / b) + a % b = a := Int.mul_ediv_add_emod a b
  have h3 : 0 ≤ b * (a / b) := Int.mul_nonneg (by omega) (Int.ediv_nonneg a1 (by omega))
  have hm : (jL a / jL b * jL b).toInt = b * (a / b) := by
    rw [Int64.toInt_mul, hd, hb, Int.mul_comm]
    exact Int.bmod_eq_of_le (by omega) (by omega)
  unfold krem
  rw [Int64.toInt_sub, ha, hm]
  rw [Int.bmod_eq_of_le (by omega) (by omega)]
  omega
theorem jL_bv (n : Nat) : (jL (n : Int)).toBitVec = BitVec.ofNat 64 n := by
  unfold jL
  rw [Int64.toBitVec_ofInt, BitVec.ofInt_natCast]
theorem bv_int64 {b : BitVec 64} (h : b.toNat < 9223372036854775808) : b.toInt = (b.toNat : Int) := BitVec.toInt_eq_toNat_of_lt (by omega)
theorem shift64_all : ∀ k : Fin 31, (((jI (k.val : Int)).toInt64 &&& 63).toBitVec.smod 64) = BitVec.ofNat 64 k.val := by decide +kernel
theorem kbit_n (a k : Nat) (ha : a < 2147483648) (hk : k < 31) : kand (kshr (a : Int) (k : Int)) 1 = if a.testBit k then 1 else 0 := by
  have h : a >>> k ≤ a := by rw [Nat.shiftRight_eq_div_pow]; exact Nat.div_le_self _ _
  have e0 : (BitVec.ofNat 64 a).toNat = a := by rw [BitVec.toNat_ofNat, Nat.mod_eq_of_lt (by omega)]
  have ek : (BitVec.ofNat 64 k).toNat = k := by rw [BitVec.toNat_ofNat, Nat.mod_eq_of_lt (by omega)]
  have e1 : kshr (a : Int) (k : Int) = ((a >>> k : Nat) : Int) := by
    unfold kshr
    rw [← Int64.toInt_toBitVec, Int64.toBitVec_shiftRight, shift64_all ⟨k, hk⟩, jL_bv]
    have e : ((BitVec.ofNat 64 a).sshiftRight' (BitVec.ofNat 64 k)).toNat = a >>> k := by
      show ((BitVec.ofNat 64 a).sshiftRight (BitVec.ofNat 64 k).toNat).toNat = a >>> k
      rw [ek, BitVec.sshiftRight_eq_of_msb_false (BitVec.msb_eq_false_iff_two_mul_lt.mpr (by rw [e0]; omega)), BitVec.toNat_ushiftRight, e0]
    rw [bv_int64 (by rw [e]; omega), e]
  have e2 : kand ((a >>> k : Nat) : Int) 1 = ((a >>> k &&& 1 : Nat) : Int) := by
    unfold kand
    rw [← Int64.toInt_toBitVec, Int64.toBitVec_and, jL_bv, show (jL 1).toBitVec = BitVec.ofNat 64 1 from rfl]
    have e : (BitVec.ofNat 64 (a >>> k) &&& BitVec.ofNat 64 1).toNat = a >>> k &&& 1 := by
      rw [BitVec.toNat_and, BitVec.toNat_ofNat, BitVec.toNat_ofNat, Nat.mod_eq_of_lt (by omega), Nat.mod_eq_of_lt (by omega)]
    have e3 : a >>> k &&& 1 < 2 ^ 1 := Nat.and_lt_two_pow _ (by decide)
    rw [bv_int64 (by rw [e]; omega), e]
  rw [e1, e2, Nat.and_one_is_mod, Nat.shiftRight_eq_div_pow, Nat.testBit_eq_decide_div_mod_eq]
  by_cases g : a / 2 ^ k % 2 = 1
  · simp [g]
  · have : a / 2 ^ k % 2 = 0 := by omega
    simp [this]
theorem isIn_eq {x k : Int} (μ : Mem) (x0 : 0 ≤ x) (x1 : x < 2147483648) (k0 : 0 ≤ k) (k1 : k < 31) : f_X12_isIn x k μ = some (if tb x k then 1 else 0, μ) := by
  have h := kbit_n x.toNat k.toNat (by omega) (by omega)
  rw [Int.toNat_of_nonneg x0, Int.toNat_of_nonneg k0] at h
  unfold f_X12_isIn tb
  rw [h]
  cases x.toNat.testBit k.toNat
  · exact if_neg (by decide)
  · exact if_pos (by decide)
theorem andnot_tb {x y : Int} (x0 : 0 ≤ x) (x1 : x < 2147483648) (y0 : 0 ≤ y) (y1 : y < 2147483648) : 0 ≤ jand x (jxor y (-1)) ∧ jand x (jxor y (-1)) < 2147483648 ∧ (∀ n : Nat, x < 2 ^ n → jand x (jxor y (-1)) < 2 ^ n) ∧ (∀ k, 0 ≤ k → tb (jand x (jxor y (-1))) k = (tb x k && !tb y k)) := by
  have ex : (jI x).toBitVec = BitVec.ofNat 32 x.toNat := by rw [← jI_bv, Int.toNat_of_nonneg x0]
  have ey : (jI y).toBitVec = BitVec.ofNat 32 y.toNat := by rw [← jI_bv, Int.toNat_of_nonneg y0]
  have e0 : (BitVec.ofNat 32 x.toNat).toNat = x.toNat := by rw [BitVec.toNat_ofNat, Nat.mod_eq_of_lt (by omega)]
  have f0 : (BitVec.ofNat 32 y.toNat).toNat = y.toNat := by rw [BitVec.toNat_ofNat, Nat.mod_eq_of_lt (by omega)]
  have e : jand x (jxor y (-1)) = (BitVec.ofNat 32 x.toNat &&& ~~~ BitVec.ofNat 32 y.toNat).toInt := by
    unfold jand jxor
    rw [← Int32.toInt_toBitVec, Int32.toBitVec_and, jI_to, Int32.toBitVec_xor, ex, ey, show (jI (-1)).toBitVec = BitVec.allOnes 32 from rfl, BitVec.xor_allOnes]
  have t : ∀ i, (BitVec.ofNat 32 x.toNat &&& ~~~ BitVec.ofNat 32 y.toNat).toNat.testBit i = (x.toNat.testBit i && !y.toNat.testBit i) := by
    intro i
    rw [BitVec.testBit_toNat, BitVec.getLsbD_and, BitVec.getLsbD_not, ← BitVec.testBit_toNat, ← BitVec.testBit_toNat, e0, f0]
    by_cases hi : i < 32
    · simp [hi]
    · have : x.toNat.testBit i = false := Nat.testBit_lt_two_pow (Nat.lt_of_lt_of_le (show x.toNat < 2 ^ 32 by omega) (Nat.pow_le_pow_right (by decide) (by omega)))
      simp [this]
  have b : ∀ n : Nat, x.toNat < 2 ^ n → (BitVec.ofNat 32 x.toNat &&& ~~~ BitVec.ofNat 32 y.toNat).toNat < 2 ^ n := by
    intro n hn
    apply Nat.lt_pow_two_of_testBit
    intro i hi
    rw [t, Nat.testBit_lt_two_pow (Nat.lt_of_lt_of_le hn (Nat.pow_le_pow_right (by decide) hi))]
    rfl
  have b31 := b 31 (by omega)
  have e2 := bv_int b31
  rw [e, e2]
  refine ⟨by omega, by omega, ?_, ?_⟩
  · intro n hn
    have h2 : ((2 ^ n : Nat) : Int) = (2 : Int) ^ n := by simp
    have := b n (by omega)
    omega
  · intro k k0
    unfold tb
    rw [Int.toNat_natCast]
    exact t k.toNat

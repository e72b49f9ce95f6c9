/-! what a state is: 60 things that never come or go behind the constructors; each holds whole numbers (ints and longs alike as Int); references among them never change -/
abbrev AV : Type := Int ⊕ Int ⊕ Nat
abbrev AH : Type := Nat → Nat → Int
abbrev vI (z : Int) : AV := .inl z
abbrev vL (z : Int) : AV := .inr (.inl z)
abbrev vR (o : Nat) : AV := .inr (.inr o)
def cv (ad : Nat → Nat) : AV → Value
  | .inl z => .int (Int32.ofInt z)
  | .inr (.inl z) => .long (Int64.ofInt z)
  | .inr (.inr o) => .ref (ad o)
def wI (z : Int) : Int := (z + 2147483648) % 4294967296 - 2147483648
def wL (z : Int) : Int := (z + 9223372036854775808) % 18446744073709551616 - 9223372036854775808
def w8 (z : Int) : Int := (z + 128) % 256 - 128
def bA (x y : Int) : Int := (Int32.ofInt x &&& Int32.ofInt y).toInt
def bO (x y : Int) : Int := (Int32.ofInt x ||| Int32.ofInt y).toInt
def bX (x y : Int) : Int := (Int32.ofInt x ^^^ Int32.ofInt y).toInt
def bAL (x y : Int) : Int := (Int64.ofInt x &&& Int64.ofInt y).toInt
def bOL (x y : Int) : Int := (Int64.ofInt x ||| Int64.ofInt y).toInt
def bXL (x y : Int) : Int := (Int64.ofInt x ^^^ Int64.ofInt y).toInt
def sLI (x y : Int) : Int := x * 2 ^ (y % 32).toNat
def sRI (x y : Int) : Int := wI x / 2 ^ (y % 32).toNat
def sUI (x y : Int) : Int := x % 4294967296 / 2 ^ (y % 32).toNat
def sLL (x y : Int) : Int := x * 2 ^ (y % 64).toNat
def sRL (x y : Int) : Int := wL x / 2 ^ (y % 64).toNat
def sUL (x y : Int) : Int := x % 18446744073709551616 / 2 ^ (y % 64).toNat
theorem wI_eq (z : Int) : (Int32.ofInt z).toInt = wI z := by
  rw [Int32.toInt_ofInt]; unfold wI Int.bmod Int32.size; dsimp only; split <;> omega
theorem wL_eq (z : Int) : (Int64.ofInt z).toInt = wL z := by
  rw [Int64.toInt_ofInt]; unfold wL Int.bmod Int64.size; dsimp only; split <;> omega
theorem wI_id {z : Int} (h : -2147483648 ≤ z) (h2 : z < 2147483648) : wI z = z := by unfold wI; omega
theorem wL_id {z : Int} (h : -9223372036854775808 ≤ z) (h2 : z < 9223372036854775808) : wL z = z := by unfold wL; omega
theorem wI_lo (z : Int) : -2147483648 ≤ wI z := by unfold wI; omega
theorem wI_hi (z : Int) : wI z < 2147483648 := by unfold wI; omega
theorem iZ_w (z : Int) : Int32.ofInt (wI z) = Int32.ofInt z := by rw [← wI_eq, Int32.ofInt_toInt]
theorem lZ_w (z : Int) : Int64.ofInt (wL z) = Int64.ofInt z := by rw [← wL_eq, Int64.ofInt_toInt]
theorem iZ_inj {x y : Int} : Int32.ofInt x = Int32.ofInt y ↔ wI x = wI y := by rw [← Int32.toInt_inj, wI_eq, wI_eq]
theorem lZ_inj {x y : Int} : Int64.ofInt x = Int64.ofInt y ↔ wL x = wL y := by rw [← Int64.toInt_inj, wL_eq, wL_eq]
theorem iZ_lt {x y : Int} : Int32.ofInt x < Int32.ofInt y ↔ wI x < wI y := by rw [Int32.lt_iff_toInt_lt, wI_eq, wI_eq]
theorem iZ_le {x y : Int} : Int32.ofInt x ≤ Int32.ofInt y ↔ wI x ≤ wI y := by rw [Int32.le_iff_toInt_le, wI_eq, wI_eq]
theorem lZ_lt {x y : Int} : Int64.ofInt x < Int64.ofInt y ↔ wL x < wL y := by rw [Int64.lt_iff_toInt_lt, wL_eq, wL_eq]
theorem lZ_le {x y : Int} : Int64.ofInt x ≤ Int64.ofInt y ↔ wL x ≤ wL y := by rw [Int64.le_iff_toInt_le, wL_eq, wL_eq]
theorem wI_0 : wI 0 = 0 := rfl
theorem iZ_and (x y : Int) : Int32.ofInt (bA x y) = Int32.ofInt x &&& Int32.ofInt y := Int32.ofInt_toInt _
theorem iZ_or (x y : Int) : Int32.ofInt (bO x y) = Int32.ofInt x ||| Int32.ofInt y := Int32.ofInt_toInt _
theorem iZ_xor (x y : Int) : Int32.ofInt (bX x y) = Int32.ofInt x ^^^ Int32.ofInt y := Int32.ofInt_toInt _
theorem lZ_and (x y : Int) : Int64.ofInt (bAL x y) = Int64.ofInt x &&& Int64.ofInt y := Int64.ofInt_toInt _
theorem lZ_or (x y : Int) : Int64.ofInt (bOL x y) = Int64.ofInt x ||| Int64.ofInt y := Int64.ofInt_toInt _
theorem lZ_xor (x y : Int) : Int64.ofInt (bXL x y) = Int64.ofInt x ^^^ Int64.ofInt y := Int64.ofInt_toInt _
theorem iZ_div (x y : Int) : Int32.ofInt (Int.tdiv (wI x) (wI y)) = Int32.ofInt x / Int32.ofInt y := by
  rw [← Int32.toInt_inj, Int32.toInt_div, Int32.toInt_ofInt, wI_eq x, wI_eq y]
theorem lZ_div (x y : Int) : Int64.ofInt (Int.tdiv (wL x) (wL y)) = Int64.ofInt x / Int64.ofInt y := by
  rw [← Int64.toInt_inj, Int64.toInt_div, Int64.toInt_ofInt, wL_eq x, wL_eq y]
theorem iZ_rem (x y : Int) : Int32.ofInt (Int.tmod (wI x) (wI y)) = Int32.ofInt x - Int32.ofInt x / Int32.ofInt y * Int32.ofInt y := by
  have h : Int.tmod (wI x) (wI y) = wI x - Int.tdiv (wI x) (wI y) * wI y := by rw [Int.tmod_def, Int.mul_comm]
  rw [h, Int32.ofInt_sub, Int32.ofInt_mul, iZ_div, iZ_w, iZ_w]
theorem lZ_rem (x y : Int) : Int64.ofInt (Int.tmod (wL x) (wL y)) = Int64.ofInt x - Int64.ofInt x / Int64.ofInt y * Int64.ofInt y := by
  have h : Int.tmod (wL x) (wL y) = wL x - Int.tdiv (wL x) (wL y) * wL y := by rw [Int.tmod_def, Int.mul_comm]
  rw [h, Int64.ofInt_sub, Int64.ofInt_mul, lZ_div, lZ_w, lZ_w]
theorem iZ_l (x : Int) : (Int32.ofInt x).toInt64 = Int64.ofInt (wI x) := by
  rw [← Int64.ofInt_int32ToInt, wI_eq]
theorem lZ_i (x : Int) : (Int64.ofInt x).toInt32 = Int32.ofInt x := by
  rw [← Int32.ofInt_int64ToInt, wL_eq, iZ_inj]; unfold wI wL; omega
theorem iZ_8 (x : Int) : (Int32.ofInt x).toInt8.toInt32 = Int32.ofInt (w8 x) := by
  rw [← Int32.toInt_inj, Int8.toInt_toInt32, Int32.toInt_toInt8, wI_eq, wI_eq]
  unfold Int.bmod wI w8; dsimp only; split <;> omega
theorem iZ_nat (n : Nat) : Int32.ofNat n = Int32.ofInt (n : Int) := Int32.ofInt_eq_ofNat.symm
theorem toN_i (z : Int) : (Int32.ofInt z).toNatClampNeg = (wI z).toNat := by unfold Int32.toNatClampNeg; rw [wI_eq]
theorem in_iff {z : Int} {n : Nat} : vp_in (Int32.ofInt z) n ↔ 0 ≤ wI z ∧ wI z < n := by rw [vp_in_iff, wI_eq]
theorem smod_31 (y : Int) : ((Int32.ofInt y &&& 31).toBitVec.smod 32).toNat = (y % 32).toNat := by
  have h1 : (Int32.ofInt y &&& 31).toBitVec = BitVec.ofInt 32 y &&& 31#32 := by simp
  have h2 : (BitVec.ofInt 32 y &&& 31#32).toNat = (y % 32).toNat := by
    rw [BitVec.toNat_and, show (31#32).toNat = 2 ^ 5 - 1 from rfl, Nat.and_two_pow_sub_one_eq_mod, BitVec.toNat_ofInt]
    omega
  rw [h1]
  have h3 : (BitVec.ofInt 32 y &&& 31#32).toNat < 32 := by rw [h2]; omega
  generalize BitVec.ofInt 32 y &&& 31#32 = w at h2 h3
  have h4 : w.smod 32 = w := by
    rw [BitVec.smod_eq]
    have hm : w.msb = false := by rw [BitVec.msb_eq_false_iff_two_mul_lt]; omega
    simp only [hm, show (32#32).msb = false from rfl]
    apply BitVec.eq_of_toNat_eq
    simp only [BitVec.umod_eq, BitVec.toNat_umod]
    exact Nat.mod_eq_of_lt h3
  rw [h4, h2]
theorem iZ_shl (x y : Int) : Int32.ofInt (sLI x y) = Int32.ofInt x <<< (Int32.ofInt y &&& 31) := by
  apply Int32.toBitVec_inj.mp
  apply BitVec.eq_of_toNat_eq
  rw [pk_shl _ _ (y % 32).toNat (smod_31 y)]
  simp only [Int32.toBitVec_ofInt, BitVec.toNat_ofInt]
  unfold sLI
  generalize (y % 32).toNat = k
  have e1 : ((x % ((2 ^ 32 : Nat) : Int)).toNat : Int) = x % ((2 ^ 32 : Nat) : Int) := Int.toNat_of_nonneg (Int.emod_nonneg _ (by decide))
  have e2 : (((x * 2 ^ k) % ((2 ^ 32 : Nat) : Int)).toNat : Int) = (x * 2 ^ k) % ((2 ^ 32 : Nat) : Int) := Int.toNat_of_nonneg (Int.emod_nonneg _ (by decide))
  apply Int.ofNat.inj
  show (((x * 2 ^ k) % ((2 ^ 32 : Nat) : Int)).toNat : Int) = (((x % ((2 ^ 32 : Nat) : Int)).toNat * 2 ^ k % 2 ^ 32 : Nat) : Int)
  rw [e2, Int.natCast_emod, Int.natCast_mul, e1, Int.natCast_pow 2 k]
  show (x * 2 ^ k) % 4294967296 = (x % 4294967296 * 2 ^ k) % 4294967296
  rw [Int.mul_emod x, Int.mul_emod (x % 4294967296) (2 ^ k), Int.emod_emod]
theorem iZ_shr (x y : Int) : Int32.ofInt (sRI x y) = Int32.ofInt x >>> (Int32.ofInt y &&& 31) := by
  rw [← Int32.toInt_inj, pk_shr _ _ (y % 32).toNat (smod_31 y), wI_eq, wI_eq]
  unfold sRI
  rw [Int.shiftRight_eq_div_pow]
  generalize (y % 32).toNat = k
  have a1 := wI_lo x
  have a2 := wI_hi x
  generalize wI x = v at a1 a2
  have hp : (0 : Int) < 2 ^ k := Int.pow_pos (by decide)
  push_cast
  apply wI_id
  · rcases Int.lt_or_le v 0 with h | h
    · have := Int.le_ediv_of_mul_le hp (show v * 2 ^ k ≤ v from by
        have : (1 : Int) ≤ 2 ^ k := hp
        have h9 := Int.mul_le_mul_of_nonneg_left this (show 0 ≤ -v by omega)
        rw [Int.neg_mul, Int.neg_mul] at h9
        omega)
      omega
    · have := Int.ediv_nonneg h (Int.le_of_lt hp)
      omega
  · rcases Int.lt_or_le v 0 with h | h
    · have := Int.ediv_neg_of_neg_of_pos h hp
      omega
    · have := Int.ediv_le_self (2 ^ k) h
      omega
theorem smodU_31 (y : Int) : (((Int32.ofInt y).toUInt32 &&& Int32.toUInt32 31).toBitVec % 32).toNat = (y % 32).toNat := by
  have h1 : ((Int32.ofInt y).toUInt32 &&& Int32.toUInt32 31).toBitVec = BitVec.ofInt 32 y &&& 31#32 := rfl
  have h2 : (BitVec.ofInt 32 y &&& 31#32).toNat = (y % 32).toNat := by
    rw [BitVec.toNat_and, show (31#32).toNat = 2 ^ 5 - 1 from rfl, Nat.and_two_pow_sub_one_eq_mod, BitVec.toNat_ofInt]
    omega
  rw [h1]
  show ((BitVec.ofInt 32 y &&& 31#32).toNat) % 32 = _
  rw [h2]
  omega
theorem iZ_ushr (x y : Int) : ((Int32.ofInt x).toUInt32 >>> ((Int32.ofInt y).toUInt32 &&& Int32.toUInt32 31)).toInt32 = Int32.ofInt (sUI x y) := by
  apply Int32.toBitVec_inj.mp
  apply BitVec.eq_of_toNat_eq
  rw [pk_ushr _ _ (y % 32).toNat (smodU_31 y)]
  simp only [Int32.toBitVec_ofInt, BitVec.toNat_ofInt]
  unfold sUI
  generalize (y % 32).toNat = k
  have e1 : ((x % ((2 ^ 32 : Nat) : Int)).toNat : Int) = x % ((2 ^ 32 : Nat) : Int) := Int.toNat_of_nonneg (Int.emod_nonneg _ (by decide))
  have n0 : (0 : Int) ≤ x % 4294967296 := Int.emod_nonneg _ (by decide)
  have n1 : x % 4294967296 < 4294967296 := Int.emod_lt_of_pos _ (by decide)
  have hp : (0 : Int) < 2 ^ k := Int.pow_pos (by decide)
  have n2 : 0 ≤ x % 4294967296 / 2 ^ k := Int.ediv_nonneg n0 (Int.le_of_lt hp)
  have n3 : x % 4294967296 / 2 ^ k ≤ x % 4294967296 := Int.ediv_le_self _ n0
  have n4 : x % 4294967296 / 2 ^ k % 4294967296 = x % 4294967296 / 2 ^ k := Int.emod_eq_of_lt n2 (by omega)
  apply Int.ofNat.inj
  show (((x % ((2 ^ 32 : Nat) : Int)).toNat / 2 ^ k : Nat) : Int) = (((x % 4294967296 / 2 ^ k) % 4294967296).toNat : Int)
  rw [n4, Int.toNat_of_nonneg n2, Int.natCast_ediv, e1, Int.natCast_pow 2 k]
  rfl
theorem p6_shl (a s : Int64) (k : Nat) (hs : (s.toBitVec.smod 64).toNat = k) : (a <<< s).toBitVec.toNat = a.toBitVec.toNat * 2 ^ k % 2 ^ 64 := by
  show (a.toBitVec <<< (s.toBitVec.smod 64).toNat).toNat = _
  rw [hs, BitVec.toNat_shiftLeft, Nat.shiftLeft_eq]
theorem p6_shr (a s : Int64) (k : Nat) (hs : (s.toBitVec.smod 64).toNat = k) : (a >>> s).toInt = a.toInt >>> k := by
  show (a.toBitVec.sshiftRight (s.toBitVec.smod 64).toNat).toInt = _
  rw [hs, BitVec.toInt_sshiftRight]
  rfl
theorem p6_ushr (x : Int64) (u : UInt64) (k : Nat) (hs : (u.toBitVec % 64).toNat = k) : (x.toUInt64 >>> u).toInt64.toBitVec.toNat = x.toBitVec.toNat / 2 ^ k := by
  have e : (x.toUInt64 >>> u).toInt64.toBitVec = x.toBitVec >>> k := by
    rw [← hs]
    exact UInt64.toBitVec_shiftRight _ _
  rw [e, BitVec.toNat_ushiftRight, Nat.shiftRight_eq_div_pow]
theorem i64_bv (y : Int) : (Int32.ofInt y).toInt64.toBitVec = BitVec.ofInt 64 (wI y) := by
  rw [iZ_l, Int64.toBitVec_ofInt]
theorem smod_63 (y : Int) : (((Int32.ofInt y).toInt64 &&& 63).toBitVec.smod 64).toNat = (y % 64).toNat := by
  have h1 : ((Int32.ofInt y).toInt64 &&& 63).toBitVec = BitVec.ofInt 64 (wI y) &&& 63#64 := by rw [← i64_bv]; simp
  have h2 : (BitVec.ofInt 64 (wI y) &&& 63#64).toNat = (y % 64).toNat := by
    rw [BitVec.toNat_and, show (63#64).toNat = 2 ^ 6 - 1 from rfl, Nat.and_two_pow_sub_one_eq_mod, BitVec.toNat_ofInt]
    unfold wI
    omega
  rw [h1]
  have h3 : (BitVec.ofInt 64 (wI y) &&& 63#64).toNat < 64 := by rw [h2]; omega
  generalize BitVec.ofInt 64 (wI y) &&& 63#64 = w at h2 h3
  have h4 : w.smod 64 = w := by
    rw [BitVec.smod_eq]
    have hm : w.msb = false := by rw [BitVec.msb_eq_false_iff_two_mul_lt]; omega
    simp only [hm, show (64#64).msb = false from rfl]
    apply BitVec.eq_of_toNat_eq
    simp only [BitVec.umod_eq, BitVec.toNat_umod]
    exact Nat.mod_eq_of_lt h3
  rw [h4, h2]
theorem smodU_63 (y : Int) : (((Int32.ofInt y).toInt64.toUInt64 &&& Int64.toUInt64 63).toBitVec % 64).toNat = (y % 64).toNat := by
  have h1 : ((Int32.ofInt y).toInt64.toUInt64 &&& Int64.toUInt64 63).toBitVec = (Int32.ofInt y).toInt64.toBitVec &&& 63#64 := rfl
  have h2 : (BitVec.ofInt 64 (wI y) &&& 63#64).toNat = (y % 64).toNat := by
    rw [BitVec.toNat_and, show (63#64).toNat = 2 ^ 6 - 1 from rfl, Nat.and_two_pow_sub_one_eq_mod, BitVec.toNat_ofInt]
    unfold wI
    omega
  rw [h1, i64_bv]
  show ((BitVec.ofInt 64 (wI y) &&& 63#64).toNat) % 64 = _
  rw [h2]
  omega
theorem wL_lo (z : Int) : -9223372036854775808 ≤ wL z := by unfold wL; omega
theorem wL_hi (z : Int) : wL z < 9223372036854775808 := by unfold wL; omega
theorem lZ_shl (x y : Int) : Int64.ofInt (sLL x y) = Int64.ofInt x <<< ((Int32.ofInt y).toInt64 &&& 63) := by
  apply Int64.toBitVec_inj.mp
  apply BitVec.eq_of_toNat_eq
  rw [p6_shl _ _ (y % 64).toNat (smod_63 y)]
  simp only [Int64.toBitVec_ofInt, BitVec.toNat_ofInt]
  unfold sLL
  generalize (y % 64).toNat = k
  have e1 : ((x % ((2 ^ 64 : Nat) : Int)).toNat : Int) = x % ((2 ^ 64 : Nat) : Int) := Int.toNat_of_nonneg (Int.emod_nonneg _ (by decide))
  have e2 : (((x * 2 ^ k) % ((2 ^ 64 : Nat) : Int)).toNat : Int) = (x * 2 ^ k) % ((2 ^ 64 : Nat) : Int) := Int.toNat_of_nonneg (Int.emod_nonneg _ (by decide))
  apply Int.ofNat.inj
  show (((x * 2 ^ k) % ((2 ^ 64 : Nat) : Int)).toNat : Int) = (((x % ((2 ^ 64 : Nat) : Int)).toNat * 2 ^ k % 2 ^ 64 : Nat) : Int)
  rw [e2, Int.natCast_emod, Int.natCast_mul, e1, Int.natCast_pow 2 k]
  show (x * 2 ^ k) % 18446744073709551616 = (x % 18446744073709551616 * 2 ^ k) % 18446744073709551616
  rw [Int.mul_emod x, Int.mul_emod (x % 18446744073709551616) (2 ^ k), Int.emod_emod]
theorem lZ_shr (x y : Int) : Int64.ofInt (sRL x y) = Int64.ofInt x >>> ((Int32.ofInt y).toInt64 &&& 63) := by
  rw [← Int64.toInt_inj, p6_shr _ _ (y % 64).toNat (smod_63 y), wL_eq, wL_eq]
  unfold sRL
  rw [Int.shiftRight_eq_div_pow]
  generalize (y % 64).toNat = k
  have a1 := wL_lo x
  have a2 := wL_hi x
  generalize wL x = v at a1 a2
  have hp : (0 : Int) < 2 ^ k := Int.pow_pos (by decide)
  push_cast
  apply wL_id
  · rcases Int.lt_or_le v 0 with h | h
    · have := Int.le_ediv_of_mul_le hp (show v * 2 ^ k ≤ v from by
        have : (1 : Int) ≤ 2 ^ k := hp
        have h9 := Int.mul_le_mul_of_nonneg_left this (show 0 ≤ -v by omega)
        rw [Int.neg_mul, Int.neg_mul] at h9
        omega)
      omega
    · have := Int.ediv_nonneg h (Int.le_of_lt hp)
      omega
  · rcases Int.lt_or_le v 0 with h | h
    · have := Int.ediv_neg_of_neg_of_pos h hp
      omega
    · have := Int.ediv_le_self (2 ^ k) h
      omega
theorem lZ_ushr (x y : Int) : ((Int64.ofInt x).toUInt64 >>> ((Int32.ofInt y).toInt64.toUInt64 &&& Int64.toUInt64 63)).toInt64 = Int64.ofInt (sUL x y) := by
  apply Int64.toBitVec_inj.mp
  apply BitVec.eq_of_toNat_eq
  rw [p6_ushr _ _ (y % 64).toNat (smodU_63 y)]
  simp only [Int64.toBitVec_ofInt, BitVec.toNat_ofInt]
  unfold sUL
  generalize (y % 64).toNat = k
  have e1 : ((x % ((2 ^ 64 : Nat) : Int)).toNat : Int) = x % ((2 ^ 64 : Nat) : Int) := Int.toNat_of_nonneg (Int.emod_nonneg _ (by decide))
  have n0 : (0 : Int) ≤ x % 18446744073709551616 := Int.emod_nonneg _ (by decide)
  have n1 : x % 18446744073709551616 < 18446744073709551616 := Int.emod_lt_of_pos _ (by decide)
  have hp : (0 : Int) < 2 ^ k := Int.pow_pos (by decide)
  have n2 : 0 ≤ x % 18446744073709551616 / 2 ^ k := Int.ediv_nonneg n0 (Int.le_of_lt hp)
  have n3 : x % 18446744073709551616 / 2 ^ k ≤ x % 18446744073709551616 := Int.ediv_le_self _ n0
  have n4 : x % 18446744073709551616 / 2 ^ k % 18446744073709551616 = x % 18446744073709551616 / 2 ^ k := Int.emod_eq_of_lt n2 (by omega)
  apply Int.ofNat.inj
  show (((x % ((2 ^ 64 : Nat) : Int)).toNat / 2 ^ k : Nat) : Int) = (((x % 18446744073709551616 / 2 ^ k) % 18446744073709551616).toNat : Int)
  rw [n4, Int.toNat_of_nonneg n2, Int.natCast_ediv, e1, Int.natCast_pow 2 k]
  rfl

theorem j_Lbc {σ : JH} {x : Nat} (hl : Ly σ) (hx : x < 2 ^ 64) : q_Lo_bitCount [.long (lN x)] σ = some (some (.int (nI (cntB x.testBit 64))), σ) := by
  refine WE_o (w_Lo_bitCount _ hl ?_)
  have z1 : ((nI 1).toInt64.toUInt64 &&& Int64.toUInt64 63).toNat % 64 = 1 := by decide
  have z2 : ((nI 2).toInt64.toUInt64 &&& Int64.toUInt64 63).toNat % 64 = 2 := by decide
  have z4 : ((nI 4).toInt64.toUInt64 &&& Int64.toUInt64 63).toNat % 64 = 4 := by decide
  have z8 : ((nI 8).toInt64.toUInt64 &&& Int64.toUInt64 63).toNat % 64 = 8 := by decide
  have z16 : ((nI 16).toInt64.toUInt64 &&& Int64.toUInt64 63).toNat % 64 = 16 := by decide
  have z32 : ((nI 32).toInt64.toUInt64 &&& Int64.toUInt64 63).toNat % 64 = 32 := by decide
  have k1 : (6148914691236517205 : Int64) = lN (rp 0x55 8) := by decide +kernel
  have k2 : (3689348814741910323 : Int64) = lN (rp 0x33 8) := by decide +kernel
  have k3 : (1085102592571150095 : Int64) = lN (rp 0x0f 8) := by decide +kernel
  have y1 : s1 8 x < 2 ^ 64 := Nat.lt_of_le_of_lt (Nat.sub_le _ _) hx
  have rp3 : rp 0x33 8 = 3689348814741910323 := by decide +kernel
  have y2 : s2 8 (s1 8 x) < 2 ^ 64 := by
    unfold s2
    have a1 : (s1 8 x) &&& rp 0x33 8 ≤ rp 0x33 8 := Nat.and_le_right
    have a2 : (s1 8 x) >>> 2 &&& rp 0x33 8 ≤ rp 0x33 8 := Nat.and_le_right
    rw [rp3] at a1 a2 ⊢
    omega
  have e1 : lN x - ((((lN x).toUInt64 >>> ((nI 1).toInt64.toUInt64 &&& Int64.toUInt64 63)).toInt64) &&& 6148914691236517205) = lN (s1 8 x) := by
    rw [k1, lN_ushr hx z1, lN_and, lN_sub (Nat.le_trans Nat.and_le_left (shr_le x 1))]
    rfl
  simp only [e1]
  have e2 : (lN (s1 8 x) &&& 3689348814741910323) + ((((lN (s1 8 x)).toUInt64 >>> ((nI 2).toInt64.toUInt64 &&& Int64.toUInt64 63)).toInt64) &&& 3689348814741910323) = lN (s2 8 (s1 8 x)) := by
    rw [k2, lN_ushr y1 z2, lN_and, lN_and, lN_add]
    rfl
  simp only [e2]
  have e3 : (lN (s2 8 (s1 8 x)) + (((lN (s2 8 (s1 8 x))).toUInt64 >>> ((nI 4).toInt64.toUInt64 &&& Int64.toUInt64 63)).toInt64)) &&& 1085102592571150095 = lN (bz 8 x) := by
    rw [k3, lN_ushr y2 z4, lN_add, lN_and, ← s123]
    rfl
  simp only [e3]
  have hb := bz_sum x
  have e4 : lN (bz 8 x) + (((lN (bz 8 x)).toUInt64 >>> ((nI 8).toInt64.toUInt64 &&& Int64.toUInt64 63)).toInt64) = lN (bz 8 x + bz 8 x >>> 8) := by
    rw [lN_ushr (by omega) z8, lN_add]
  simp only [e4]
  have l4 : bz 8 x >>> 8 ≤ bz 8 x := shr_le _ _
  have e5 : lN (bz 8 x + bz 8 x >>> 8) + (((lN (bz 8 x + bz 8 x >>> 8)).toUInt64 >>> ((nI 16).toInt64.toUInt64 &&& Int64.toUInt64 63)).toInt64) = lN (bz 8 x + bz 8 x >>> 8 + (bz 8 x + bz 8 x >>> 8) >>> 16) := by
    rw [lN_ushr (by omega) z16, lN_add]
  simp only [e5]
  have l5 : (bz 8 x + bz 8 x >>> 8) >>> 16 ≤ bz 8 x + bz 8 x >>> 8 := shr_le _ _
  have e6 : lN (bz 8 x + bz 8 x >>> 8 + (bz 8 x + bz 8 x >>> 8) >>> 16) + (((lN (bz 8 x + bz 8 x >>> 8 + (bz 8 x + bz 8 x >>> 8) >>> 16)).toUInt64 >>> ((nI 32).toInt64.toUInt64 &&& Int64.toUInt64 63)).toInt64) = lN (bz 8 x + bz 8 x >>> 8 + (bz 8 x + bz 8 x >>> 8) >>> 16 + (bz 8 x + bz 8 x >>> 8 + (bz 8 x + bz 8 x >>> 8) >>> 16) >>> 32) := by
    rw [lN_ushr (by omega) z32, lN_add]
  simp only [e6]
  have e7 : ∀ y : Nat, (lN y).toInt32 = nI y := fun y => lN_i y
  rw [e7]
  have e8 : ∀ y : Nat, nI y &&& nI 127 = nI (y % 128) := fun y => by
    refine i32_ext (fun i hi => ?_)
    rw [Int32.toBitVec_and, BitVec.getLsbD_and, nI_bit, nI_bit, nI_bit, show 127 = 2 ^ 7 - 1 from rfl, show 128 = 2 ^ 7 from rfl, Nat.testBit_two_pow_sub_one, Nat.testBit_mod_two_pow]
    simp [hi, Bool.and_comm]
  rw [e8, hb.1]

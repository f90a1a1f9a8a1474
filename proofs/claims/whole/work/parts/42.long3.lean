theorem bz_s (n x : Nat) : bz (n + 1) x = 256 * bz n (x / 256) + cntB (x % 256).testBit 8 := rfl
theorem fold_a {c0 c1 c2 c3 c4 c5 c6 c7 : Nat} (b0 : c0 ≤ 8) (b1 : c1 ≤ 8) (b2 : c2 ≤ 8) (b3 : c3 ≤ 8) (b4 : c4 ≤ 8) (b5 : c5 ≤ 8) (b6 : c6 ≤ 8) (b7 : c7 ≤ 8) :
    (256 * (256 * (256 * (256 * (256 * (256 * (256 * c7 + c6) + c5) + c4) + c3) + c2) + c1) + c0) + (256 * (256 * (256 * (256 * (256 * (256 * (256 * c7 + c6) + c5) + c4) + c3) + c2) + c1) + c0) / 256 = 65536 * (65536 * (65536 * (256 * c7 + (c6 + c7)) + (256 * (c5 + c6) + (c4 + c5))) + (256 * (c3 + c4) + (c2 + c3))) + (256 * (c1 + c2) + (c0 + c1)) := by
  have f1 : (256 * (256 * (256 * (256 * (256 * (256 * (256 * c7 + c6) + c5) + c4) + c3) + c2) + c1) + c0) / 256 = 256 * (256 * (256 * (256 * (256 * (256 * c7 + c6) + c5) + c4) + c3) + c2) + c1 := by
    rw [Nat.mul_add_div (by omega), Nat.div_eq_of_lt (by omega), Nat.add_zero]
  rw [f1]
  omega
theorem fold_b {d0 d1 d2 d3 : Nat} (h0 : d0 < 65536) :
    (65536 * (65536 * (65536 * d3 + d2) + d1) + d0) + (65536 * (65536 * (65536 * d3 + d2) + d1) + d0) / 65536 = 4294967296 * (65536 * d3 + (d2 + d3)) + (65536 * (d1 + d2) + (d0 + d1)) := by
  have f1 : (65536 * (65536 * (65536 * d3 + d2) + d1) + d0) / 65536 = 65536 * (65536 * d3 + d2) + d1 := by
    rw [Nat.mul_add_div (by omega), Nat.div_eq_of_lt (by omega), Nat.add_zero]
  rw [f1]
  omega
theorem fold_c {e0 e1 : Nat} (h0 : e0 < 4294967296) : (4294967296 * e1 + e0) + (4294967296 * e1 + e0) / 4294967296 = 4294967296 * e1 + (e0 + e1) := by
  have f1 : (4294967296 * e1 + e0) / 4294967296 = e1 := by
    rw [Nat.mul_add_div (by omega), Nat.div_eq_of_lt (by omega), Nat.add_zero]
  rw [f1]
  omega
theorem bz_sum (x : Nat) : ((((bz 8 x + bz 8 x >>> 8) + (bz 8 x + bz 8 x >>> 8) >>> 16) + ((bz 8 x + bz 8 x >>> 8) + (bz 8 x + bz 8 x >>> 8) >>> 16) >>> 32) % 128 = cntB x.testBit 64) ∧ bz 8 x < 1000000000000000000 := by
  have b : ∀ y : Nat, cntB y.testBit 8 ≤ 8 := fun y => cntB_le _ _
  have key : ∃ c0 c1 c2 c3 c4 c5 c6 c7, c0 ≤ 8 ∧ c1 ≤ 8 ∧ c2 ≤ 8 ∧ c3 ≤ 8 ∧ c4 ≤ 8 ∧ c5 ≤ 8 ∧ c6 ≤ 8 ∧ c7 ≤ 8 ∧ bz 8 x = 256 * (256 * (256 * (256 * (256 * (256 * (256 * c7 + c6) + c5) + c4) + c3) + c2) + c1) + c0 ∧ cntB x.testBit 64 = c0 + c1 + c2 + c3 + c4 + c5 + c6 + c7 := by
    have h0 := cnt_by 7 x
    have h1 := cnt_by 6 (x / 256)
    have h2 := cnt_by 5 (x / 256 / 256)
    have h3 := cnt_by 4 (x / 256 / 256 / 256)
    have h4 := cnt_by 3 (x / 256 / 256 / 256 / 256)
    have h5 := cnt_by 2 (x / 256 / 256 / 256 / 256 / 256)
    have h6 := cnt_by 1 (x / 256 / 256 / 256 / 256 / 256 / 256)
    have h7 := cnt_by 0 (x / 256 / 256 / 256 / 256 / 256 / 256 / 256)
    have hz : cntB (x / 256 / 256 / 256 / 256 / 256 / 256 / 256 / 256).testBit (8 * 0) = 0 := rfl
    have z : bz 0 (x / 256 / 256 / 256 / 256 / 256 / 256 / 256 / 256) = 0 := rfl
    refine ⟨_, _, _, _, _, _, _, _, b (x % 256), b (x / 256 % 256), b (x / 256 / 256 % 256), b (x / 256 / 256 / 256 % 256), b (x / 256 / 256 / 256 / 256 % 256), b (x / 256 / 256 / 256 / 256 / 256 % 256), b (x / 256 / 256 / 256 / 256 / 256 / 256 % 256), b (x / 256 / 256 / 256 / 256 / 256 / 256 / 256 % 256), ?_, ?_⟩
    · rw [bz_s 7, bz_s 6, bz_s 5, bz_s 4, bz_s 3, bz_s 2, bz_s 1, bz_s 0, z, Nat.mul_zero, Nat.zero_add]
    · show cntB x.testBit (8 * (7 + 1)) = _
      rw [h0]
      show _ + cntB (x / 256).testBit (8 * (6 + 1)) = _
      rw [h1]
      show _ + (_ + cntB (x / 256 / 256).testBit (8 * (5 + 1))) = _
      rw [h2]
      show _ + (_ + (_ + cntB (x / 256 / 256 / 256).testBit (8 * (4 + 1)))) = _
      rw [h3]
      show _ + (_ + (_ + (_ + cntB (x / 256 / 256 / 256 / 256).testBit (8 * (3 + 1))))) = _
      rw [h4]
      show _ + (_ + (_ + (_ + (_ + cntB (x / 256 / 256 / 256 / 256 / 256).testBit (8 * (2 + 1)))))) = _
      rw [h5]
      show _ + (_ + (_ + (_ + (_ + (_ + cntB (x / 256 / 256 / 256 / 256 / 256 / 256).testBit (8 * (1 + 1))))))) = _
      rw [h6]
      show _ + (_ + (_ + (_ + (_ + (_ + (_ + cntB (x / 256 / 256 / 256 / 256 / 256 / 256 / 256).testBit (8 * (0 + 1)))))))) = _
      rw [h7, hz]
      simp only [Nat.add_assoc, Nat.add_zero]
  obtain ⟨c0, c1, c2, c3, c4, c5, c6, c7, b0, b1, b2, b3, b4, b5, b6, b7, hb, hc⟩ := key
  have d8 : ∀ y, y >>> 8 = y / 256 := fun y => Nat.shiftRight_eq_div_pow y 8
  have d16 : ∀ y, y >>> 16 = y / 65536 := fun y => Nat.shiftRight_eq_div_pow y 16
  have d32 : ∀ y, y >>> 32 = y / 4294967296 := fun y => Nat.shiftRight_eq_div_pow y 32
  refine ⟨?_, by rw [hb]; omega⟩
  rw [hc, hb, d8, fold_a b0 b1 b2 b3 b4 b5 b6 b7, d16, fold_b (by omega), d32, fold_c (by omega)]
  omega

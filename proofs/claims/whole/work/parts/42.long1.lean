/-! ===== longs: sums of bits, the lowest bit ===== -/
theorem lN_bit (m i : Nat) : (lN m).toBitVec.getLsbD i = (decide (i < 64) && m.testBit i) := by
  show (BitVec.ofNat 64 m).getLsbD i = _
  rw [BitVec.getLsbD_ofNat]
theorem i64_ext {x y : Int64} (h : ∀ i, i < 64 → x.toBitVec.getLsbD i = y.toBitVec.getLsbD i) : x = y := by
  rw [← Int64.toBitVec_inj]
  exact BitVec.eq_of_getLsbD_eq h
theorem lN_and (a b : Nat) : lN a &&& lN b = lN (a &&& b) := by
  refine i64_ext (fun i hi => ?_)
  rw [Int64.toBitVec_and, BitVec.getLsbD_and, lN_bit, lN_bit, lN_bit, Nat.testBit_and]
  simp [hi]
theorem lN_or (a b : Nat) : lN a ||| lN b = lN (a ||| b) := by
  refine i64_ext (fun i hi => ?_)
  rw [Int64.toBitVec_or, BitVec.getLsbD_or, lN_bit, lN_bit, lN_bit, Nat.testBit_or]
  simp [hi]
theorem lN_ushr {a c : Nat} {s : UInt64} (ha : a < 2 ^ 64) (hs : s.toNat % 64 = c) : ((lN a).toUInt64 >>> s).toInt64 = lN (a >>> c) := by
  have h : (UInt64.ofNat a >>> s) = UInt64.ofNat (a >>> c) := by
    have t : ∀ y, y < 2 ^ 64 → (UInt64.ofNat y).toNat = y := fun y h => by
      show (BitVec.ofNat 64 y).toNat = y
      rw [BitVec.toNat_ofNat]
      exact Nat.mod_eq_of_lt h
    have h2 : a >>> c ≤ a := by rw [Nat.shiftRight_eq_div_pow]; exact Nat.div_le_self _ _
    rw [← UInt64.toNat_inj, UInt64.toNat_shiftRight, hs, t a ha, t _ (Nat.lt_of_le_of_lt h2 ha)]
  show (UInt64.ofNat a >>> s).toInt64 = _
  rw [h]
  rfl
/-! the sum of bits by halves -/
def rp (c : Nat) : Nat → Nat
  | 0 => 0
  | n + 1 => 256 * rp c n + c
theorem and_rp {q r M c k : Nat} (hr : r < 256) (hk : k ≤ 8) (hc : c < 2 ^ (8 - k)) : ((256 * q + r) >>> k) &&& (256 * M + c) = 256 * ((q >>> k) &&& M) + ((r >>> k) &&& c) := by
  have hc8 : c < 2 ^ 8 := Nat.lt_of_lt_of_le hc (Nat.pow_le_pow_right (by omega) (by omega))
  have ha : (r >>> k) &&& c < 2 ^ 8 := Nat.lt_of_le_of_lt Nat.and_le_right hc8
  refine Nat.eq_of_testBit_eq (fun j => ?_)
  rw [Nat.testBit_and, Nat.testBit_shiftRight, show 256 = 2 ^ 8 from rfl, Nat.testBit_two_pow_mul_add _ hr, Nat.testBit_two_pow_mul_add _ hc8, Nat.testBit_two_pow_mul_add _ ha]
  by_cases h1 : j < 8
  · rw [if_pos h1, if_pos h1]
    by_cases h2 : k + j < 8
    · rw [if_pos h2, Nat.testBit_and, Nat.testBit_shiftRight]
    · rw [if_neg h2, Nat.testBit_and, Nat.testBit_lt_two_pow (x := c) (Nat.lt_of_lt_of_le hc (Nat.pow_le_pow_right (by omega) (by omega))), Bool.and_false, Bool.and_false]
  · rw [if_neg h1, if_neg h1, if_neg (by omega), Nat.testBit_and, Nat.testBit_shiftRight, show k + j - 8 = k + (j - 8) by omega]
def s1 (n x : Nat) : Nat := x - ((x >>> 1) &&& rp 0x55 n)
def s2 (n x : Nat) : Nat := (x &&& rp 0x33 n) + ((x >>> 2) &&& rp 0x33 n)
def s3 (n x : Nat) : Nat := (x + (x >>> 4)) &&& rp 0x0f n
theorem shr_le (x k : Nat) : x >>> k ≤ x := by rw [Nat.shiftRight_eq_div_pow]; exact Nat.div_le_self _ _
theorem s1_st {n q r : Nat} (hr : r < 256) : s1 (n + 1) (256 * q + r) = 256 * s1 n q + s1 1 r := by
  unfold s1
  have h := and_rp (q := q) (r := r) (M := rp 0x55 n) (c := 0x55) (k := 1) hr (by omega) (by omega)
  have h1 : (q >>> 1) &&& rp 0x55 n ≤ q := Nat.le_trans Nat.and_le_left (shr_le q 1)
  have h2 : (r >>> 1) &&& 0x55 ≤ r := Nat.le_trans Nat.and_le_left (shr_le r 1)
  show 256 * q + r - ((256 * q + r) >>> 1 &&& (256 * rp 0x55 n + 0x55)) = _
  rw [h]
  show _ = 256 * (q - (q >>> 1 &&& rp 0x55 n)) + (r - (r >>> 1 &&& 0x55))
  omega
theorem s2_st {n q r : Nat} (hr : r < 256) : s2 (n + 1) (256 * q + r) = 256 * s2 n q + s2 1 r := by
  unfold s2
  have h := and_rp (q := q) (r := r) (M := rp 0x33 n) (c := 0x33) (k := 2) hr (by omega) (by omega)
  have h0 := and_rp (q := q) (r := r) (M := rp 0x33 n) (c := 0x33) (k := 0) hr (by omega) (by omega)
  rw [Nat.shiftRight_zero, Nat.shiftRight_zero, Nat.shiftRight_zero] at h0
  show (256 * q + r &&& (256 * rp 0x33 n + 0x33)) + ((256 * q + r) >>> 2 &&& (256 * rp 0x33 n + 0x33)) = _
  rw [h, h0]
  show _ = 256 * ((q &&& rp 0x33 n) + (q >>> 2 &&& rp 0x33 n)) + ((r &&& 0x33) + (r >>> 2 &&& 0x33))
  omega
theorem s3_st {n q r : Nat} (hr : r ≤ 68) (hq : q % 16 ≤ 4) : s3 (n + 1) (256 * q + r) = 256 * s3 n q + s3 1 r := by
  unfold s3
  have e : 256 * q + r + (256 * q + r) >>> 4 = 256 * (q + q >>> 4) + (r + r / 16 + 16 * (q % 16)) := by
    rw [Nat.shiftRight_eq_div_pow, Nat.shiftRight_eq_div_pow]
    omega
  have h := and_rp (q := q + q >>> 4) (r := r + r / 16 + 16 * (q % 16)) (M := rp 0x0f n) (c := 0x0f) (k := 0) (by omega) (by omega) (by omega)
  rw [Nat.shiftRight_zero, Nat.shiftRight_zero, Nat.shiftRight_zero] at h
  show (256 * q + r + (256 * q + r) >>> 4) &&& (256 * rp 0x0f n + 0x0f) = _
  rw [e, h]
  have m : ∀ x, x &&& 0x0f = x % 16 := fun x => Nat.and_two_pow_sub_one_eq_mod x 4
  show _ = 256 * (q + q >>> 4 &&& rp 0x0f n) + (r + r >>> 4 &&& 0x0f)
  rw [m, m, Nat.shiftRight_eq_div_pow r]
  omega
def bz (n x : Nat) : Nat := match n with
  | 0 => 0
  | n + 1 => 256 * bz n (x / 256) + cntB (x % 256).testBit 8
theorem sb_1 : ∀ r, r < 256 → s1 1 r < 256 ∧ s2 1 (s1 1 r) ≤ 68 ∧ s2 1 (s1 1 r) % 16 ≤ 4 ∧ s3 1 (s2 1 (s1 1 r)) = cntB r.testBit 8 := by decide +kernel
theorem s12_16 (n q : Nat) : s2 n (s1 n q) % 16 ≤ 4 := by
  cases n with
  | zero => unfold s2 s1 rp; simp
  | succ n =>
    have hr : q % 256 < 256 := Nat.mod_lt _ (by omega)
    rw [show q = 256 * (q / 256) + q % 256 by omega, s1_st hr, s2_st (sb_1 _ hr).1]
    have := (sb_1 _ hr).2.2.1
    omega
theorem s123 (n : Nat) : ∀ x, s3 n (s2 n (s1 n x)) = bz n x := by
  induction n with
  | zero => intro x; unfold s3 rp bz; simp
  | succ n ih =>
    intro x
    have hr : x % 256 < 256 := Nat.mod_lt _ (by omega)
    have hb := sb_1 _ hr
    rw [show s1 (n + 1) x = s1 (n + 1) (256 * (x / 256) + x % 256) by rw [show 256 * (x / 256) + x % 256 = x by omega], s1_st hr, s2_st hb.1, s3_st hb.2.1 (s12_16 _ _), ih, hb.2.2.2]
    rfl
theorem cntB_add (f : Nat → Bool) (m n : Nat) : cntB f (m + n) = cntB f m + cntB (fun k => f (m + k)) n := by
  induction n with
  | zero => rfl
  | succ n ih => rw [← Nat.add_assoc, cntB_succ, ih, cntB_succ, Nat.add_assoc]
theorem cnt_by (n x : Nat) : cntB x.testBit (8 * (n + 1)) = cntB (x % 256).testBit 8 + cntB (x / 256).testBit (8 * n) := by
  rw [show 8 * (n + 1) = 8 + 8 * n by omega, cntB_add]
  congr 1
  · refine cntB_ext (fun k hk => ?_)
    rw [show 256 = 2 ^ 8 from rfl, Nat.testBit_mod_two_pow]
    simp [hk]
  · refine cntB_ext (fun k hk => ?_)
    rw [show 256 = 2 ^ 8 from rfl, Nat.testBit_div_two_pow, Nat.add_comm]

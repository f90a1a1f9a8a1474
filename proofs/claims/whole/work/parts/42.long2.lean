/-! the lowest bit of a row of bits -/
def lowT (g : Nat → Bool) (t : Nat) : Prop := g t = true ∧ ∀ j, j < t → g j = false
theorem low_dec {x t : Nat} (h : lowT x.testBit t) : ∃ y, x = 2 ^ (t + 1) * y + 2 ^ t := by
  refine ⟨x / 2 ^ (t + 1), ?_⟩
  have h1 : x % 2 ^ (t + 1) = 2 ^ t := by
    refine Nat.eq_of_testBit_eq (fun j => ?_)
    rw [Nat.testBit_mod_two_pow, Nat.testBit_two_pow]
    by_cases c : t = j
    · subst c; simp [h.1]
    · by_cases d : j < t
      · simp [c, h.2 j d]
      · have : ¬ j < t + 1 := by omega
        simp [c, this]
  have := Nat.div_add_mod x (2 ^ (t + 1))
  omega
theorem pw_lt (t : Nat) : 2 ^ t < 2 ^ (t + 1) := Nat.pow_lt_pow_succ (by omega)
theorem low_clr {x t : Nat} (h : lowT x.testBit t) (i : Nat) : (x &&& (x - 1)).testBit i = (x.testBit i && !decide (i = t)) := by
  obtain ⟨y, rfl⟩ := low_dec h
  have hp := pw_lt t
  have h0 : 0 < 2 ^ t := Nat.two_pow_pos t
  rw [Nat.testBit_and, show 2 ^ (t + 1) * y + 2 ^ t - 1 = 2 ^ (t + 1) * y + (2 ^ t - 1) by omega, Nat.testBit_two_pow_mul_add _ hp, Nat.testBit_two_pow_mul_add _ (by omega : 2 ^ t - 1 < 2 ^ (t + 1))]
  by_cases c : i < t + 1
  · rw [if_pos c, if_pos c, Nat.testBit_two_pow, Nat.testBit_two_pow_sub_one]
    by_cases d : t = i
    · subst d; simp
    · have : ¬ i = t := fun q => d q.symm
      simp [d]
  · rw [if_neg c, if_neg c]
    have : ¬ i = t := by omega
    simp [this]
theorem low_not {x t : Nat} (h : lowT x.testBit t) (i : Nat) : (!x.testBit i && (x - 1).testBit i) = decide (i < t) := by
  obtain ⟨y, rfl⟩ := low_dec h
  have hp := pw_lt t
  have h0 : 0 < 2 ^ t := Nat.two_pow_pos t
  rw [show 2 ^ (t + 1) * y + 2 ^ t - 1 = 2 ^ (t + 1) * y + (2 ^ t - 1) by omega, Nat.testBit_two_pow_mul_add _ hp, Nat.testBit_two_pow_mul_add _ (by omega : 2 ^ t - 1 < 2 ^ (t + 1))]
  by_cases c : i < t + 1
  · rw [if_pos c, if_pos c, Nat.testBit_two_pow, Nat.testBit_two_pow_sub_one]
    by_cases d : t = i
    · subst d; simp
    · have : ¬ i = t := fun q => d q.symm
      simp [d]
  · rw [if_neg c, if_neg c]
    have : ¬ i < t := by omega
    simp [this]
theorem low_pos {x t : Nat} (h : lowT x.testBit t) : 1 ≤ x := by
  obtain ⟨y, rfl⟩ := low_dec h
  have h0 : 0 < 2 ^ t := Nat.two_pow_pos t
  omega
theorem j_ntz {σ : JH} {x t : Nat} (hl : Ly σ) (ht : t < 32) (h : lowT x.testBit t) : q_In_numberOfTrailingZeros [.int (nI x)] σ = some (some (.int (nI t)), σ) := by
  refine WE_o (w_In_numberOfTrailingZeros _ hl ?_)
  have e : (nI x ^^^ mI 1) &&& (nI x - nI 1) = nI (2 ^ t - 1) := by
    rw [nI_subN (low_pos h)]
    refine i32_ext (fun i hi => ?_)
    rw [Int32.toBitVec_and, BitVec.getLsbD_and, Int32.toBitVec_xor, BitVec.getLsbD_xor, mI_bit hi, nI_bit, nI_bit, nI_bit, Nat.testBit_two_pow_sub_one, ← low_not h i]
    simp [hi]
  simp only [e, JJ2]
  clear e h
  revert ht
  revert t
  decide +kernel
theorem j_Lntz {σ : JH} {x t : Nat} (hl : Ly σ) (hx : x < 2 ^ 64) (h : lowT x.testBit t) : q_Lo_numberOfTrailingZeros [.long (lN x)] σ = some (some (.int (nI t)), σ) := by
  have ht : t < 64 := by
    refine Nat.not_le.mp (fun q => ?_)
    have := Nat.testBit_lt_two_pow (x := x) (i := t) (Nat.lt_of_lt_of_le hx (Nat.pow_le_pow_right (by omega) q))
    rw [h.1] at this
    cases this
  have e7 : ∀ y : Nat, (lN y).toInt32 = nI y := fun y => lN_i y
  refine WE_o (w_Lo_numberOfTrailingZeros _ hl ?_)
  rw [e7]
  by_cases c : t < 32
  · rw [if_neg]
    · exact WE_i (j_ntz hl c h) rfl
    · intro q
      have := nI_bit x t
      rw [q, h.1] at this
      have z : (0 : Int32).toBitVec.getLsbD t = false := by
        show (BitVec.ofNat 32 0).getLsbD t = false
        rw [BitVec.getLsbD_ofNat]; simp
      rw [z] at this
      simp [c] at this
  · rw [if_pos]
    · rw [lN_ushr (c := 32) hx (by decide), e7]
      refine WE_i (j_ntz (t := t - 32) hl (by omega) ⟨?_, fun j hj => ?_⟩) ?_
      · rw [Nat.testBit_shiftRight, show 32 + (t - 32) = t by omega]; exact h.1
      · rw [Nat.testBit_shiftRight]; exact h.2 _ (by omega)
      · rw [nI_add, show 32 + (t - 32) = t by omega]
    · refine i32_ext (fun i hi => ?_)
      rw [nI_bit, h.2 i (by omega)]
      show _ = (BitVec.ofNat 32 0).getLsbD i
      rw [BitVec.getLsbD_ofNat]; simp
/-- the next row of bits -/
theorem lN_clr {x t : Nat} (h : lowT x.testBit t) : lN x &&& (lN x - 1) = lN (x &&& (x - 1)) := by
  rw [show (1 : Int64) = lN 1 from rfl, lN_sub (low_pos h), lN_and]

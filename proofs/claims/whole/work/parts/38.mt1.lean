/-! ===== counting, masks, pigeons (nothing of the machine) ===== -/
def cntB (f : Nat → Bool) : Nat → Nat
  | 0 => 0
  | n + 1 => cntB f n + if f n = true then 1 else 0
theorem cntB_le (f : Nat → Bool) (n : Nat) : cntB f n ≤ n := by
  induction n with
  | zero => exact Nat.le_refl _
  | succ n ih => unfold cntB; split <;> omega
theorem cntB_ext {f g : Nat → Bool} {n : Nat} (h : ∀ k, k < n → f k = g k) : cntB f n = cntB g n := by
  induction n with
  | zero => rfl
  | succ n ih => unfold cntB; rw [ih (fun k hk => h k (by omega)), h n (by omega)]
theorem cntB_zero {f : Nat → Bool} {n : Nat} (h : ∀ k, k < n → f k = false) : cntB f n = 0 := by
  induction n with
  | zero => rfl
  | succ n ih => unfold cntB; rw [ih (fun k hk => h k (by omega)), h n (by omega)]; rfl
theorem cntB_mono {f g : Nat → Bool} {n : Nat} (h : ∀ k, k < n → f k = true → g k = true) : cntB f n ≤ cntB g n := by
  induction n with
  | zero => exact Nat.le_refl _
  | succ n ih =>
    have h1 := ih (fun k hk => h k (by omega))
    have h2 := h n (by omega)
    unfold cntB
    cases hf : f n <;> cases hg : g n <;> simp_all <;> omega
theorem cntB_or {f g : Nat → Bool} {n : Nat} (h : ∀ k, k < n → f k = true → g k = false) : cntB (fun k => f k || g k) n = cntB f n + cntB g n := by
  induction n with
  | zero => rfl
  | succ n ih =>
    have h1 := ih (fun k hk => h k (by omega))
    have h2 := h n (by omega)
    unfold cntB
    rw [h1]
    cases hf : f n <;> cases hg : g n <;> simp_all <;> omega
theorem cntB_split (f g : Nat → Bool) (n : Nat) : cntB f n = cntB (fun k => f k && g k) n + cntB (fun k => f k && !g k) n := by
  induction n with
  | zero => rfl
  | succ n ih =>
    unfold cntB
    rw [ih]
    cases hf : f n <;> cases hg : g n <;> simp <;> omega
theorem cntB_one {n i : Nat} (b : Bool) (hi : i < n) : cntB (fun k => decide (k = i) && b) n = if b = true then 1 else 0 := by
  induction n with
  | zero => omega
  | succ n ih =>
    unfold cntB
    by_cases h : i = n
    · subst h
      rw [cntB_zero (fun k hk => by simp; omega)]
      cases b <;> simp
    · rw [ih (by omega)]
      have : ¬ n = i := fun q => h q.symm
      simp [this]
theorem cntB_pos {f : Nat → Bool} {n : Nat} (h : 0 < cntB f n) : ∃ k, k < n ∧ f k = true := by
  induction n with
  | zero => exact absurd h (Nat.lt_irrefl _)
  | succ n ih =>
    unfold cntB at h
    by_cases hf : f n = true
    · exact ⟨n, by omega, hf⟩
    · rw [if_neg hf] at h
      obtain ⟨k, h1, h2⟩ := ih h
      exact ⟨k, by omega, h2⟩
theorem cntB_has {f : Nat → Bool} {n k : Nat} (hk : k < n) (h : f k = true) : 0 < cntB f n := by
  have h1 := cntB_one true hk
  have h2 : cntB (fun j => decide (j = k) && true) n ≤ cntB f n := cntB_mono (fun j hj q => by simp at q; rw [q]; exact h)
  rw [h1] at h2
  exact h2
theorem cntB_lt {f g : Nat → Bool} {n k : Nat} (h : ∀ k, k < n → f k = true → g k = true) (hk : k < n) (h1 : f k = false) (h2 : g k = true) : cntB f n < cntB g n := by
  have h3 : cntB (fun j => f j || (decide (j = k) && true)) n = cntB f n + cntB (fun j => decide (j = k) && true) n := cntB_or (fun j hj q => by
    cases hd : decide (j = k)
    · rfl
    · rw [of_decide_eq_true hd, h1] at q; cases q)
  have h4 : cntB (fun j => f j || (decide (j = k) && true)) n ≤ cntB g n := cntB_mono (fun j hj q => by
    rw [Bool.or_eq_true] at q
    rcases q with q | q
    · exact h j hj q
    · simp at q; rw [q]; exact h2)
  rw [h3, cntB_one true hk] at h4
  simp at h4
  omega
theorem cntB_all {f : Nat → Bool} {n : Nat} (h : ∀ k, k < n → f k = true) : cntB f n = n := by
  induction n with
  | zero => rfl
  | succ n ih => unfold cntB; rw [ih (fun k hk => h k (by omega)), h n (by omega)]; rfl
/-- a row's step by step sum -/
theorem cntB_succ (f : Nat → Bool) (n : Nat) : cntB f (n + 1) = cntB f n + if f n = true then 1 else 0 := rfl
theorem cntB_pad {f : Nat → Bool} {n m : Nat} (hm : n ≤ m) (h : ∀ k, n ≤ k → k < m → f k = false) : cntB f m = cntB f n := by
  induction hm with
  | refl => rfl
  | step hm ih =>
    rename_i m
    have hm : n ≤ m := hm
    rw [cntB_succ, ih (fun k h1 h2 => h k h1 (by omega)), h m hm (by omega)]
    rfl
def up1 {α : Type} (f : Nat → α) (k : Nat) (v : α) : Nat → α := fun j => if j = k then v else f j
theorem up1_eq {α : Type} (f : Nat → α) (k : Nat) (v : α) : up1 f k v k = v := by unfold up1; rw [if_pos rfl]
theorem up1_ne {α : Type} {f : Nat → α} {k j : Nat} {v : α} (h : j ≠ k) : up1 f k v j = f j := by unfold up1; rw [if_neg h]
/-! masks -/
def msk (f : Nat → Bool) : Nat → Nat
  | 0 => 0
  | n + 1 => msk f n ||| (if f n = true then 2 ^ n else 0)
theorem msk_lt (f : Nat → Bool) (n : Nat) : msk f n < 2 ^ n := by
  induction n with
  | zero => exact Nat.one_pos
  | succ n ih =>
    unfold msk
    have h1 : 2 ^ n < 2 ^ (n + 1) := Nat.pow_lt_pow_succ (by omega)
    refine Nat.or_lt_two_pow (by omega) ?_
    split
    · exact h1
    · omega
theorem msk_tb (f : Nat → Bool) (n k : Nat) : (msk f n).testBit k = (decide (k < n) && f k) := by
  induction n with
  | zero => simp [msk]
  | succ n ih =>
    unfold msk
    rw [Nat.testBit_or, ih]
    by_cases hf : f n = true
    · rw [if_pos hf, Nat.testBit_two_pow]
      by_cases h : n = k
      · subst h; simp [hf]
      · have h2 : decide (k < n + 1) = decide (k < n) := by
          by_cases q : k < n
          · simp [q]; omega
          · simp [q]; omega
        simp [h, h2]
    · rw [if_neg hf, Nat.zero_testBit, Bool.or_false]
      by_cases h : k = n
      · subst h; simp [hf]
      · have h2 : decide (k < n + 1) = decide (k < n) := by
          by_cases q : k < n
          · simp [q]; omega
          · simp [q]; omega
        rw [h2]
theorem msk_ext {f g : Nat → Bool} {n : Nat} (h : ∀ k, k < n → f k = g k) : msk f n = msk g n := by
  induction n with
  | zero => rfl
  | succ n ih => unfold msk; rw [ih (fun k hk => h k (by omega)), h n (by omega)]
theorem msk_8 {f : Nat → Bool} {n : Nat} (hn : n ≤ 8) : msk f n < 256 := by
  have h1 := msk_lt f n
  have h2 : 2 ^ n ≤ 2 ^ 8 := Nat.pow_le_pow_right (by omega) hn
  omega
theorem msk_of {m n : Nat} (h : m < 2 ^ n) : m = msk m.testBit n := by
  refine Nat.eq_of_testBit_eq (fun i => ?_)
  rw [msk_tb]
  by_cases q : i < n
  · simp [q]
  · simp [q]
    exact Nat.testBit_lt_two_pow (Nat.lt_of_lt_of_le h (Nat.pow_le_pow_right (by omega) (by omega)))
theorem msk_0 {f : Nat → Bool} {n : Nat} (h : ∀ k, k < n → f k = false) : msk f n = 0 := by
  refine Nat.eq_of_testBit_eq (fun i => ?_)
  rw [msk_tb, Nat.zero_testBit]
  by_cases q : i < n
  · simp [h i q]
  · simp [q]
theorem msk_z {f : Nat → Bool} {n : Nat} (h : msk f n = 0) : ∀ k, k < n → f k = false := by
  intro k hk
  have h1 := msk_tb f n k
  rw [h, Nat.zero_testBit] at h1
  simpa [hk] using h1.symm
/-- bits of an Int32 -/
theorem i32_ext {x y : Int32} (h : ∀ i, i < 32 → x.toBitVec.getLsbD i = y.toBitVec.getLsbD i) : x = y := by
  rw [← Int32.toBitVec_inj]
  exact BitVec.eq_of_getLsbD_eq h
theorem nI_bit (m i : Nat) : (nI m).toBitVec.getLsbD i = (decide (i < 32) && m.testBit i) := by
  show (BitVec.ofNat 32 m).getLsbD i = _
  rw [BitVec.getLsbD_ofNat]
theorem mI_bit {i : Nat} (hi : i < 32) : (mI 1).toBitVec.getLsbD i = true := by
  have : (mI 1).toBitVec = BitVec.allOnes 32 := by decide
  rw [this, BitVec.getLsbD_allOnes]
  simpa using hi
theorem sh_1 : ∀ k, k < 9 → nI 1 <<< (nI k &&& 31) = nI (2 ^ k) := by decide
theorem bk_or {f g : Nat → Bool} {n : Nat} : nI (msk f n) ||| nI (msk g n) = nI (msk (fun k => f k || g k) n) := by
  refine i32_ext (fun i hi => ?_)
  rw [Int32.toBitVec_or, BitVec.getLsbD_or, nI_bit, nI_bit, nI_bit, msk_tb, msk_tb, msk_tb]
  cases f i <;> cases g i <;> cases decide (i < 32) <;> cases decide (i < n) <;> rfl
theorem bk_and {f g : Nat → Bool} {n : Nat} : nI (msk f n) &&& nI (msk g n) = nI (msk (fun k => f k && g k) n) := by
  refine i32_ext (fun i hi => ?_)
  rw [Int32.toBitVec_and, BitVec.getLsbD_and, nI_bit, nI_bit, nI_bit, msk_tb, msk_tb, msk_tb]
  cases f i <;> cases g i <;> cases decide (i < 32) <;> cases decide (i < n) <;> rfl
theorem bk_sub {f g : Nat → Bool} {n : Nat} : nI (msk f n) &&& (nI (msk g n) ^^^ mI 1) = nI (msk (fun k => f k && !g k) n) := by
  refine i32_ext (fun i hi => ?_)
  rw [Int32.toBitVec_and, BitVec.getLsbD_and, Int32.toBitVec_xor, BitVec.getLsbD_xor, mI_bit hi, nI_bit, nI_bit, nI_bit, msk_tb, msk_tb, msk_tb]
  cases f i <;> cases g i <;> cases decide (i < 32) <;> cases decide (i < n) <;> rfl
/-- one bit -/
theorem msk_1 {n k : Nat} (hk : k < n) : msk (fun j => decide (j = k)) n = 2 ^ k := by
  refine Nat.eq_of_testBit_eq (fun i => ?_)
  rw [msk_tb, Nat.testBit_two_pow]
  by_cases q : k = i
  · subst q; simp [hk]
  · have : ¬ i = k := fun h => q h.symm
    simp [q, this]
theorem sh_k {n k : Nat} (hn : n ≤ 8) (hk : k < n) : nI 1 <<< (nI k &&& 31) = nI (msk (fun j => decide (j = k)) n) := by
  rw [msk_1 hk, sh_1 k (by omega)]
theorem bk_set {f : Nat → Bool} {n k : Nat} (hn : n ≤ 8) (hk : k < n) : nI (msk f n) ||| (nI 1 <<< (nI k &&& 31)) = nI (msk (up1 f k true) n) := by
  rw [sh_k hn hk, bk_or]
  refine congrArg nI (msk_ext (fun j hj => ?_))
  unfold up1
  by_cases q : j = k <;> simp [q]
theorem bk_clr {f : Nat → Bool} {n k : Nat} (hn : n ≤ 8) (hk : k < n) : nI (msk f n) &&& ((nI 1 <<< (nI k &&& 31)) ^^^ mI 1) = nI (msk (up1 f k false) n) := by
  rw [sh_k hn hk, bk_sub]
  refine congrArg nI (msk_ext (fun j hj => ?_))
  unfold up1
  by_cases q : j = k <;> simp [q]
theorem bk_tst {f : Nat → Bool} {n k : Nat} (hn : n ≤ 8) (hk : k < n) : (nI (msk f n) &&& (nI 1 <<< (nI k &&& 31)) = 0) = (f k = false) := by
  rw [sh_k hn hk, bk_and, nI_eq0 (by have := msk_8 (f := fun j => f j && decide (j = k)) hn; omega), eq_iff_iff]
  constructor
  · intro h
    have := msk_z h k hk
    simpa using this
  · intro h
    refine msk_0 (fun j hj => ?_)
    by_cases q : j = k
    · subst q; simp [h]
    · simp [q]
theorem sr_1 : ∀ m, m < 256 → ∀ k, k < 8 → (nI m >>> (nI k &&& 31)) &&& nI 1 = bI (m.testBit k) := by decide +kernel
theorem bk_get {f : Nat → Bool} {n k : Nat} (hn : n ≤ 8) (hk : k < n) : (nI (msk f n) >>> (nI k &&& 31)) &&& nI 1 = bI (f k) := by
  rw [sr_1 _ (msk_8 hn) k (by omega), msk_tb]
  simp [hk]
theorem bk_off {f : Nat → Bool} {n k : Nat} (hn : n ≤ 8) (hk : k < 8) : (nI (msk f n) >>> (nI k &&& 31)) &&& nI 1 = bI (decide (k < n) && f k) := by
  rw [sr_1 _ (msk_8 hn) k (by omega), msk_tb]
theorem msk_cnt {f : Nat → Bool} {n : Nat} (hn : n ≤ 8) : cntB (msk f n).testBit 8 = cntB f n := by
  rw [cntB_pad hn (fun k h1 h2 => by rw [msk_tb]; simp; omega)]
  exact cntB_ext (fun k hk => by rw [msk_tb]; simp [hk])
theorem all_bits : ∀ n, n < 9 → nI 1 <<< (nI n &&& 31) - nI 1 = nI (2 ^ n - 1) := by decide
theorem msk_true {n : Nat} : msk (fun _ => true) n = 2 ^ n - 1 := by
  refine Nat.eq_of_testBit_eq (fun i => ?_)
  rw [msk_tb, Nat.testBit_two_pow_sub_one]
  simp
/-! pigeons -/
theorem pigeon : ∀ (n : Nat) (g : Nat → Nat), (∀ i, i ≤ n → g i < n) → ∃ i j, i < j ∧ j ≤ n ∧ g i = g j := by
  intro n
  induction n with
  | zero => intro g h; exact absurd (h 0 (Nat.le_refl _)) (Nat.not_lt_zero _)
  | succ n ih =>
    intro g h
    by_cases hx : ∃ i, i ≤ n ∧ g i = g (n + 1)
    · obtain ⟨i, h1, h2⟩ := hx
      exact ⟨i, n + 1, by omega, by omega, h2⟩
    · have hx : ∀ i, i ≤ n → ¬ g i = g (n + 1) := fun i h1 h2 => hx ⟨i, h1, h2⟩
      have hl := h (n + 1) (by omega)
      obtain ⟨i, j, h1, h2, h3⟩ := ih (fun i => if g i = n then g (n + 1) else g i) (fun i hi => by
        have a := h i (by omega)
        have b := hx i hi
        show (if g i = n then g (n + 1) else g i) < n
        split <;> omega)
      refine ⟨i, j, h1, by omega, ?_⟩
      have a := hx i (by omega)
      have b := hx j (by omega)
      have h3 : (if g i = n then g (n + 1) else g i) = if g j = n then g (n + 1) else g j := h3
      split at h3 <;> split at h3 <;> omega

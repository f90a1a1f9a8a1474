/-! loops by what holds at each begin -/
theorem Lp1_inv {α0 : Type} {B : α0 → (α0 → Prop) → Prop} (I : Nat → α0 → Prop) (h : ∀ m a0, I m a0 → ∀ X : α0 → Prop, (∀ m' b0, m' < m → I m' b0 → X b0) → B a0 X) {m : Nat} {a0 : α0} (h0 : I m a0) : Lp1 B a0 := by
  intro X hX
  induction m using Nat.strongRecOn generalizing a0 with
  | ind m ih => exact hX _ (h m _ h0 X (fun m' b0 hm hI => ih m' hm hI))
theorem Lp2_inv {α0 α1 : Type} {B : α0 → α1 → (α0 → α1 → Prop) → Prop} (I : Nat → α0 → α1 → Prop) (h : ∀ m a0 a1, I m a0 a1 → ∀ X : α0 → α1 → Prop, (∀ m' b0 b1, m' < m → I m' b0 b1 → X b0 b1) → B a0 a1 X) {m : Nat} {a0 : α0} {a1 : α1} (h0 : I m a0 a1) : Lp2 B a0 a1 := by
  intro X hX
  induction m using Nat.strongRecOn generalizing a0 a1 with
  | ind m ih => exact hX _ _ (h m _ _ h0 X (fun m' b0 b1 hm hI => ih m' hm hI))
theorem Lp3_inv {α0 α1 α2 : Type} {B : α0 → α1 → α2 → (α0 → α1 → α2 → Prop) → Prop} (I : Nat → α0 → α1 → α2 → Prop) (h : ∀ m a0 a1 a2, I m a0 a1 a2 → ∀ X : α0 → α1 → α2 → Prop, (∀ m' b0 b1 b2, m' < m → I m' b0 b1 b2 → X b0 b1 b2) → B a0 a1 a2 X) {m : Nat} {a0 : α0} {a1 : α1} {a2 : α2} (h0 : I m a0 a1 a2) : Lp3 B a0 a1 a2 := by
  intro X hX
  induction m using Nat.strongRecOn generalizing a0 a1 a2 with
  | ind m ih => exact hX _ _ _ (h m _ _ _ h0 X (fun m' b0 b1 b2 hm hI => ih m' hm hI))
theorem Lp4_inv {α0 α1 α2 α3 : Type} {B : α0 → α1 → α2 → α3 → (α0 → α1 → α2 → α3 → Prop) → Prop} (I : Nat → α0 → α1 → α2 → α3 → Prop) (h : ∀ m a0 a1 a2 a3, I m a0 a1 a2 a3 → ∀ X : α0 → α1 → α2 → α3 → Prop, (∀ m' b0 b1 b2 b3, m' < m → I m' b0 b1 b2 b3 → X b0 b1 b2 b3) → B a0 a1 a2 a3 X) {m : Nat} {a0 : α0} {a1 : α1} {a2 : α2} {a3 : α3} (h0 : I m a0 a1 a2 a3) : Lp4 B a0 a1 a2 a3 := by
  intro X hX
  induction m using Nat.strongRecOn generalizing a0 a1 a2 a3 with
  | ind m ih => exact hX _ _ _ _ (h m _ _ _ _ h0 X (fun m' b0 b1 b2 b3 hm hI => ih m' hm hI))
theorem Lp5_inv {α0 α1 α2 α3 α4 : Type} {B : α0 → α1 → α2 → α3 → α4 → (α0 → α1 → α2 → α3 → α4 → Prop) → Prop} (I : Nat → α0 → α1 → α2 → α3 → α4 → Prop) (h : ∀ m a0 a1 a2 a3 a4, I m a0 a1 a2 a3 a4 → ∀ X : α0 → α1 → α2 → α3 → α4 → Prop, (∀ m' b0 b1 b2 b3 b4, m' < m → I m' b0 b1 b2 b3 b4 → X b0 b1 b2 b3 b4) → B a0 a1 a2 a3 a4 X) {m : Nat} {a0 : α0} {a1 : α1} {a2 : α2} {a3 : α3} {a4 : α4} (h0 : I m a0 a1 a2 a3 a4) : Lp5 B a0 a1 a2 a3 a4 := by
  intro X hX
  induction m using Nat.strongRecOn generalizing a0 a1 a2 a3 a4 with
  | ind m ih => exact hX _ _ _ _ _ (h m _ _ _ _ _ h0 X (fun m' b0 b1 b2 b3 b4 hm hI => ih m' hm hI))
theorem Lp6_inv {α0 α1 α2 α3 α4 α5 : Type} {B : α0 → α1 → α2 → α3 → α4 → α5 → (α0 → α1 → α2 → α3 → α4 → α5 → Prop) → Prop} (I : Nat → α0 → α1 → α2 → α3 → α4 → α5 → Prop) (h : ∀ m a0 a1 a2 a3 a4 a5, I m a0 a1 a2 a3 a4 a5 → ∀ X : α0 → α1 → α2 → α3 → α4 → α5 → Prop, (∀ m' b0 b1 b2 b3 b4 b5, m' < m → I m' b0 b1 b2 b3 b4 b5 → X b0 b1 b2 b3 b4 b5) → B a0 a1 a2 a3 a4 a5 X) {m : Nat} {a0 : α0} {a1 : α1} {a2 : α2} {a3 : α3} {a4 : α4} {a5 : α5} (h0 : I m a0 a1 a2 a3 a4 a5) : Lp6 B a0 a1 a2 a3 a4 a5 := by
  intro X hX
  induction m using Nat.strongRecOn generalizing a0 a1 a2 a3 a4 a5 with
  | ind m ih => exact hX _ _ _ _ _ _ (h m _ _ _ _ _ _ h0 X (fun m' b0 b1 b2 b3 b4 b5 hm hI => ih m' hm hI))
theorem Lp7_inv {α0 α1 α2 α3 α4 α5 α6 : Type} {B : α0 → α1 → α2 → α3 → α4 → α5 → α6 → (α0 → α1 → α2 → α3 → α4 → α5 → α6 → Prop) → Prop} (I : Nat → α0 → α1 → α2 → α3 → α4 → α5 → α6 → Prop) (h : ∀ m a0 a1 a2 a3 a4 a5 a6, I m a0 a1 a2 a3 a4 a5 a6 → ∀ X : α0 → α1 → α2 → α3 → α4 → α5 → α6 → Prop, (∀ m' b0 b1 b2 b3 b4 b5 b6, m' < m → I m' b0 b1 b2 b3 b4 b5 b6 → X b0 b1 b2 b3 b4 b5 b6) → B a0 a1 a2 a3 a4 a5 a6 X) {m : Nat} {a0 : α0} {a1 : α1} {a2 : α2} {a3 : α3} {a4 : α4} {a5 : α5} {a6 : α6} (h0 : I m a0 a1 a2 a3 a4 a5 a6) : Lp7 B a0 a1 a2 a3 a4 a5 a6 := by
  intro X hX
  induction m using Nat.strongRecOn generalizing a0 a1 a2 a3 a4 a5 a6 with
  | ind m ih => exact hX _ _ _ _ _ _ _ (h m _ _ _ _ _ _ _ h0 X (fun m' b0 b1 b2 b3 b4 b5 b6 hm hI => ih m' hm hI))
theorem Lp8_inv {α0 α1 α2 α3 α4 α5 α6 α7 : Type} {B : α0 → α1 → α2 → α3 → α4 → α5 → α6 → α7 → (α0 → α1 → α2 → α3 → α4 → α5 → α6 → α7 → Prop) → Prop} (I : Nat → α0 → α1 → α2 → α3 → α4 → α5 → α6 → α7 → Prop) (h : ∀ m a0 a1 a2 a3 a4 a5 a6 a7, I m a0 a1 a2 a3 a4 a5 a6 a7 → ∀ X : α0 → α1 → α2 → α3 → α4 → α5 → α6 → α7 → Prop, (∀ m' b0 b1 b2 b3 b4 b5 b6 b7, m' < m → I m' b0 b1 b2 b3 b4 b5 b6 b7 → X b0 b1 b2 b3 b4 b5 b6 b7) → B a0 a1 a2 a3 a4 a5 a6 a7 X) {m : Nat} {a0 : α0} {a1 : α1} {a2 : α2} {a3 : α3} {a4 : α4} {a5 : α5} {a6 : α6} {a7 : α7} (h0 : I m a0 a1 a2 a3 a4 a5 a6 a7) : Lp8 B a0 a1 a2 a3 a4 a5 a6 a7 := by
  intro X hX
  induction m using Nat.strongRecOn generalizing a0 a1 a2 a3 a4 a5 a6 a7 with
  | ind m ih => exact hX _ _ _ _ _ _ _ _ (h m _ _ _ _ _ _ _ _ h0 X (fun m' b0 b1 b2 b3 b4 b5 b6 b7 hm hI => ih m' hm hI))
theorem Lp9_inv {α0 α1 α2 α3 α4 α5 α6 α7 α8 : Type} {B : α0 → α1 → α2 → α3 → α4 → α5 → α6 → α7 → α8 → (α0 → α1 → α2 → α3 → α4 → α5 → α6 → α7 → α8 → Prop) → Prop} (I : Nat → α0 → α1 → α2 → α3 → α4 → α5 → α6 → α7 → α8 → Prop) (h : ∀ m a0 a1 a2 a3 a4 a5 a6 a7 a8, I m a0 a1 a2 a3 a4 a5 a6 a7 a8 → ∀ X : α0 → α1 → α2 → α3 → α4 → α5 → α6 → α7 → α8 → Prop, (∀ m' b0 b1 b2 b3 b4 b5 b6 b7 b8, m' < m → I m' b0 b1 b2 b3 b4 b5 b6 b7 b8 → X b0 b1 b2 b3 b4 b5 b6 b7 b8) → B a0 a1 a2 a3 a4 a5 a6 a7 a8 X) {m : Nat} {a0 : α0} {a1 : α1} {a2 : α2} {a3 : α3} {a4 : α4} {a5 : α5} {a6 : α6} {a7 : α7} {a8 : α8} (h0 : I m a0 a1 a2 a3 a4 a5 a6 a7 a8) : Lp9 B a0 a1 a2 a3 a4 a5 a6 a7 a8 := by
  intro X hX
  induction m using Nat.strongRecOn generalizing a0 a1 a2 a3 a4 a5 a6 a7 a8 with
  | ind m ih => exact hX _ _ _ _ _ _ _ _ _ (h m _ _ _ _ _ _ _ _ _ h0 X (fun m' b0 b1 b2 b3 b4 b5 b6 b7 b8 hm hI => ih m' hm hI))
/-! ===== pairs in their order; rows of turns ===== -/
def prE (n k : Nat) : Nat → List Nat
  | 0 => []
  | m + 1 => (8 * k + (n - (m + 1))) :: prE n k m
def prK (n : Nat) : Nat → List Nat
  | 0 => []
  | m + 1 => prE n (n - (m + 1)) m ++ prK n m
def opl (H : Hou) (S : Mud) : List Nat := (prK (Hn H) (Hn H)).filter (fun p => mayT H S (p / 8) (p % 8))
abbrev trnC (S : Mud) (p : Nat) : Mud := trn S (p / 8) (p % 8)
/-- all rows of just d turns, with what comes of them -/
def Rw (H : Hou) : Nat → Mud → List (List Nat × Mud)
  | 0, S => [([], S)]
  | d + 1, S => (opl H S).flatMap (fun p => (Rw H d (trnC S p)).map (fun r => (p :: r.1, r.2)))
theorem prE_mem {n k m p : Nat} (h : p ∈ prE n k m) (hm : m ≤ n) : ∃ e, n - m ≤ e ∧ e < n ∧ p = 8 * k + e := by
  induction m with
  | zero => cases h
  | succ m ih =>
    rcases List.mem_cons.mp h with h | h
    · exact ⟨n - (m + 1), by omega, by omega, h⟩
    · obtain ⟨e, h1, h2, h3⟩ := ih h (by omega)
      exact ⟨e, by omega, h2, h3⟩
theorem prK_mem {n m p : Nat} (h : p ∈ prK n m) (hm : m ≤ n) : ∃ k e, n - m ≤ k ∧ k < e ∧ e < n ∧ p = 8 * k + e := by
  induction m with
  | zero => cases h
  | succ m ih =>
    rcases List.mem_append.mp h with h | h
    · obtain ⟨e, h1, h2, h3⟩ := prE_mem h (by omega)
      exact ⟨n - (m + 1), e, by omega, by omega, h2, h3⟩
    · obtain ⟨k, e, h1, h2⟩ := ih h (by omega)
      exact ⟨k, e, by omega, h2⟩
theorem opl_mem {H : Hou} {S : Mud} {p : Nat} (n8 : Hn H ≤ 8) (h : p ∈ opl H S) : p / 8 < p % 8 ∧ p / 8 < Hn H ∧ p % 8 < Hn H ∧ p < 64 ∧ mayT H S (p / 8) (p % 8) = true := by
  obtain ⟨h1, h2⟩ := List.mem_filter.mp h
  obtain ⟨k, e, _, h3, h4, h5⟩ := prK_mem h1 (Nat.le_refl _)
  have a : p / 8 = k := by omega
  have b : p % 8 = e := by omega
  exact ⟨by omega, by omega, by omega, by omega, h2⟩
def gpr (n : Nat) (p : Nat) : Bool := decide (p / 8 < p % 8) && decide (p % 8 < n)
theorem prK_eq : ∀ n, n < 9 → prK n n = (List.range 64).filter (gpr n) := by decide +kernel
/-- the pairs that may, as bits -/
def gop (H : Hou) (S : Mud) (p : Nat) : Bool := gpr (Hn H) p && mayT H S (p / 8) (p % 8)
def bl (g : Nat → Bool) : List Nat := (List.range 64).filter g
theorem opl_bl {H : Hou} {S : Mud} (n8 : Hn H ≤ 8) : opl H S = bl (gop H S) := by
  unfold opl bl
  rw [prK_eq _ (by omega), List.filter_filter]
  refine List.filter_congr (fun p _ => ?_)
  unfold gop
  rw [Bool.and_comm]
theorem fl_cons {g : Nat → Bool} {t : Nat} {ts : List Nat} (m : Nat) : ∀ s, (List.range' s m).filter g = t :: ts → s ≤ t ∧ t < s + m ∧ g t = true ∧ (∀ j, s ≤ j → j < t → g j = false) ∧ (List.range' s m).filter (up1 g t false) = ts := by
  induction m with
  | zero => intro s h; cases h
  | succ m ih =>
    intro s h
    rw [List.range'_succ] at h ⊢
    by_cases c : g s = true
    · rw [List.filter_cons_of_pos c] at h
      injection h with h1 h2
      subst h1
      refine ⟨Nat.le_refl _, by omega, c, fun j h3 h4 => by omega, ?_⟩
      rw [List.filter_cons_of_neg (by rw [up1_eq]; decide), ← h2]
      refine List.filter_congr (fun p hp => ?_)
      have := (List.mem_range'_1.mp hp).1
      exact up1_ne (by omega)
    · rw [List.filter_cons_of_neg c] at h
      obtain ⟨a1, a2, a3, a4, a5⟩ := ih (s + 1) h
      refine ⟨by omega, by omega, a3, fun j h3 h4 => ?_, ?_⟩
      · by_cases d : j = s
        · rw [d]; rwa [Bool.not_eq_true] at c
        · exact a4 j (by omega) h4
      · rw [List.filter_cons_of_neg (by rw [up1_ne (by omega)]; exact c)]
        exact a5
theorem fl_len (g : Nat → Bool) (m : Nat) : ((List.range m).filter g).length = cntB g m := by
  induction m with
  | zero => rfl
  | succ m ih =>
    rw [List.range_succ, List.filter_append, List.length_append, ih, cntB_succ]
    by_cases c : g m = true
    · rw [List.filter_cons_of_pos c, if_pos c]; rfl
    · rw [List.filter_cons_of_neg c, if_neg c]; rfl
/-- a row of bits holds the list -/
def isX (x : Int64) (l : List Nat) : Prop := ∃ g, x = lN (msk g 64) ∧ bl g = l
def isL (x : Int64) (y : Int32) (l : List Nat) : Prop := isX x l ∧ y = nI l.length
theorem bl_len (g : Nat → Bool) : (bl g).length = cntB g 64 := fl_len g 64
theorem isX_cons {x : Int64} {t : Nat} {ts : List Nat} (h : isX x (t :: ts)) : t < 64 ∧ isX (x &&& (x - 1)) ts ∧ ∀ σ, Ly σ → q_Lo_numberOfTrailingZeros [.long x] σ = some (some (.int (nI t)), σ) := by
  obtain ⟨g, rfl, h2⟩ := h
  unfold bl at h2
  rw [List.range_eq_range'] at h2
  obtain ⟨_, a2, a3, a4, a5⟩ := fl_cons 64 0 h2
  have hlow : lowT (msk g 64).testBit t := by
    refine ⟨?_, fun j hj => ?_⟩
    · rw [msk_tb, a3]; simp; omega
    · rw [msk_tb, a4 j (by omega) hj]; simp
  refine ⟨by omega, ⟨up1 g t false, ?_, ?_⟩, fun σ hl => j_Lntz hl (msk_lt g 64) hlow⟩
  · rw [lN_clr hlow]
    refine congrArg lN (Nat.eq_of_testBit_eq (fun i => ?_))
    rw [low_clr hlow, msk_tb, msk_tb]
    unfold up1
    by_cases c : i = t
    · simp [c]
    · simp [c]
  · unfold bl
    rw [List.range_eq_range']
    exact a5
theorem isX_bc {x : Int64} {l : List Nat} {σ : JH} (hl : Ly σ) (h : isX x l) : q_Lo_bitCount [.long x] σ = some (some (.int (nI l.length)), σ) := by
  obtain ⟨g, rfl, rfl⟩ := h
  rw [j_Lbc hl (msk_lt g 64), bl_len]
  refine congrArg (fun z => some (some (Value.int (nI z)), σ)) (cntB_ext (fun k hk => ?_))
  rw [msk_tb]
  simp [hk]
theorem isX_len {x : Int64} {l : List Nat} (h : isX x l) : l.length ≤ 64 := by
  obtain ⟨g, _, rfl⟩ := h
  rw [bl_len]
  exact cntB_le _ _
theorem isX_mem {x : Int64} {l : List Nat} (h : isX x l) : ∀ p ∈ l, p < 64 := by
  obtain ⟨g, _, rfl⟩ := h
  intro p hp
  exact List.mem_range.mp (List.mem_filter.mp hp).1
theorem isL_cons {x : Int64} {y : Int32} {t : Nat} {ts : List Nat} (h : isL x y (t :: ts)) : isL (x &&& (x - 1)) (y + mI 1) ts ∧ ¬ (y ≤ 0) ∧ 0 < y := by
  obtain ⟨h1, rfl⟩ := h
  have hlen := isX_len h1
  rw [List.length_cons] at hlen ⊢
  refine ⟨⟨(isX_cons h1).2.1, mI_add _⟩, ?_, ?_⟩
  · rw [nI_le0 (by omega)]; omega
  · rw [nI_0lt (by omega)]; omega
theorem isL_nil {x : Int64} {y : Int32} (h : isL x y []) : y ≤ 0 ∧ ¬ 0 < y := by
  obtain ⟨_, rfl⟩ := h
  decide

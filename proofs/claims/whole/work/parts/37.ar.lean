/-! ===== numbers ===== -/
def bI (b : Bool) : Int32 := if b = true then nI 1 else nI 0
theorem bI_true : bI true = nI 1 := rfl
theorem bI_false : bI false = nI 0 := rfl
theorem bI_0 (b : Bool) : (bI b = 0) = (b = false) := by cases b <;> decide
theorem bI_n0 (b : Bool) : (bI b = nI 0) = (b = false) := by cases b <;> decide
theorem bI_1 (b : Bool) : (bI b = nI 1) = (b = true) := by cases b <;> decide
theorem bI_bit (b : Bool) : bI b = 0 ∨ bI b = 1 := by cases b <;> decide
theorem nI_z : nI 0 = 0 := rfl
theorem nI_o : nI 1 = 1 := rfl
theorem inb_nI {i m : Nat} (hi : i < 2147483648) (hm : m ≤ 2147483648) : inb (nI i) m = (i < m) := by
  rw [eq_iff_iff]
  unfold inb
  rw [nI_clamp (by omega)]
  constructor
  · intro h
    exact Nat.not_le.mp (fun q => h (Or.inr q))
  · intro h q
    rcases q with q | q
    · exact nI_pos (by omega) q
    · omega
theorem cl_nI {i : Nat} (hi : i < 2147483648) : cl (nI i) = i := nI_clamp (by omega)
theorem nI_mulN (a b : Nat) : nI a * nI b = nI (a * b) := (Int32.ofNat_mul a b).symm
theorem nI_subN {a b : Nat} (h : b ≤ a) : nI a - nI b = nI (a - b) := by
  have h1 : nI (a - b) + nI b = nI a := by rw [nI_add, Nat.sub_add_cancel h]
  rw [← h1, Int32.add_sub_cancel]
theorem mI_add (a : Nat) : nI (a + 1) + mI 1 = nI a := by
  have h : nI (a + 1) = nI a + nI 1 := (nI_add a 1).symm
  have h2 : nI 1 + mI 1 = 0 := by decide
  rw [h, Int32.add_assoc, h2, Int32.add_zero]
theorem nI_eqN {a b : Nat} (ha : a < 2147483648) (hb : b < 2147483648) : (nI a = nI b) = (a = b) := by rw [eq_iff_iff]; exact nI_eq (by omega) (by omega)
theorem nI_leN {a b : Nat} (ha : a < 2147483648) (hb : b < 2147483648) : (nI a ≤ nI b) = (a ≤ b) := by rw [eq_iff_iff]; exact nI_leI (by omega) (by omega)
theorem nI_ltN {a b : Nat} (ha : a < 2147483648) (hb : b < 2147483648) : (nI a < nI b) = (a < b) := by rw [eq_iff_iff]; exact nI_ltI (by omega) (by omega)
theorem nI_eq0 {a : Nat} (ha : a < 2147483648) : (nI a = 0) = (a = 0) := by rw [← nI_z]; exact nI_eqN ha (by omega)
theorem nI_le0 {a : Nat} (ha : a < 2147483648) : (nI a ≤ 0) = (a = 0) := by rw [← nI_z, nI_leN ha (by omega)]; simp
theorem nI_lt0 {a : Nat} (ha : a < 2147483648) : (nI a < 0) = False := by rw [← nI_z, nI_ltN ha (by omega)]; simp
theorem nI_0le {a : Nat} (ha : a < 2147483648) : (0 ≤ nI a) = True := by rw [← nI_z, nI_leN (by omega) ha]; simp
theorem nI_0lt {a : Nat} (ha : a < 2147483648) : (0 < nI a) = (0 < a) := by rw [← nI_z, nI_ltN (by omega) ha]
theorem nI_m1 {a : Nat} (ha : a < 2147483648) : (nI a = mI 1) = False := by
  rw [eq_iff_iff, iff_false]
  intro h
  have : nI a < 0 := by rw [h]; decide
  rw [nI_lt0 ha] at this
  exact this
theorem mI_lt0 : (mI 1 < 0) = True := by decide
theorem mI_eq0 : (mI 1 = 0) = False := by decide
/-- a number that isn't below 0 -/
theorem Int32_nat {x : Int32} (h : ¬ x < 0) : ∃ k : Nat, k < 2147483648 ∧ x = nI k := by
  obtain ⟨j, h1, h2⟩ := nI_of h
  exact ⟨j, by omega, h2⟩
/-! a call whose answer is known -/
theorem WE_eq {f : JF} {vs : List Value} {σ : JH} {F : Int32 → Prop} {x : Int32} (h : f vs σ = some (some (.int x), σ)) : WE f vs σ F = F x := by
  rw [eq_iff_iff]
  constructor
  · rintro ⟨y, h1, h2⟩
    rw [h] at h1
    injection h1 with h1; injection h1 with h1 _; injection h1 with h1; injection h1 with h1
    rw [h1]; exact h2
  · intro q; exact ⟨x, h, q⟩
theorem WE_i {f : JF} {vs : List Value} {σ : JH} {F : Int32 → Prop} {x : Int32} (h : f vs σ = some (some (.int x), σ)) (H : F x) : WE f vs σ F := ⟨x, h, H⟩
theorem WE_o {f : JF} {vs : List Value} {σ : JH} {x : Int32} (h : WE f vs σ (fun y => y = x)) : f vs σ = some (some (.int x), σ) := by
  obtain ⟨y, h1, rfl⟩ := h; exact h1
theorem WJ_i {f : JF} {vs : List Value} {σ : JH} {F : Int64 → Prop} {x : Int64} (h : f vs σ = some (some (.long x), σ)) (H : F x) : WJ f vs σ F := ⟨x, h, H⟩
theorem WJ_o {f : JF} {vs : List Value} {σ : JH} {x : Int64} (h : WJ f vs σ (fun y => y = x)) : f vs σ = some (some (.long x), σ) := by
  obtain ⟨y, h1, rfl⟩ := h; exact h1
theorem WM_mono {f : JF} {vs : List Value} {σ : JH} {K K' : Option Value → JH → Prop} (h : WM f vs σ K) (hk : ∀ v s, K v s → K' v s) : WM f vs σ K' := by
  obtain ⟨v, s, h1, h2⟩ := h; exact ⟨v, s, h1, hk v s h2⟩
theorem WM_V {f : JF} {vs : List Value} {σ : JH} {F F' : JH → Prop} (h : WM f vs σ (kV F)) (hk : ∀ s, F s → F' s) : WM f vs σ (kV F') := WM_mono h (fun v s q => ⟨q.1, hk s q.2⟩)
theorem WM_I {f : JF} {vs : List Value} {σ : JH} {F F' : Int32 → JH → Prop} (h : WM f vs σ (kI F)) (hk : ∀ x s, F x s → F' x s) : WM f vs σ (kI F') := WM_mono h (fun v s ⟨x, q1, q2⟩ => ⟨x, q1, hk x s q2⟩)
/-! loops that count up -/
theorem Lp1_up {α : Type} {B : α → (α → Prop) → Prop} (S : Nat → α) {a : α} (n : Nat) (h0 : a = S 0) (st : ∀ i, i < n → ∀ X : α → Prop, X (S (i + 1)) → B (S i) X) (la : ∀ X : α → Prop, B (S n) X) : Lp1 B a := by
  intro X hX
  have key : ∀ k, k ≤ n → X (S (n - k)) := by
    intro k
    induction k with
    | zero => intro _; exact hX _ (la X)
    | succ k ih =>
      intro hk
      refine hX _ (st _ (by omega) X ?_)
      rw [show n - (k + 1) + 1 = n - k by omega]
      exact ih (by omega)
  rw [h0]
  have := key n (Nat.le_refl _)
  rwa [Nat.sub_self] at this
theorem Lp2_up {α0 α1 : Type} {B : α0 → α1 → (α0 → α1 → Prop) → Prop} (S0 : Nat → α0) (S1 : Nat → α1) {a0 : α0} {a1 : α1} (n : Nat) (h0 : a0 = S0 0 ∧ a1 = S1 0) (st : ∀ i, i < n → ∀ X : α0 → α1 → Prop, X (S0 (i + 1)) (S1 (i + 1)) → B (S0 i) (S1 i) X) (la : ∀ X : α0 → α1 → Prop, B (S0 n) (S1 n) X) : Lp2 B a0 a1 := by
  intro X hX
  have key : ∀ k, k ≤ n → X (S0 (n - k)) (S1 (n - k)) := by
    intro k
    induction k with
    | zero => intro _; exact hX _ _ (la X)
    | succ k ih =>
      intro hk
      refine hX _ _ (st _ (by omega) X ?_)
      rw [show n - (k + 1) + 1 = n - k by omega]
      exact ih (by omega)
  have := key n (Nat.le_refl _)
  rw [Nat.sub_self] at this
  obtain ⟨rfl, rfl⟩ := h0
  exact this
theorem Lp3_up {α0 α1 α2 : Type} {B : α0 → α1 → α2 → (α0 → α1 → α2 → Prop) → Prop} (S0 : Nat → α0) (S1 : Nat → α1) (S2 : Nat → α2) {a0 : α0} {a1 : α1} {a2 : α2} (n : Nat) (h0 : a0 = S0 0 ∧ a1 = S1 0 ∧ a2 = S2 0) (st : ∀ i, i < n → ∀ X : α0 → α1 → α2 → Prop, X (S0 (i + 1)) (S1 (i + 1)) (S2 (i + 1)) → B (S0 i) (S1 i) (S2 i) X) (la : ∀ X : α0 → α1 → α2 → Prop, B (S0 n) (S1 n) (S2 n) X) : Lp3 B a0 a1 a2 := by
  intro X hX
  have key : ∀ k, k ≤ n → X (S0 (n - k)) (S1 (n - k)) (S2 (n - k)) := by
    intro k
    induction k with
    | zero => intro _; exact hX _ _ _ (la X)
    | succ k ih =>
      intro hk
      refine hX _ _ _ (st _ (by omega) X ?_)
      rw [show n - (k + 1) + 1 = n - k by omega]
      exact ih (by omega)
  have := key n (Nat.le_refl _)
  rw [Nat.sub_self] at this
  obtain ⟨rfl, rfl, rfl⟩ := h0
  exact this
theorem Lp4_up {α0 α1 α2 α3 : Type} {B : α0 → α1 → α2 → α3 → (α0 → α1 → α2 → α3 → Prop) → Prop} (S0 : Nat → α0) (S1 : Nat → α1) (S2 : Nat → α2) (S3 : Nat → α3) {a0 : α0} {a1 : α1} {a2 : α2} {a3 : α3} (n : Nat) (h0 : a0 = S0 0 ∧ a1 = S1 0 ∧ a2 = S2 0 ∧ a3 = S3 0) (st : ∀ i, i < n → ∀ X : α0 → α1 → α2 → α3 → Prop, X (S0 (i + 1)) (S1 (i + 1)) (S2 (i + 1)) (S3 (i + 1)) → B (S0 i) (S1 i) (S2 i) (S3 i) X) (la : ∀ X : α0 → α1 → α2 → α3 → Prop, B (S0 n) (S1 n) (S2 n) (S3 n) X) : Lp4 B a0 a1 a2 a3 := by
  intro X hX
  have key : ∀ k, k ≤ n → X (S0 (n - k)) (S1 (n - k)) (S2 (n - k)) (S3 (n - k)) := by
    intro k
    induction k with
    | zero => intro _; exact hX _ _ _ _ (la X)
    | succ k ih =>
      intro hk
      refine hX _ _ _ _ (st _ (by omega) X ?_)
      rw [show n - (k + 1) + 1 = n - k by omega]
      exact ih (by omega)
  have := key n (Nat.le_refl _)
  rw [Nat.sub_self] at this
  obtain ⟨rfl, rfl, rfl, rfl⟩ := h0
  exact this
theorem Lp5_up {α0 α1 α2 α3 α4 : Type} {B : α0 → α1 → α2 → α3 → α4 → (α0 → α1 → α2 → α3 → α4 → Prop) → Prop} (S0 : Nat → α0) (S1 : Nat → α1) (S2 : Nat → α2) (S3 : Nat → α3) (S4 : Nat → α4) {a0 : α0} {a1 : α1} {a2 : α2} {a3 : α3} {a4 : α4} (n : Nat) (h0 : a0 = S0 0 ∧ a1 = S1 0 ∧ a2 = S2 0 ∧ a3 = S3 0 ∧ a4 = S4 0) (st : ∀ i, i < n → ∀ X : α0 → α1 → α2 → α3 → α4 → Prop, X (S0 (i + 1)) (S1 (i + 1)) (S2 (i + 1)) (S3 (i + 1)) (S4 (i + 1)) → B (S0 i) (S1 i) (S2 i) (S3 i) (S4 i) X) (la : ∀ X : α0 → α1 → α2 → α3 → α4 → Prop, B (S0 n) (S1 n) (S2 n) (S3 n) (S4 n) X) : Lp5 B a0 a1 a2 a3 a4 := by
  intro X hX
  have key : ∀ k, k ≤ n → X (S0 (n - k)) (S1 (n - k)) (S2 (n - k)) (S3 (n - k)) (S4 (n - k)) := by
    intro k
    induction k with
    | zero => intro _; exact hX _ _ _ _ _ (la X)
    | succ k ih =>
      intro hk
      refine hX _ _ _ _ _ (st _ (by omega) X ?_)
      rw [show n - (k + 1) + 1 = n - k by omega]
      exact ih (by omega)
  have := key n (Nat.le_refl _)
  rw [Nat.sub_self] at this
  obtain ⟨rfl, rfl, rfl, rfl, rfl⟩ := h0
  exact this
theorem Lp6_up {α0 α1 α2 α3 α4 α5 : Type} {B : α0 → α1 → α2 → α3 → α4 → α5 → (α0 → α1 → α2 → α3 → α4 → α5 → Prop) → Prop} (S0 : Nat → α0) (S1 : Nat → α1) (S2 : Nat → α2) (S3 : Nat → α3) (S4 : Nat → α4) (S5 : Nat → α5) {a0 : α0} {a1 : α1} {a2 : α2} {a3 : α3} {a4 : α4} {a5 : α5} (n : Nat) (h0 : a0 = S0 0 ∧ a1 = S1 0 ∧ a2 = S2 0 ∧ a3 = S3 0 ∧ a4 = S4 0 ∧ a5 = S5 0) (st : ∀ i, i < n → ∀ X : α0 → α1 → α2 → α3 → α4 → α5 → Prop, X (S0 (i + 1)) (S1 (i + 1)) (S2 (i + 1)) (S3 (i + 1)) (S4 (i + 1)) (S5 (i + 1)) → B (S0 i) (S1 i) (S2 i) (S3 i) (S4 i) (S5 i) X) (la : ∀ X : α0 → α1 → α2 → α3 → α4 → α5 → Prop, B (S0 n) (S1 n) (S2 n) (S3 n) (S4 n) (S5 n) X) : Lp6 B a0 a1 a2 a3 a4 a5 := by
  intro X hX
  have key : ∀ k, k ≤ n → X (S0 (n - k)) (S1 (n - k)) (S2 (n - k)) (S3 (n - k)) (S4 (n - k)) (S5 (n - k)) := by
    intro k
    induction k with
    | zero => intro _; exact hX _ _ _ _ _ _ (la X)
    | succ k ih =>
      intro hk
      refine hX _ _ _ _ _ _ (st _ (by omega) X ?_)
      rw [show n - (k + 1) + 1 = n - k by omega]
      exact ih (by omega)
  have := key n (Nat.le_refl _)
  rw [Nat.sub_self] at this
  obtain ⟨rfl, rfl, rfl, rfl, rfl, rfl⟩ := h0
  exact this
theorem Lp7_up {α0 α1 α2 α3 α4 α5 α6 : Type} {B : α0 → α1 → α2 → α3 → α4 → α5 → α6 → (α0 → α1 → α2 → α3 → α4 → α5 → α6 → Prop) → Prop} (S0 : Nat → α0) (S1 : Nat → α1) (S2 : Nat → α2) (S3 : Nat → α3) (S4 : Nat → α4) (S5 : Nat → α5) (S6 : Nat → α6) {a0 : α0} {a1 : α1} {a2 : α2} {a3 : α3} {a4 : α4} {a5 : α5} {a6 : α6} (n : Nat) (h0 : a0 = S0 0 ∧ a1 = S1 0 ∧ a2 = S2 0 ∧ a3 = S3 0 ∧ a4 = S4 0 ∧ a5 = S5 0 ∧ a6 = S6 0) (st : ∀ i, i < n → ∀ X : α0 → α1 → α2 → α3 → α4 → α5 → α6 → Prop, X (S0 (i + 1)) (S1 (i + 1)) (S2 (i + 1)) (S3 (i + 1)) (S4 (i + 1)) (S5 (i + 1)) (S6 (i + 1)) → B (S0 i) (S1 i) (S2 i) (S3 i) (S4 i) (S5 i) (S6 i) X) (la : ∀ X : α0 → α1 → α2 → α3 → α4 → α5 → α6 → Prop, B (S0 n) (S1 n) (S2 n) (S3 n) (S4 n) (S5 n) (S6 n) X) : Lp7 B a0 a1 a2 a3 a4 a5 a6 := by
  intro X hX
  have key : ∀ k, k ≤ n → X (S0 (n - k)) (S1 (n - k)) (S2 (n - k)) (S3 (n - k)) (S4 (n - k)) (S5 (n - k)) (S6 (n - k)) := by
    intro k
    induction k with
    | zero => intro _; exact hX _ _ _ _ _ _ _ (la X)
    | succ k ih =>
      intro hk
      refine hX _ _ _ _ _ _ _ (st _ (by omega) X ?_)
      rw [show n - (k + 1) + 1 = n - k by omega]
      exact ih (by omega)
  have := key n (Nat.le_refl _)
  rw [Nat.sub_self] at this
  obtain ⟨rfl, rfl, rfl, rfl, rfl, rfl, rfl⟩ := h0
  exact this

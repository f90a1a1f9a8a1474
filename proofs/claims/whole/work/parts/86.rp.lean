/-! ===== rings as lists ===== -/
section RP
variable {f : Nat → Nat} {n k : Nat}
theorem cntB_up {g : Nat → Bool} {j : Nat} (hj : j < n) (h : g j = false) : cntB (up1 g j true) n = cntB g n + 1 := by
  have e : cntB (up1 g j true) n = cntB (fun y => g y || (decide (y = j) && true)) n := cntB_ext (fun y _ => by
    by_cases c : y = j
    · subst c; rw [up1_eq, h]; simp
    · rw [up1_ne c]; simp [c])
  rw [e, cntB_or (fun y _ q => by
    by_cases c : y = j
    · subst c; rw [h] at q; cases q
    · simp [c]), cntB_one true hj]
  rfl
/-- how long a ring is -/
theorem per (hp : Pn f n) (n8 : n ≤ 8) (hk : k < n) : ∃ s, 1 ≤ s ∧ s ≤ n ∧ itr f s k = k ∧ cntB (rg f k) n = s ∧ (∀ i j, i < s → j < s → itr f i k = itr f j k → i = j) ∧ (∀ y, rg f k y = true ↔ ∃ i, i < s ∧ itr f i k = y) := by
  obtain ⟨m0, a1, a2, a3⟩ := itr_ret hp hk
  obtain ⟨m, h1, ⟨h2, h3⟩, h4⟩ := least_of (p := fun m => 1 ≤ m ∧ itr f m k = k) (n := n + 1) ⟨m0, by omega, a1, a3⟩
  have inj : ∀ i j, i < j → j < m → itr f i k ≠ itr f j k := by
    intro i j hij hj e
    have e2 : itr f i k = itr f i (itr f (j - i) k) := by rw [← itr_add, show i + (j - i) = j by omega]; exact e
    have e3 := itr_inj hp hk (itr_lt hp hk _) e2
    have := h4 (j - i) (by omega) ⟨by omega, e3.symm⟩
    omega
  have cnt : ∀ i, i < m → cntB (rgk f k i) n = i + 1 := by
    intro i
    induction i with
    | zero =>
      intro _
      have : cntB (rgk f k 0) n = cntB (fun y => decide (y = k) && true) n := cntB_ext (fun y _ => by
        rw [Bool.eq_iff_iff, rgk_d]
        simp only [Bool.and_true, decide_eq_true_iff]
        exact ⟨fun ⟨m, q1, q2⟩ => by rw [show m = 0 by omega] at q2; exact q2.symm, fun q => ⟨0, Nat.le_refl _, q.symm⟩⟩)
      rw [this, cntB_one true hk]
      rfl
    | succ i ih =>
      intro hi
      rw [cntB_ext (fun y _ => rgk_up f k i y), cntB_up (itr_lt hp hk _) ?_, ih (by omega)]
      cases c : rgk f k i (itr f (i + 1) k)
      · rfl
      · obtain ⟨j, hj, e⟩ := (rgk_d f k i _).mp c
        exact absurd e (inj j (i + 1) (by omega) hi)
  have all : ∀ y, rgk f k (m - 1) y = rg f k y := fun y => rgk_all hp n8 hk (Or.inl (by rw [show m - 1 + 1 = m by omega]; exact h3))
  refine ⟨m, h2, by omega, h3, ?_, fun i j hi hj e => ?_, fun y => ?_⟩
  · rw [← cntB_ext (fun y _ => all y), cnt (m - 1) (by omega)]; omega
  · rcases Nat.lt_trichotomy i j with q | q | q
    · exact absurd e (inj i j q hj)
    · exact q
    · exact absurd e.symm (inj j i q hi)
  · rw [← all y, rgk_d]
    exact ⟨fun ⟨j, q1, q2⟩ => ⟨j, by omega, q2⟩, fun ⟨j, q1, q2⟩ => ⟨j, by omega, q2⟩⟩
theorem per_2 (hp : Pn f n) (n8 : n ≤ 8) (hk : k < n) (h : f k ≠ k) : 2 ≤ cntB (rg f k) n := by
  obtain ⟨s, p1, p2, p3, p4, p5, p6⟩ := per hp n8 hk
  rw [p4]
  by_cases c : s = 1
  · rw [c] at p3; exact absurd p3 h
  · omega
/-- the turns that a ring wants -/
def rtn (f : Nat → Nat) (k s : Nat) : List (Nat × Nat) := (List.range (s - 1)).map (fun i => (8, itr f i k)) ++ [(9, itr f (s - 1) k), (8, itr f (s - 1) k), (9, k)]
theorem rtn_len {s : Nat} (h : 1 ≤ s) : (rtn f k s).length = s + 2 := by
  unfold rtn
  rw [List.length_append, List.length_map, List.length_range]
  show s - 1 + 3 = s + 2
  omega
abbrev Rgs : Type := List (Nat × Nat) × Nat × Nat × Nat
def rgS (f : Nat → Nat) (n i : Nat) (r : Rgs) : Rgs := if f i ≠ i ∧ wkd f i i = false then (r.1 ++ rtn f i (cntB (rg f i) n), r.2.1 + 1, max r.2.2.1 (cntB (rg f i) n), r.2.2.2 + (cntB (rg f i) n - 1)) else r
def rgF (f : Nat → Nat) (n : Nat) : Nat → Rgs
  | 0 => ([], 0, 0, 0)
  | i + 1 => rgS f n i (rgF f n i)
theorem wkd_cl (hp : Pn f n) (n8 : n ≤ 8) {i : Nat} (hi : i < n) {y : Nat} (h : wkd f i y = true) (h2 : rg f i y = true) : wkd f i i = true := by
  unfold wkd at h ⊢
  obtain ⟨b, h3, h4⟩ := List.any_eq_true.mp h
  have hb := List.mem_range.mp h3
  refine List.any_eq_true.mpr ⟨b, h3, ?_⟩
  have h5 : (!decide (f b = b)) = true ∧ rg f b y = true := by simpa using h4
  have h6 : rg f b i = true := rg_tr hp n8 (by omega) h5.2 (rg_sy hp n8 hi h2)
  rw [h5.1, h6]
  rfl
theorem wkd_ring (hp : Pn f n) (n8 : n ≤ 8) {i : Nat} (hi : i < n) (h1 : f i ≠ i) (h2 : wkd f i i = false) : cntB (wkd f (i + 1)) n = cntB (wkd f i) n + cntB (rg f i) n := by
  rw [cntB_ext (g := fun y => wkd f i y || rg f i y) (fun y _ => by rw [wkd_s, decide_eq_false h1]; simp)]
  refine cntB_or (fun y _ q => ?_)
  cases c : rg f i y
  · rfl
  · rw [wkd_cl hp n8 hi q c] at h2; cases h2
theorem wkd_up {i : Nat} : cntB (wkd f i) n ≤ cntB (wkd f (i + 1)) n := cntB_mono (fun y _ q => by rw [wkd_s, q]; rfl)
/-- no more turns than two for each who is in a ring -/
theorem rgF_len (hp : Pn f n) (n8 : n ≤ 8) : ∀ i, i ≤ n → (rgF f n i).1.length ≤ 2 * cntB (wkd f i) n ∧ (rgF f n i).2.1 ≤ i ∧ (rgF f n i).2.2.1 ≤ 8 ∧ (rgF f n i).2.2.2 ≤ cntB (wkd f i) n := by
  intro i
  induction i with
  | zero => intro _; exact ⟨Nat.zero_le _, Nat.le_refl _, Nat.zero_le _, Nat.zero_le _⟩
  | succ i ih =>
    intro hi
    obtain ⟨a, b, c, d⟩ := ih (by omega)
    show (rgS f n i (rgF f n i)).1.length ≤ _ ∧ (rgS f n i (rgF f n i)).2.1 ≤ _ ∧ (rgS f n i (rgF f n i)).2.2.1 ≤ _ ∧ (rgS f n i (rgF f n i)).2.2.2 ≤ _
    unfold rgS
    by_cases e : f i ≠ i ∧ wkd f i i = false
    · rw [if_pos e]
      have h2 := per_2 hp n8 (show i < n by omega) e.1
      have hw := wkd_ring hp n8 (show i < n by omega) e.1 e.2
      have hc := cntB_le (rg f i) n
      show ((rgF f n i).1 ++ rtn f i (cntB (rg f i) n)).length ≤ _ ∧ (rgF f n i).2.1 + 1 ≤ _ ∧ max (rgF f n i).2.2.1 (cntB (rg f i) n) ≤ _ ∧ (rgF f n i).2.2.2 + (cntB (rg f i) n - 1) ≤ _
      rw [List.length_append, rtn_len (by omega)]
      omega
    · rw [if_neg e]
      have := wkd_up (f := f) (n := n) (i := i)
      omega
/-- the class's note of who is home when -/
def hb1 (f : Nat → Nat) (k l0 : Nat) (hb : Nat → Nat) : Nat → Nat → Nat
  | 0 => hb
  | i + 1 => up1 (hb1 f k l0 hb i) (itr f i k) (l0 + i + 1)
def hbS (f : Nat → Nat) (k s l0 : Nat) (hb : Nat → Nat) : Nat → Nat := up1 (up1 (hb1 f k l0 hb (s - 1)) (itr f (s - 1) k) (l0 + s + 1)) k (l0 + s + 2)
def hbF (f : Nat → Nat) (n : Nat) : Nat → Nat → Nat
  | 0 => fun _ => 0
  | i + 1 => if f i ≠ i ∧ wkd f i i = false then hbS f i (cntB (rg f i) n) (rgF f n i).1.length (hbF f n i) else hbF f n i
end RP

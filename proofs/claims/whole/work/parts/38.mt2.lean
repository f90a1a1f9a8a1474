/-! ===== rings of who is in whom (nothing of the machine) ===== -/
def itr (f : Nat → Nat) : Nat → Nat → Nat
  | 0, x => x
  | m + 1, x => itr f m (f x)
theorem itr_s (f : Nat → Nat) (m x : Nat) : itr f (m + 1) x = f (itr f m x) := by
  induction m generalizing x with
  | zero => rfl
  | succ m ih =>
    show itr f (m + 1) (f x) = _
    rw [ih]
    rfl
theorem itr_add (f : Nat → Nat) (m k x : Nat) : itr f (m + k) x = itr f m (itr f k x) := by
  induction k generalizing x with
  | zero => rfl
  | succ k ih => exact ih (f x)
/-- f changes the numbers below n among themselves -/
def Pn (f : Nat → Nat) (n : Nat) : Prop := (∀ k, k < n → f k < n) ∧ (∀ k, k < n → ∀ e, e < n → f k = f e → k = e)
def swp (f : Nat → Nat) (k e : Nat) : Nat → Nat := fun j => if j = k then f e else if j = e then f k else f j
theorem swp_k (f : Nat → Nat) (k e : Nat) : swp f k e k = f e := by unfold swp; rw [if_pos rfl]
theorem swp_e (f : Nat → Nat) (k e : Nat) : swp f k e e = f k := by
  unfold swp
  by_cases h : e = k
  · rw [if_pos h, h]
  · rw [if_neg h, if_pos rfl]
theorem swp_o {f : Nat → Nat} {k e j : Nat} (h1 : j ≠ k) (h2 : j ≠ e) : swp f k e j = f j := by unfold swp; rw [if_neg h1, if_neg h2]
theorem swp_swp (f : Nat → Nat) (k e : Nat) : swp (swp f k e) k e = f := by
  funext j
  by_cases h1 : j = k
  · rw [h1, swp_k, swp_e]
  · by_cases h2 : j = e
    · rw [h2, swp_e, swp_k]
    · rw [swp_o h1 h2, swp_o h1 h2]
section RG
variable {f : Nat → Nat} {n : Nat}
theorem itr_lt (hp : Pn f n) {x : Nat} (hx : x < n) (m : Nat) : itr f m x < n := by
  induction m generalizing x with
  | zero => exact hx
  | succ m ih => exact ih (hp.1 x hx)
theorem itr_inj (hp : Pn f n) {x y : Nat} (hx : x < n) (hy : y < n) {m : Nat} (h : itr f m x = itr f m y) : x = y := by
  induction m generalizing x y with
  | zero => exact h
  | succ m ih => exact hp.2 x hx y hy (ih (hp.1 x hx) (hp.1 y hy) h)
theorem itr_ret (hp : Pn f n) {x : Nat} (hx : x < n) : ∃ m, 1 ≤ m ∧ m ≤ n ∧ itr f m x = x := by
  obtain ⟨i, j, h1, h2, h3⟩ := pigeon n (fun i => itr f i x) (fun i _ => itr_lt hp hx i)
  have h3 : itr f i x = itr f j x := h3
  refine ⟨j - i, by omega, by omega, ?_⟩
  rw [show j = i + (j - i) by omega, itr_add] at h3
  exact (itr_inj hp hx (itr_lt hp hx _) h3).symm
/-- y lies in x's ring -/
def rg (f : Nat → Nat) (x y : Nat) : Bool := (List.range 8).any (fun m => itr f m x == y)
theorem rg_d (f : Nat → Nat) (x y : Nat) : rg f x y = true ↔ ∃ m, m < 8 ∧ itr f m x = y := by
  unfold rg
  rw [List.any_eq_true]
  constructor
  · rintro ⟨m, h1, h2⟩; exact ⟨m, List.mem_range.mp h1, eq_of_beq h2⟩
  · rintro ⟨m, h1, h2⟩; exact ⟨m, List.mem_range.mpr h1, beq_iff_eq.mpr h2⟩
theorem itr_low (hp : Pn f n) {x : Nat} (hx : x < n) : ∀ m, ∃ k, k < n ∧ itr f k x = itr f m x := by
  obtain ⟨r, h1, h2, h3⟩ := itr_ret hp hx
  intro m
  induction m using Nat.strongRecOn with
  | ind m ih =>
    by_cases hm : m < n
    · exact ⟨m, hm, rfl⟩
    · obtain ⟨k, a, b⟩ := ih (m - r) (by omega)
      refine ⟨k, a, ?_⟩
      rw [b, show m = (m - r) + r by omega, itr_add, h3, show m - r + r - r = m - r by omega]
theorem rg_iff (hp : Pn f n) (hn : n ≤ 8) {x y : Nat} (hx : x < n) : rg f x y = true ↔ ∃ m, itr f m x = y := by
  rw [rg_d]
  constructor
  · rintro ⟨m, _, h⟩; exact ⟨m, h⟩
  · rintro ⟨m, h⟩
    obtain ⟨k, a, b⟩ := itr_low hp hx m
    exact ⟨k, by omega, b.trans h⟩
theorem rg_refl (x : Nat) : rg f x x = true := (rg_d f x x).mpr ⟨0, by omega, rfl⟩
theorem rg_lt (hp : Pn f n) {x y : Nat} (hx : x < n) (h : rg f x y = true) : y < n := by
  obtain ⟨m, _, rfl⟩ := (rg_d f x y).mp h
  exact itr_lt hp hx m
/-- what holds at x and stays true under f holds all over the ring -/
theorem rg_cl (hp : Pn f n) {M : Nat → Prop} (hM : ∀ z, z < n → M z → M (f z)) {x y : Nat} (hx : x < n) (h : rg f x y = true) (h0 : M x) : M y := by
  obtain ⟨m, hm8, rfl⟩ := (rg_d f x y).mp h
  clear h hm8
  induction m generalizing x with
  | zero => exact h0
  | succ m ih => exact ih (hp.1 x hx) (hM x hx h0)
theorem rg_tr (hp : Pn f n) (hn : n ≤ 8) {x y z : Nat} (hx : x < n) (h1 : rg f x y = true) (h2 : rg f y z = true) : rg f x z = true := by
  obtain ⟨m, a⟩ := (rg_iff hp hn hx).mp h1
  obtain ⟨k, b⟩ := (rg_iff hp hn (rg_lt hp hx h1)).mp h2
  exact (rg_iff hp hn hx).mpr ⟨k + m, by rw [itr_add, a, b]⟩
theorem rg_sy (hp : Pn f n) (hn : n ≤ 8) {x y : Nat} (hx : x < n) (h : rg f x y = true) : rg f y x = true := by
  obtain ⟨m, a⟩ := (rg_iff hp hn hx).mp h
  obtain ⟨r, h1, h2, h3⟩ := itr_ret hp hx
  have hr : ∀ q, itr f (q * r) x = x := by
    intro q
    induction q with
    | zero => rw [Nat.zero_mul]; rfl
    | succ q ih => rw [Nat.succ_mul, itr_add, h3, ih]
  refine (rg_iff hp hn (rg_lt hp hx h)).mpr ⟨m * r - m, ?_⟩
  rw [← a, ← itr_add, Nat.sub_add_cancel (Nat.le_mul_of_pos_right m (by omega)), hr]
theorem rg_f (hp : Pn f n) (hn : n ≤ 8) {x y : Nat} (hx : x < n) (h : rg f x y = true) : rg f x (f y) = true := by
  obtain ⟨m, a⟩ := (rg_iff hp hn hx).mp h
  exact (rg_iff hp hn hx).mpr ⟨m + 1, by rw [itr_s, a]⟩
theorem rg_same (hp : Pn f n) (hn : n ≤ 8) {x y z : Nat} (hx : x < n) (h : rg f x y = true) : rg f x z = rg f y z := by
  have hy := rg_lt hp hx h
  rw [Bool.eq_iff_iff]
  exact ⟨fun q => rg_tr hp hn hy (rg_sy hp hn hx h) q, fun q => rg_tr hp hn hx h q⟩
theorem Pn_swp (hp : Pn f n) {i j : Nat} (hi : i < n) (hj : j < n) : Pn (swp f i j) n := by
  obtain ⟨p1, p2⟩ := hp
  refine ⟨fun k hk => ?_, fun k hk e he h => ?_⟩
  · unfold swp
    split
    · exact p1 _ hj
    · split
      · exact p1 _ hi
      · exact p1 _ hk
  · unfold swp at h
    have a := p2 i hi j hj
    have b := p2 k hk e he
    have c := p2 k hk i hi
    have d := p2 k hk j hj
    have c' := p2 e he i hi
    have d' := p2 e he j hj
    split at h <;> split at h <;> (try split at h) <;> grind
/-- the ring of another, walked through by the changed ones -/
theorem rg_mrg1 (hp : Pn f n) (hn : n ≤ 8) {i j : Nat} (hi : i < n) (hj : j < n) (hd : rg f i j = false) : ∀ m, 1 ≤ m → rg (swp f i j) i (itr f m j) = true := by
  have hp' := Pn_swp hp hi hj
  have hij : i ≠ j := fun h => by rw [h, rg_refl] at hd; cases hd
  intro m
  induction m using Nat.strongRecOn with
  | ind m ih =>
    intro hm
    by_cases h1 : m = 1
    · subst h1
      have := rg_f hp' hn hi (rg_refl (f := swp f i j) i)
      rw [swp_k] at this
      exact this
    · by_cases h2 : itr f (m - 1) j = j
      · have h3 : itr f m j = itr f 1 j := by
          rw [show m = 1 + (m - 1) by omega, itr_add, h2]
        rw [h3]
        exact ih 1 (by omega) (by omega)
      · have h4 := ih (m - 1) (by omega) (by omega)
        have h5 : itr f (m - 1) j ≠ i := by
          intro q
          have : rg f j i = true := (rg_iff hp hn hj).mpr ⟨m - 1, q⟩
          rw [rg_sy hp hn hj this] at hd
          cases hd
        have h6 := rg_f hp' hn hi h4
        rw [swp_o h5 h2, ← itr_s f, show m - 1 + 1 = m by omega] at h6
        exact h6
theorem rg_mrg2 (hp : Pn f n) (hn : n ≤ 8) {i j y : Nat} (hi : i < n) (hj : j < n) (hd : rg f i j = false) (hy : rg f j y = true) : rg (swp f i j) i y = true := by
  obtain ⟨m, a⟩ := (rg_iff hp hn hj).mp hy
  by_cases h : m = 0
  · obtain ⟨r, h1, h2, h3⟩ := itr_ret hp hj
    subst h
    have a : j = y := a
    have := rg_mrg1 hp hn hi hj hd r h1
    rw [h3] at this
    rw [← a]
    exact this
  · rw [← a]
    exact rg_mrg1 hp hn hi hj hd m (by omega)
theorem swp_comm (f : Nat → Nat) (i j : Nat) : swp f i j = swp f j i := by
  funext x
  by_cases h1 : x = i
  · rw [h1, swp_k, swp_e]
  · by_cases h2 : x = j
    · rw [h2, swp_e, swp_k]
    · rw [swp_o h1 h2, swp_o h2 h1]
/-- two rings become one -/
theorem rg_mrg (hp : Pn f n) (hn : n ≤ 8) {i j x y : Nat} (hi : i < n) (hj : j < n) (hx : x < n) (hd : rg f i j = false) :
    rg (swp f i j) x y = if rg f i x = true ∨ rg f j x = true then (rg f i y || rg f j y) else rg f x y := by
  have hp' := Pn_swp hp hi hj
  have hdj : rg f j i = false := by
    cases h : rg f j i
    · rfl
    · rw [rg_sy hp hn hj h] at hd; cases hd
  have hU : ∀ y, rg f i y = true ∨ rg f j y = true → rg (swp f i j) i y = true := by
    intro y h
    rcases h with h | h
    · have h1 := rg_mrg2 hp hn hj hi hdj h
      rw [swp_comm] at h1
      exact rg_tr hp' hn hi (rg_mrg2 hp hn hi hj hd (rg_refl j)) h1
    · exact rg_mrg2 hp hn hi hj hd h
  have hcl : ∀ z, z < n → (rg f i z = true ∨ rg f j z = true) → (rg f i (swp f i j z) = true ∨ rg f j (swp f i j z) = true) := by
    intro z hz h
    by_cases h1 : z = i
    · rw [h1, swp_k]; exact Or.inr (rg_f hp hn hj (rg_refl j))
    · by_cases h2 : z = j
      · rw [h2, swp_e]; exact Or.inl (rg_f hp hn hi (rg_refl i))
      · rw [swp_o h1 h2]
        rcases h with h | h
        · exact Or.inl (rg_f hp hn hi h)
        · exact Or.inr (rg_f hp hn hj h)
  by_cases hxU : rg f i x = true ∨ rg f j x = true
  · rw [if_pos hxU, Bool.eq_iff_iff, Bool.or_eq_true]
    constructor
    · intro h
      exact rg_cl hp' hcl hx h hxU
    · intro h
      have h1 := hU x hxU
      rw [← rg_same hp' hn hi h1]
      exact hU y h
  · rw [if_neg hxU, Bool.eq_iff_iff]
    have hz : ∀ z, rg f x z = true → z ≠ i ∧ z ≠ j := by
      intro z h
      constructor
      · intro q; subst q; exact hxU (Or.inl (rg_sy hp hn hx h))
      · intro q; subst q; exact hxU (Or.inr (rg_sy hp hn hx h))
    have h1 : ∀ y, rg (swp f i j) x y = true → rg f x y = true := by
      intro y h
      refine rg_cl (M := fun z => rg f x z = true) hp' (fun z hzn h => ?_) hx h (rg_refl x)
      rw [swp_o (hz z h).1 (hz z h).2]
      exact rg_f hp hn hx h
    refine ⟨h1 y, fun h => ?_⟩
    refine rg_cl (M := fun z => rg (swp f i j) x z = true) hp (fun z hzn h => ?_) hx h (rg_refl x)
    have h2 := hz z (h1 z h)
    have h3 := rg_f hp' hn hx h
    rw [swp_o h2.1 h2.2] at h3
    exact h3
/-- one ring becomes two -/
theorem rg_spl (hp : Pn f n) (hn : n ≤ 8) {i j : Nat} (hi : i < n) (hj : j < n) (hij : i ≠ j) (hs : rg f i j = true) : rg (swp f i j) i j = false := by
  have hp' := Pn_swp hp hi hj
  have hex : ∃ m, itr f m i = j := (rg_iff hp hn hi).mp hs
  have hmin : ∃ m, itr f m i = j ∧ ∀ k, k < m → itr f k i ≠ j := by
    obtain ⟨m, hm⟩ := hex
    induction m using Nat.strongRecOn with
    | ind m ih =>
      by_cases h : ∃ k, k < m ∧ itr f k i = j
      · obtain ⟨k, a, b⟩ := h
        exact ih k a b
      · exact ⟨m, hm, fun k a b => h ⟨k, a, b⟩⟩
  obtain ⟨m, hm, hlow⟩ := hmin
  have hm0 : m ≠ 0 := by
    intro h; subst h; exact hij hm
  have hni : ∀ k, 1 ≤ k → k < m → itr f k i ≠ i := by
    intro k h1 h2 h3
    refine hlow (m - k) (by omega) ?_
    rw [show m = (m - k) + k by omega, itr_add, h3] at hm
    exact hm
  cases h : rg (swp f i j) i j
  · rfl
  · have h1 := rg_sy hp' hn hi h
    have h2 : ∃ k, 1 ≤ k ∧ k ≤ m ∧ itr f k i = i := by
      refine rg_cl (M := fun z => ∃ k, 1 ≤ k ∧ k ≤ m ∧ itr f k i = z) hp' ?_ hj h1 ⟨m, by omega, by omega, hm⟩
      rintro z hz ⟨k, a, b, c⟩
      by_cases hk : k = m
      · subst hk
        rw [hm] at c
        subst c
        exact ⟨1, by omega, by omega, by rw [swp_e]; rfl⟩
      · refine ⟨k + 1, by omega, by omega, ?_⟩
        have e1 : z ≠ i := by rw [← c]; exact hni k a (by omega)
        have e2 : z ≠ j := by rw [← c]; exact hlow k (by omega)
        rw [swp_o e1 e2, itr_s, c]
    obtain ⟨k, a, b, c⟩ := h2
    by_cases hk : k = m
    · subst hk; rw [hm] at c; exact absurd c.symm hij
    · exact absurd c (hni k a (by omega))
/-! how many rings have no cat -/
def rep (f : Nat → Nat) (n b : Nat) : Bool := decide (∀ y, y < n → rg f b y = true → b ≤ y)
def cfr (f : Nat → Nat) (n : Nat) (ct : Nat → Bool) (b : Nat) : Bool := decide (∀ y, y < n → rg f b y = true → ct y = false)
def cyc (f : Nat → Nat) (n : Nat) (ct : Nat → Bool) : Nat := cntB (fun b => rep f n b && cfr f n ct b) n
theorem least_of {p : Nat → Prop} {n : Nat} (h : ∃ x, x < n ∧ p x) : ∃ x, x < n ∧ p x ∧ ∀ y, y < n → p y → x ≤ y := by
  obtain ⟨x, h1, h2⟩ := h
  induction x using Nat.strongRecOn with
  | ind x ih =>
    by_cases q : ∃ y, y < x ∧ p y
    · obtain ⟨y, a, b⟩ := q
      exact ih y a (by omega) b
    · exact ⟨x, h1, h2, fun y a b => Nat.not_lt.mp (fun c => q ⟨y, c, b⟩)⟩
theorem rep_ex (hp : Pn f n) (hn : n ≤ 8) {x : Nat} (hx : x < n) : ∃ b, b < n ∧ rg f x b = true ∧ rep f n b = true := by
  obtain ⟨b, h1, h2, h3⟩ := least_of (p := fun y => rg f x y = true) ⟨x, hx, rg_refl x⟩
  refine ⟨b, h1, h2, decide_eq_true (fun y hy h => h3 y hy ?_)⟩
  exact rg_tr hp hn hx h2 h
theorem rep_un (hp : Pn f n) (hn : n ≤ 8) {x y : Nat} (hx : x < n) (h1 : rep f n x = true) (h2 : rep f n y = true) (h : rg f x y = true) : x = y := by
  have hy := rg_lt hp hx h
  have a := of_decide_eq_true h1 y hy h
  have b := of_decide_eq_true h2 x hx (rg_sy hp hn hx h)
  omega
theorem cfr_same (hp : Pn f n) (hn : n ≤ 8) (ct : Nat → Bool) {x y : Nat} (hx : x < n) (h : rg f x y = true) : cfr f n ct x = cfr f n ct y := by
  unfold cfr
  refine decide_eq_decide.mpr ⟨fun q z hz hr => q z hz (by rw [rg_same hp hn hx h]; exact hr), fun q z hz hr => q z hz (by rw [← rg_same hp hn hx h]; exact hr)⟩
/-- two rings become one: the count -/
theorem cyc_mrg (hp : Pn f n) (hn : n ≤ 8) (ct : Nat → Bool) {i j : Nat} (hi : i < n) (hj : j < n) (hd : rg f i j = false) :
    cyc (swp f i j) n ct ≤ cyc f n ct ∧ cyc f n ct ≤ cyc (swp f i j) n ct + 1 ∧ ((∀ k, k < n → ct k = false) → cyc f n ct = cyc (swp f i j) n ct + 1) := by
  have hp' := Pn_swp hp hi hj
  have hdj : rg f j i = false := by
    cases h : rg f j i
    · rfl
    · rw [rg_sy hp hn hj h] at hd; cases hd
  obtain ⟨a, ha, hia, hra⟩ := rep_ex hp hn hi
  obtain ⟨b, hb, hjb, hrb⟩ := rep_ex hp hn hj
  have hab : a ≠ b := by
    intro q; subst q
    rw [rg_tr hp hn hi hia (rg_sy hp hn hj hjb)] at hd
    cases hd
  -- in the union
  have hUa : ∀ x, x < n → (rg f i x = true ∨ rg f j x = true) → rep f n x = true → x = a ∨ x = b := by
    intro x hx h hr
    rcases h with h | h
    · exact Or.inl (rep_un hp hn hx hr hra (rg_tr hp hn hx (rg_sy hp hn hi h) hia))
    · exact Or.inr (rep_un hp hn hx hr hrb (rg_tr hp hn hx (rg_sy hp hn hj h) hjb))
  have hsp := fun g : Nat → Bool => cntB_split g (fun x => rg f i x || rg f j x) n
  -- outside nothing changes
  have hout : cntB (fun k => (rep f n k && cfr f n ct k) && !(rg f i k || rg f j k)) n = cntB (fun k => (rep (swp f i j) n k && cfr (swp f i j) n ct k) && !(rg f i k || rg f j k)) n := by
    refine cntB_ext (fun k hk => ?_)
    by_cases hU : rg f i k = true ∨ rg f j k = true
    · have : (rg f i k || rg f j k) = true := by rw [Bool.or_eq_true]; exact hU
      rw [this]; simp
    · have e : ∀ y, rg (swp f i j) k y = rg f k y := fun y => by rw [rg_mrg hp hn hi hj hk hd, if_neg hU]
      unfold rep cfr
      simp only [e]
  have hin : cntB (fun k => (rep f n k && cfr f n ct k) && (rg f i k || rg f j k)) n = (if cfr f n ct a = true then 1 else 0) + (if cfr f n ct b = true then 1 else 0) := by
    rw [← cntB_one (cfr f n ct a) ha, ← cntB_one (cfr f n ct b) hb, ← cntB_or]
    · refine cntB_ext (fun k hk => ?_)
      rw [Bool.eq_iff_iff]
      simp only [Bool.and_eq_true, Bool.or_eq_true, decide_eq_true_iff]
      constructor
      · rintro ⟨⟨h1, h2⟩, h3⟩
        rcases hUa k hk h3 h1 with q | q
        · exact Or.inl ⟨q, by rw [← q]; exact h2⟩
        · exact Or.inr ⟨q, by rw [← q]; exact h2⟩
      · rintro (⟨q, h⟩ | ⟨q, h⟩)
        · rw [q]; exact ⟨⟨hra, h⟩, Or.inl hia⟩
        · rw [q]; exact ⟨⟨hrb, h⟩, Or.inr hjb⟩
    · intro k hk h
      simp only [Bool.and_eq_true, decide_eq_true_iff] at h
      have : ¬ k = b := by rw [h.1]; exact hab
      simp [this]
  have e' : ∀ k, k < n → (rg f i k = true ∨ rg f j k = true) → ∀ y, rg (swp f i j) k y = (rg f i y || rg f j y) := fun k hk hU y => by rw [rg_mrg hp hn hi hj hk hd, if_pos hU]
  have hcf : ∀ k, k < n → (rg f i k = true ∨ rg f j k = true) → cfr (swp f i j) n ct k = (cfr f n ct a && cfr f n ct b) := by
    intro k hk hU
    rw [← cfr_same hp hn ct hi hia, ← cfr_same hp hn ct hj hjb, Bool.eq_iff_iff, Bool.and_eq_true]
    unfold cfr
    simp only [decide_eq_true_iff, e' k hk hU, Bool.or_eq_true]
    exact ⟨fun h => ⟨fun y hy q => h y hy (Or.inl q), fun y hy q => h y hy (Or.inr q)⟩, fun h y hy q => q.elim (h.1 y hy) (h.2 y hy)⟩
  have hUof : ∀ x, x < n → x = a ∨ x = b → (rg f i x = true ∨ rg f j x = true) := by
    rintro x hx (rfl | rfl)
    · exact Or.inl hia
    · exact Or.inr hjb
  have hmin : ∀ y, (rg f i y = true ∨ rg f j y = true) → y < n → (a ≤ y ∨ b ≤ y) := by
    intro y h hy
    rcases h with h | h
    · exact Or.inl (of_decide_eq_true hra y hy (rg_tr hp hn ha (rg_sy hp hn hi hia) h))
    · exact Or.inr (of_decide_eq_true hrb y hy (rg_tr hp hn hb (rg_sy hp hn hj hjb) h))
  have hin' : cntB (fun k => (rep (swp f i j) n k && cfr (swp f i j) n ct k) && (rg f i k || rg f j k)) n = if (cfr f n ct a && cfr f n ct b) = true then 1 else 0 := by
    have hc : min a b < n := by omega
    rw [← cntB_one (cfr f n ct a && cfr f n ct b) hc]
    refine cntB_ext (fun k hk => ?_)
    rw [Bool.eq_iff_iff]
    simp only [Bool.and_eq_true, Bool.or_eq_true, decide_eq_true_iff]
    constructor
    · rintro ⟨⟨h1, h2⟩, h3⟩
      have h2' := hcf k hk h3
      rw [h2] at h2'
      have h2' := h2'.symm
      rw [Bool.and_eq_true] at h2'
      refine ⟨?_, h2'⟩
      have q1 := of_decide_eq_true h1 a ha (by rw [e' k hk h3, hia]; rfl)
      have q2 := of_decide_eq_true h1 b hb (by rw [e' k hk h3, hjb, Bool.or_true])
      have q3 := hmin k h3 hk
      omega
    · rintro ⟨h1, h2⟩
      have hkU : rg f i k = true ∨ rg f j k = true := hUof k hk (by omega)
      refine ⟨⟨decide_eq_true (fun y hy q => ?_), ?_⟩, hkU⟩
      · rw [e' k hk hkU, Bool.or_eq_true] at q
        have := hmin y q hy
        omega
      · rw [hcf k hk hkU, Bool.and_eq_true]; exact h2
  have h1 : cyc f n ct = (if cfr f n ct a = true then 1 else 0) + (if cfr f n ct b = true then 1 else 0) + cntB (fun k => (rep f n k && cfr f n ct k) && !(rg f i k || rg f j k)) n := by
    unfold cyc
    rw [hsp, hin]
  have h2 : cyc (swp f i j) n ct = (if (cfr f n ct a && cfr f n ct b) = true then 1 else 0) + cntB (fun k => (rep f n k && cfr f n ct k) && !(rg f i k || rg f j k)) n := by
    unfold cyc
    rw [hsp, hin', hout]
  rw [h1, h2]
  refine ⟨?_, ?_, fun hc => ?_⟩
  · cases cfr f n ct a <;> cases cfr f n ct b <;> simp <;> omega
  · cases cfr f n ct a <;> cases cfr f n ct b <;> simp <;> omega
  · have q1 : cfr f n ct a = true := decide_eq_true (fun y hy _ => hc y hy)
    have q2 : cfr f n ct b = true := decide_eq_true (fun y hy _ => hc y hy)
    rw [q1, q2]
    simp
    omega
/-- a change of two: at most one more ring without a cat -/
theorem cyc_swp (hp : Pn f n) (hn : n ≤ 8) (ct : Nat → Bool) {i j : Nat} (hi : i < n) (hj : j < n) (hij : i ≠ j) :
    cyc (swp f i j) n ct ≤ cyc f n ct + 1 ∧ (rg f i j = false → cyc (swp f i j) n ct ≤ cyc f n ct) ∧
    ((∀ k, k < n → ct k = false) → cyc f n ct = cyc (swp f i j) n ct + 1 ∨ cyc (swp f i j) n ct = cyc f n ct + 1) := by
  cases h : rg f i j
  · have q := cyc_mrg hp hn ct hi hj h
    exact ⟨by omega, fun _ => q.1, fun hc => Or.inl (q.2.2 hc)⟩
  · have h2 := rg_spl hp hn hi hj hij h
    have q := cyc_mrg (Pn_swp hp hi hj) hn ct hi hj h2
    rw [swp_swp] at q
    exact ⟨q.2.1, fun z => by simp at z, fun hc => Or.inr (q.2.2 hc)⟩
end RG

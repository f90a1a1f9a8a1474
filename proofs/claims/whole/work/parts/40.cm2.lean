/-! ===== the JDK's ===== -/
theorem j_min {σ : JH} {a b : Nat} (hl : Ly σ) (ha : a < 2147483648) (hb : b < 2147483648) : q_Ma_min [.int (nI a), .int (nI b)] σ = some (some (.int (nI (min a b))), σ) := by
  refine WE_o (w_Ma_min _ _ hl ?_)
  simp only [nI_ltN hb ha]
  by_cases h : b < a
  · rw [if_pos h, Nat.min_eq_right (by omega)]
  · rw [if_neg h, Nat.min_eq_left (by omega)]
theorem j_max {σ : JH} {a b : Nat} (hl : Ly σ) (ha : a < 2147483648) (hb : b < 2147483648) : q_Ma_max [.int (nI a), .int (nI b)] σ = some (some (.int (nI (max a b))), σ) := by
  refine WE_o (w_Ma_max _ _ hl ?_)
  simp only [nI_ltN ha hb]
  by_cases h : a < b
  · rw [if_pos h, Nat.max_eq_right (by omega)]
  · rw [if_neg h, Nat.max_eq_left (by omega)]
set_option maxRecDepth 20000 in
theorem j_bc {σ : JH} {m : Nat} (hl : Ly σ) (hm : m < 256) : q_In_bitCount [.int (nI m)] σ = some (some (.int (nI (cntB m.testBit 8))), σ) := by
  refine WE_o (w_In_bitCount _ hl ?_)
  revert hm
  revert m
  decide +kernel
theorem j_bcm {σ : JH} {f : Nat → Bool} {n : Nat} (hl : Ly σ) (hn : n ≤ 8) : q_In_bitCount [.int (nI (msk f n))] σ = some (some (.int (nI (cntB f n))), σ) := by rw [j_bc hl (msk_8 hn), msk_cnt hn]
/-! a number that is a body's -/
def isB (n : Nat) (x : Int32) : Bool := decide (¬ x < 0 ∧ x < nI n)
theorem isB_t {n : Nat} {x : Int32} (hn : n ≤ 8) (h : isB n x = true) : ∃ k, k < n ∧ x = nI k := by
  have h := of_decide_eq_true h
  obtain ⟨k, h1, rfl⟩ := Int32_nat h.1
  have h2 := h.2
  rw [nI_ltN h1 (by omega)] at h2
  exact ⟨k, h2, rfl⟩
theorem isB_n {n k : Nat} (hn : n ≤ 8) (hk : k < n) : isB n (nI k) = true := by
  refine decide_eq_true ⟨?_, ?_⟩
  · rw [nI_lt0 (by omega)]; exact id
  · rw [nI_ltN (by omega) (by omega)]; exact hk
theorem isB_if {n : Nat} {x : Int32} {K : Int32 → Prop} (h : K (bI (isB n x))) : if x < 0 then K (nI 0) else if nI n ≤ x then K (nI 0) else K (nI 1) := by
  unfold isB at h
  by_cases c1 : x < 0
  · rw [if_pos c1]
    rw [show decide (¬ x < 0 ∧ x < nI n) = false from decide_eq_false (fun q => q.1 c1)] at h
    exact h
  · rw [if_neg c1]
    by_cases c2 : nI n ≤ x
    · rw [if_pos c2]
      rw [show decide (¬ x < 0 ∧ x < nI n) = false from decide_eq_false (fun q => Int32.not_le.mpr q.2 c2)] at h
      exact h
    · rw [if_neg c2]
      rw [show decide (¬ x < 0 ∧ x < nI n) = true from decide_eq_true ⟨c1, Int32.not_le.mp c2⟩] at h
      exact h
theorem nI_sub2 {a b : Nat} (ha : a < 10000) (hb : b < 10000) : (nI a - nI 2 < nI b) = (a < b + 2) := by
  by_cases h : 2 ≤ a
  · rw [nI_subN h, nI_ltN (by omega) (by omega), eq_iff_iff]; omega
  · have h0 : (0 : Int32) ≤ nI b := by rw [nI_0le (by omega)]; trivial
    have h2 : nI a - nI 2 < 0 := by
      rcases (show a = 0 ∨ a = 1 by omega) with rfl | rfl <;> decide
    rw [eq_iff_iff]
    exact ⟨fun _ => by omega, fun _ => Int32.lt_of_lt_of_le h2 h0⟩
def mayF (H : Hou) (S : Mud) (k : Nat) : Bool := Hw H k && !th S k
def sit2 (H : Hou) (S : Mud) (k : Nat) : Bool := decide (sa S k + 2 ≤ lim H k)
def mayR (H : Hou) (S : Mud) (k e i : Nat) : Bool := mayT H S k e && mayT H S e i && mayT H S k i && sit2 H S k && sit2 H S e && sit2 H S i
section CQ
variable {H : Hou} {S : Mud} {a h k e i : Nat} {σ : JH} {x y z : Int32}
theorem c_has (hl : Ly σ) (hh : IsHo h) (hH : cH H h σ) : q_Ho_has [.ref h, .int x] σ = some (some (.int (bI (isB (Hn H) x))), σ) := by
  refine WE_o (w_Ho_has h x hl hh ?_)
  rw [hH.1]
  exact isB_if (K := fun y => y = bI (isB (Hn H) x)) rfl
theorem c_wrongOnes (hl : Ly σ) (ha : IsMu a) (hW : WH H) (hM : cM H S a h σ) : q_Mu_wrongOnes [.ref a] σ = some (some (.int (nI (wrs H S))), σ) := by
  refine WE_o (w_Mu_wrongOnes a hl ha ?_)
  rw [hM.2.2.2.2.2.2.1]
  exact WE_i (j_bcm hl hW.1) rfl
theorem c_partnersOf (hl : Ly σ) (ha : IsMu a) (hW : WH H) (hH : cH H h σ) (hM : cM H S a h σ) (hk : k < Hn H) : q_Mu_partnersOf [.ref a, .int (nI k)] σ = some (some (.int (nI (msk (mayT H S k) (Hn H)))), σ) := by
  have n8 := hW.1
  obtain ⟨m0, m1, m2, m3, m4, m5, m6, m7, m8⟩ := hM
  obtain ⟨q1, q2, q3, q4, q5, q6, q7, q8, q9, q10⟩ := hH
  refine WE_o (w_Mu_partnersOf a (nI k) hl ha ?_)
  simp (disch := omega) only [m0, m5, cl_nI, inb_nI, m2 k hk, q9 k hk, bk_get n8 hk, bI_0, bk_or, bk_set n8 hk, bk_sub]
  by_cases c : opn H S k = false
  · rw [if_pos c, msk_0 (fun j hj => by unfold mayT; rw [c]; rfl)]
  · rw [if_neg c]
    rw [Bool.not_eq_false] at c
    refine ⟨by omega, by omega, congrArg nI (msk_ext (fun j hj => ?_))⟩
    unfold mayT up1
    rw [c]
    by_cases d : j = k
    · simp [d]
    · have d' : ¬ k = j := fun q => d q.symm
      simp [d, d', Bool.and_assoc]
theorem c_allows (hl : Ly σ) (ha : IsMu a) (hh : IsHo h) (hW : WH H) (hH : cH H h σ) (hM : cM H S a h σ) (hk : k < Hn H) (he : e < Hn H) : q_Mu_allows [.ref a, .int (nI k), .int (nI e)] σ = some (some (.int (bI (mayT H S k e))), σ) := by
  have n8 := hW.1
  refine WE_o (w_Mu_allows a (nI k) (nI e) hl ha ?_)
  rw [hM.1]
  refine WE_i (c_has hl hh hH) ?_
  rw [isB_n n8 hk, if_neg (by decide)]
  refine WE_i (c_has hl hh hH) ?_
  rw [isB_n n8 he, if_neg (by decide)]
  refine WE_i (c_partnersOf hl ha hW hH hM hk) ?_
  rw [bk_get n8 he]
  cases mayT H S k e <;> decide
theorem c_allows_no (hl : Ly σ) (ha : IsMu a) (hh : IsHo h) (hW : WH H) (hH : cH H h σ) (hM : cM H S a h σ) (hn : isB (Hn H) x = false ∨ isB (Hn H) y = false) : q_Mu_allows [.ref a, .int x, .int y] σ = some (some (.int (nI 0)), σ) := by
  refine WE_o (w_Mu_allows a x y hl ha ?_)
  rw [hM.1]
  refine WE_i (c_has hl hh hH) ?_
  cases hx : isB (Hn H) x
  · rw [if_pos (by decide)]
  · rw [if_neg (by decide)]
    refine WE_i (c_has hl hh hH) ?_
    rcases hn with hn | hn
    · rw [hx] at hn; cases hn
    · rw [hn, if_pos (by decide)]
theorem c_canSitTwice (hl : Ly σ) (ha : IsMu a) (hW : WH H) (hS : WS H S) (hH : cH H h σ) (hM : cM H S a h σ) (hk : k < Hn H) : q_Mu_canSitTwice [.ref a, .int (nI k)] σ = some (some (.int (bI (sit2 H S k))), σ) := by
  have n8 := hW.1
  obtain ⟨m0, m1, m2, m3, m4, m5, m6, m7, m8⟩ := hM
  obtain ⟨q1, q2, q3, q4, q5, q6, q7, q8, q9, q10⟩ := hH
  have b1 := lim_lt hW k
  have b2 := hS.2.2.2.1 k hk
  refine WE_o (w_Mu_canSitTwice a (nI k) hl ha ?_)
  simp (disch := omega) only [m0, cl_nI, inb_nI, m3 k hk, q10 k hk, nI_sub2]
  refine ⟨by omega, by omega, ?_⟩
  unfold sit2
  by_cases c : lim H k < sa S k + 2
  · rw [if_pos c, decide_eq_false (by omega)]; rfl
  · rw [if_neg c, decide_eq_true (by omega)]; rfl
theorem c_allowsRound (hl : Ly σ) (ha : IsMu a) (hh : IsHo h) (hW : WH H) (hS : WS H S) (hH : cH H h σ) (hM : cM H S a h σ) (hk : k < Hn H) (he : e < Hn H) (hi : i < Hn H) : q_Mu_allowsRound [.ref a, .int (nI k), .int (nI e), .int (nI i)] σ = some (some (.int (bI (mayR H S k e i))), σ) := by
  refine WE_o (w_Mu_allowsRound a (nI k) (nI e) (nI i) hl ha ?_)
  unfold mayR
  refine WE_i (c_allows hl ha hh hW hH hM hk he) ?_
  cases mayT H S k e
  · rw [if_pos (by decide)]; rfl
  rw [if_neg (by decide)]
  refine WE_i (c_allows hl ha hh hW hH hM he hi) ?_
  cases mayT H S e i
  · rw [if_pos (by decide)]; rfl
  rw [if_neg (by decide)]
  refine WE_i (c_allows hl ha hh hW hH hM hk hi) ?_
  cases mayT H S k i
  · rw [if_pos (by decide)]; rfl
  rw [if_neg (by decide)]
  refine WE_i (c_canSitTwice hl ha hW hS hH hM hk) ?_
  cases sit2 H S k
  · rw [if_pos (by decide)]; rfl
  rw [if_neg (by decide)]
  refine WE_i (c_canSitTwice hl ha hW hS hH hM he) ?_
  cases sit2 H S e
  · rw [if_pos (by decide)]; rfl
  rw [if_neg (by decide)]
  refine WE_i (c_canSitTwice hl ha hW hS hH hM hi) ?_
  cases sit2 H S i <;> decide
theorem c_allowsRound_no (hl : Ly σ) (ha : IsMu a) (hh : IsHo h) (hW : WH H) (hH : cH H h σ) (hM : cM H S a h σ) (hn : isB (Hn H) x = false ∨ isB (Hn H) y = false ∨ isB (Hn H) z = false) : q_Mu_allowsRound [.ref a, .int x, .int y, .int z] σ = some (some (.int (nI 0)), σ) := by
  refine WE_o (w_Mu_allowsRound a x y z hl ha ?_)
  by_cases c1 : isB (Hn H) x = true ∧ isB (Hn H) y = true
  · obtain ⟨k, hk, rfl⟩ := isB_t hW.1 c1.1
    obtain ⟨e, he, rfl⟩ := isB_t hW.1 c1.2
    have hz : isB (Hn H) z = false := by
      rcases hn with q | q | q
      · rw [c1.1] at q; cases q
      · rw [c1.2] at q; cases q
      · exact q
    refine WE_i (c_allows hl ha hh hW hH hM hk he) ?_
    cases mayT H S k e
    · rw [if_pos (by decide)]
    rw [if_neg (by decide)]
    refine WE_i (c_allows_no hl ha hh hW hH hM (Or.inr hz)) ?_
    rw [if_pos (by decide)]
  · refine WE_i (c_allows_no hl ha hh hW hH hM ?_) (by rw [if_pos (by decide)])
    cases hx : isB (Hn H) x
    · exact Or.inl rfl
    · cases hy : isB (Hn H) y
      · exact Or.inr rfl
      · exact absurd ⟨hx, hy⟩ c1
theorem c_allowsFetch (hl : Ly σ) (ha : IsMu a) (hh : IsHo h) (hW : WH H) (hH : cH H h σ) (hM : cM H S a h σ) (hk : k < Hn H) : q_Mu_allowsFetch [.ref a, .int (nI k)] σ = some (some (.int (bI (mayF H S k))), σ) := by
  have n8 := hW.1
  refine WE_o (w_Mu_allowsFetch a (nI k) hl ha ?_)
  rw [hM.1]
  refine WE_i (c_has hl hh hH) ?_
  rw [isB_n n8 hk, if_neg (by decide), hH.2.1, hM.2.2.2.2.1, bk_sub, bk_get n8 hk]
  unfold mayF
  cases (Hw H k && !th S k) <;> decide
theorem c_allowsFetch_no (hl : Ly σ) (ha : IsMu a) (hh : IsHo h) (hH : cH H h σ) (hM : cM H S a h σ) (hx : isB (Hn H) x = false) : q_Mu_allowsFetch [.ref a, .int x] σ = some (some (.int (nI 0)), σ) := by
  refine WE_o (w_Mu_allowsFetch a x hl ha ?_)
  rw [hM.1]
  refine WE_i (c_has hl hh hH) ?_
  rw [hx, if_pos (by decide)]
end CQ

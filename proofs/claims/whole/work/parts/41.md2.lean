/-! ===== the model's rows hold the cellar, and a muddle from place b on ===== -/
def mH (H : Hou) (σ : JH) : Prop :=
  σ.2.1 210 0 = nI (Hn H) ∧ σ.2.1 210 4 = nI (Ho H) ∧ (∀ k, k < Hn H → σ.2.1 210 (8 + 4 * k) = nI (Hk H k)) ∧ (∀ k, k < Hn H → σ.2.1 210 (8 + 4 * k + 1) = bI (Hw H k)) ∧
  (∀ k, k < Hn H → σ.2.1 210 (8 + 4 * k + 2) = nI (Hp H k)) ∧ (∀ k, k < Hn H → σ.2.1 210 (8 + 4 * k + 3) = nI (Hm H k)) ∧
  (∀ k, k < Hn H → ∀ e, e < Hn H → σ.2.1 210 (40 + 8 * k + e) = bI (Hb H k e)) ∧ (∀ k, k < Hn H → ∀ e, e < Hn H → σ.2.1 210 (104 + 8 * k + e) = bI (Hx H k e))
def mM (H : Hou) (S : Mud) (b : Nat) (σ : JH) : Prop :=
  σ.2.1 218 (b + 0) = nI (tu S) ∧ σ.2.1 218 (b + 2) = nI (pa S) ∧ (∀ k, k < Hn H → σ.2.1 218 (b + 3 + k) = nI (mi S k)) ∧ (∀ k, k < Hn H → σ.2.1 218 (b + 11 + k) = nI (sa S k)) ∧
  (∀ k, k < Hn H → σ.2.1 218 (b + 19 + k) = bI (th S k)) ∧ (∀ k, k < Hn H → ∀ e, e < Hn H → σ.2.1 218 (b + 27 + 8 * k + e) = bI (me S k e))
/-- the places of a muddle from b on, its cost aside -/
def PS (b c j : Nat) : Prop := c = 218 ∧ b ≤ j ∧ j < b + 91 ∧ j ≠ b + 1
theorem mH_f {H : Hou} {σ s : JH} {P : Nat → Nat → Prop} (f : Fi P σ s) (hP : ∀ j, ¬ P 210 j) (q : mH H σ) : mH H s := by
  obtain ⟨q1, q2, q3, q4, q5, q6, q7, q8⟩ := q
  have e : ∀ j, s.2.1 210 j = σ.2.1 210 j := fun j => f.2.2 210 j (hP j)
  exact ⟨(e _).trans q1, (e _).trans q2, fun k hk => (e _).trans (q3 k hk), fun k hk => (e _).trans (q4 k hk), fun k hk => (e _).trans (q5 k hk), fun k hk => (e _).trans (q6 k hk), fun k hk i hi => (e _).trans (q7 k hk i hi), fun k hk i hi => (e _).trans (q8 k hk i hi)⟩
theorem mM_f {H : Hou} {S : Mud} {b : Nat} {σ s : JH} {P : Nat → Nat → Prop} (n8 : Hn H ≤ 8) (f : Fi P σ s) (hP : ∀ j, b ≤ j → j < b + 91 → j ≠ b + 1 → ¬ P 218 j) (q : mM H S b σ) : mM H S b s := by
  obtain ⟨q1, q2, q3, q4, q5, q6⟩ := q
  have e : ∀ j, b ≤ j → j < b + 91 → j ≠ b + 1 → s.2.1 218 j = σ.2.1 218 j := fun j h1 h2 h3 => f.2.2 218 j (hP j h1 h2 h3)
  exact ⟨(e _ (by omega) (by omega) (by omega)).trans q1, (e _ (by omega) (by omega) (by omega)).trans q2, fun k hk => (e _ (by omega) (by omega) (by omega)).trans (q3 k hk), fun k hk => (e _ (by omega) (by omega) (by omega)).trans (q4 k hk), fun k hk => (e _ (by omega) (by omega) (by omega)).trans (q5 k hk), fun k hk i hi => (e _ (by omega) (by omega) (by omega)).trans (q6 k hk i hi)⟩
section MQ
variable {H : Hou} {S : Mud} {b k e i : Nat} {σ : JH} {x y z : Int32}
theorem m_bodies (hl : Ly σ) (hH : mH H σ) : q_Md_bodies [.ref 204] σ = some (some (.int (nI (Hn H))), σ) := WE_o (w_Md_bodies hl hH.1)
theorem m_isBody (hl : Ly σ) (hH : mH H σ) : q_Md_isBody [.ref 204, .int x] σ = some (some (.int (bI (isB (Hn H) x))), σ) := by
  refine WE_o (w_Md_isBody x hl ?_)
  have q := isB_if (n := Hn H) (x := x) (K := fun y => y = bI (isB (Hn H) x)) rfl
  by_cases c : x < 0
  · rw [if_pos c] at q ⊢
    exact q
  · rw [if_neg c] at q ⊢
    exact WE_i (m_bodies hl hH) q
theorem m_isThere (hl : Ly σ) (n8 : Hn H ≤ 8) (hM : mM H S b σ) (hb : b + 91 ≤ 2484) (hk : k < Hn H) : q_Md_isThere [.ref 204, .int (nI b), .int (nI k)] σ = some (some (.int (bI (th S k))), σ) := by
  refine WE_o (w_Md_isThere _ _ hl ?_)
  simp (disch := omega) only [hM.2.2.2.2.1 k hk, nI_add, nI_mulN, nI_subN, mI_add, inb_nI, cl_nI, nI_eqN, nI_leN, nI_ltN, nI_eq0, nI_le0, nI_lt0, nI_0le, nI_0lt, nI_m1, mI_lt0, mI_eq0, bI_0, bI_n0, bI_1]
  cases th S k <;> exact ⟨by omega, rfl⟩
theorem m_bodyOf {w : Nat} (hl : Ly σ) (hk : k < 8) (hw : w < 4) : q_Md_bodyOf [.ref 204, .int (nI k), .int (nI w)] σ = some (some (.int (σ.2.1 210 (8 + 4 * k + w))), σ) := by
  refine WE_o (w_Md_bodyOf _ _ hl ?_)
  simp (disch := omega) only [and_true, nI_add, nI_mulN, nI_subN, mI_add, inb_nI, cl_nI, nI_eqN, nI_leN, nI_ltN, nI_eq0, nI_le0, nI_lt0, nI_0le, nI_0lt, nI_m1, mI_lt0, mI_eq0, bI_0, bI_n0, bI_1]
  omega
theorem m_kind (hl : Ly σ) (n8 : Hn H ≤ 8) (hH : mH H σ) (hk : k < Hn H) : q_Md_bodyOf [.ref 204, .int (nI k), .int (nI 0)] σ = some (some (.int (nI (Hk H k))), σ) := by
  rw [m_bodyOf hl (by omega) (by omega), Nat.add_zero, hH.2.2.1 k hk]
theorem m_new (hl : Ly σ) (n8 : Hn H ≤ 8) (hH : mH H σ) (hk : k < Hn H) : q_Md_bodyOf [.ref 204, .int (nI k), .int (nI 1)] σ = some (some (.int (bI (Hw H k))), σ) := by
  rw [m_bodyOf hl (by omega) (by omega), hH.2.2.2.1 k hk]
theorem m_price (hl : Ly σ) (n8 : Hn H ≤ 8) (hH : mH H σ) (hk : k < Hn H) : q_Md_bodyOf [.ref 204, .int (nI k), .int (nI 2)] σ = some (some (.int (nI (Hp H k))), σ) := by
  rw [m_bodyOf hl (by omega) (by omega), hH.2.2.2.2.1 k hk]
theorem m_mind0 (hl : Ly σ) (n8 : Hn H ≤ 8) (hH : mH H σ) (hk : k < Hn H) : q_Md_bodyOf [.ref 204, .int (nI k), .int (nI 3)] σ = some (some (.int (nI (Hm H k))), σ) := by
  rw [m_bodyOf hl (by omega) (by omega), hH.2.2.2.2.2.1 k hk]
/-- the model's own limit: one who is ill is asked for elsewhere -/
def lim0 (H : Hou) (k : Nat) : Nat := if Hk H k = 2 ∧ 2 < Ho H then 2 else Ho H
theorem lim0_lim (h : Hk H k ≠ 1) : lim0 H k = lim H k := by
  unfold lim0 lim
  rw [if_neg h]
  by_cases c : Hk H k = 2
  · rw [if_pos c]
    by_cases d : 2 < Ho H
    · rw [if_pos ⟨c, d⟩]; omega
    · rw [if_neg (fun q => d q.2)]; omega
  · rw [if_neg (fun q => c q.1), if_neg c]
theorem m_limitOf (hl : Ly σ) (hW : WH H) (hH : mH H σ) (hk : k < Hn H) : q_Md_limitOf [.ref 204, .int (nI k)] σ = some (some (.int (nI (lim0 H k))), σ) := by
  have n8 := hW.1
  have b1 := hW.2.1
  have b2 := hW.2.2.2.1 k hk
  refine WE_o (w_Md_limitOf _ hl ?_)
  refine WE_i (m_kind hl n8 hH hk) ?_
  simp (disch := omega) only [hH.2.1, nI_add, nI_mulN, nI_subN, mI_add, inb_nI, cl_nI, nI_eqN, nI_leN, nI_ltN, nI_eq0, nI_le0, nI_lt0, nI_0le, nI_0lt, nI_m1, mI_lt0, mI_eq0, bI_0, bI_n0, bI_1]
  unfold lim0
  by_cases c : Hk H k = 2
  · rw [if_pos c]
    by_cases d : 2 < Ho H
    · rw [if_neg (by omega), if_pos ⟨c, d⟩]
    · rw [if_pos (by omega), if_neg (fun q => d q.2)]
  · rw [if_neg c, if_neg (fun q => c q.1)]
theorem m_mayTurn (hl : Ly σ) (hW : WH H) (hS : WS H S) (hH : mH H σ) (hM : mM H S b σ) (hb : b + 91 ≤ 2484) (hk : k < Hn H) (he : e < Hn H) : q_Md_mayTurn [.ref 204, .int (nI b), .int (nI k), .int (nI e)] σ = some (some (.int (bI (mayT H S k e))), σ) := by
  have n8 := hW.1
  have b1 := hW.2.2.2.1 k hk
  have b2 := hW.2.2.2.1 e he
  have b3 := hS.2.2.2.1 k hk
  have b4 := hS.2.2.2.1 e he
  have b5 := hW.2.1
  have b6 : lim0 H k < 10 := by unfold lim0; split <;> omega
  have b7 : lim0 H e < 10 := by unfold lim0; split <;> omega
  refine WE_o (w_Md_mayTurn _ _ _ hl ?_)
  simp (disch := omega) only [nI_eqN]
  unfold mayT opn
  by_cases c0 : k = e
  · rw [if_pos c0]; simp [c0, bI_false]
  rw [if_neg c0]
  refine WE_i (m_isThere hl n8 hM hb hk) ?_
  cases c1 : th S k
  · rw [if_pos (by decide)]; simp [bI_false]
  rw [if_neg (by decide)]
  refine WE_i (m_isThere hl n8 hM hb he) ?_
  cases c2 : th S e
  · rw [if_pos (by decide)]; simp [bI_false]
  rw [if_neg (by decide)]
  refine WE_i (m_kind hl n8 hH hk) ?_
  simp (disch := omega) only [nI_eqN]
  by_cases c3 : Hk H k = 1
  · rw [if_pos c3, show lim H k = 0 by unfold lim; rw [if_pos c3]]; simp [bI_false]
  rw [if_neg c3]
  refine WE_i (m_kind hl n8 hH he) ?_
  simp (disch := omega) only [nI_eqN]
  by_cases c4 : Hk H e = 1
  · rw [if_pos c4, show lim H e = 0 by unfold lim; rw [if_pos c4]]; simp [bI_false]
  rw [if_neg c4]
  simp (disch := omega) only [hH.2.2.2.2.2.2.2 k hk e he, hM.2.2.2.2.2 k hk e he, hM.2.2.2.1 k hk, hM.2.2.2.1 e he, nI_add, nI_mulN, nI_subN, mI_add, inb_nI, cl_nI, nI_eqN, nI_leN, nI_ltN, nI_eq0, nI_le0, nI_lt0, nI_0le, nI_0lt, nI_m1, mI_lt0, mI_eq0, bI_0, bI_n0, bI_1]
  refine ⟨by omega, ?_⟩
  cases c5 : Hx H k e
  rotate_left
  · rw [if_neg (by decide)]; simp [bI_false]
  rw [if_pos rfl]
  refine ⟨by omega, ?_⟩
  cases c6 : me S k e
  rotate_left
  · rw [if_neg (by decide)]; simp [bI_false]
  rw [if_pos rfl]
  refine ⟨by omega, ?_⟩
  refine WE_i (m_limitOf hl hW hH hk) ?_
  simp (disch := omega) only [nI_leN]
  rw [lim0_lim c3]
  by_cases c7 : lim H k ≤ sa S k
  · rw [if_pos c7, decide_eq_false (by omega : ¬ sa S k < lim H k)]; simp [bI_false]
  rw [if_neg c7]
  refine ⟨by omega, ?_⟩
  refine WE_i (m_limitOf hl hW hH he) ?_
  simp (disch := omega) only [nI_leN]
  rw [lim0_lim c4]
  by_cases c8 : lim H e ≤ sa S e
  · rw [if_pos c8, decide_eq_false (by omega : ¬ sa S e < lim H e)]; simp [bI_false]
  rw [if_neg c8, decide_eq_true (by omega : sa S k < lim H k), decide_eq_true (by omega : sa S e < lim H e)]
  simp [c0, bI_true]
theorem m_isWrong (hl : Ly σ) (hW : WH H) (hS : WS H S) (hH : mH H σ) (hM : mM H S b σ) (hb : b + 91 ≤ 2484) (hk : k < Hn H) : q_Md_isWrong [.ref 204, .int (nI b), .int (nI k)] σ = some (some (.int (bI (ast H S k))), σ) := by
  have n8 := hW.1
  have b1 := hW.2.2.2.1 k hk
  have b2 := hS.1.1 k hk
  refine WE_o (w_Md_isWrong _ _ hl ?_)
  unfold ast
  refine WE_i (m_isThere hl n8 hM hb hk) ?_
  cases c1 : th S k
  · rw [if_pos (by decide), hS.2.1 k hk c1]; simp [bI_false]
  rw [if_neg (by decide)]
  refine WE_i (m_kind hl n8 hH hk) ?_
  simp (disch := omega) only [hM.2.2.1 k hk, nI_add, nI_mulN, nI_subN, mI_add, inb_nI, cl_nI, nI_eqN, nI_leN, nI_ltN, nI_eq0, nI_le0, nI_lt0, nI_0le, nI_0lt, nI_m1, mI_lt0, mI_eq0, bI_0, bI_n0, bI_1]
  by_cases c2 : Hk H k = 3
  · rw [if_pos c2]; simp [c2, bI_false]
  rw [if_neg c2]
  refine ⟨by omega, ?_⟩
  by_cases c3 : mi S k = k
  · rw [if_pos c3]; simp [c3, bI_false]
  · rw [if_neg c3]; simp [c2, c3, bI_true]
theorem m_wrongs (hl : Ly σ) (hW : WH H) (hS : WS H S) (hH : mH H σ) (hM : mM H S b σ) (hb : b + 91 ≤ 2484) : q_Md_wrongs [.ref 204, .int (nI b)] σ = some (some (.int (nI (wrs H S))), σ) := by
  have n8 := hW.1
  refine WE_o (w_Md_wrongs _ hl (Lp2_up (fun i => nI (cntB (ast H S) i)) (fun i => nI i) (Hn H) ⟨rfl, rfl⟩ (fun i hi X hX => ?_) (fun X => ?_)))
  · refine WE_i (m_bodies hl hH) ?_
    simp (disch := omega) only [nI_leN]
    rw [if_neg (by omega)]
    refine WE_i (m_isWrong hl hW hS hH hM hb hi) ?_
    rw [cntB_succ, ← nI_add i 1] at hX
    simp only [bI_0]
    cases c : ast H S i
    · rw [if_pos rfl, nI_add]
      rw [c] at hX
      exact hX
    · rw [if_neg (by decide), nI_add]
      rw [c] at hX
      exact hX
  · refine WE_i (m_bodies hl hH) ?_
    simp (disch := omega) only [nI_leN]
    rw [if_pos (Nat.le_refl _)]
    rfl
theorem m_mayRound (hl : Ly σ) (hW : WH H) (hS : WS H S) (hH : mH H σ) (hM : mM H S b σ) (hb : b + 91 ≤ 2484) (hk : k < Hn H) (he : e < Hn H) (hi : i < Hn H) : q_Md_mayRound [.ref 204, .int (nI b), .int (nI k), .int (nI e), .int (nI i)] σ = some (some (.int (bI (mayR H S k e i))), σ) := by
  have n8 := hW.1
  have b1 := hS.2.2.2.1 k hk
  have b2 := hS.2.2.2.1 e he
  have b3 := hS.2.2.2.1 i hi
  have b5 := hW.2.1
  have b6 : ∀ j, lim0 H j < 10 := fun j => by unfold lim0; split <;> omega
  have b7 := b6 k
  have b8 := b6 e
  have b9 := b6 i
  have kd : ∀ k e, mayT H S k e = true → Hk H k ≠ 1 ∧ Hk H e ≠ 1 := by
    intro k e h
    unfold mayT opn lim at h
    simp only [Bool.and_eq_true, decide_eq_true_eq] at h
    obtain ⟨⟨⟨⟨⟨_, l1⟩, _, l2⟩, _⟩, _⟩, _⟩ := h
    constructor
    · intro q; rw [if_pos q] at l1; omega
    · intro q; rw [if_pos q] at l2; omega
  refine WE_o (w_Md_mayRound _ _ _ _ hl ?_)
  unfold mayR
  refine WE_i (m_mayTurn hl hW hS hH hM hb hk he) ?_
  cases c1 : mayT H S k e
  · rw [if_pos (by decide)]; rfl
  rw [if_neg (by decide)]
  refine WE_i (m_mayTurn hl hW hS hH hM hb he hi) ?_
  cases c2 : mayT H S e i
  · rw [if_pos (by decide)]; rfl
  rw [if_neg (by decide)]
  refine WE_i (m_mayTurn hl hW hS hH hM hb hk hi) ?_
  cases c3 : mayT H S k i
  · rw [if_pos (by decide)]; rfl
  rw [if_neg (by decide)]
  simp (disch := omega) only [hM.2.2.2.1 k hk, hM.2.2.2.1 e he, hM.2.2.2.1 i hi, nI_add, nI_mulN, nI_subN, mI_add, inb_nI, cl_nI, nI_eqN, nI_leN, nI_ltN, nI_eq0, nI_le0, nI_lt0, nI_0le, nI_0lt, nI_m1, mI_lt0, mI_eq0, bI_0, bI_n0, bI_1]
  refine ⟨by omega, ?_⟩
  refine WE_i (m_limitOf hl hW hH hk) ?_
  simp (disch := omega) only [nI_ltN]
  rw [lim0_lim (kd _ _ c1).1]
  unfold sit2
  by_cases d1 : lim H k < sa S k + 2
  · rw [if_pos d1, decide_eq_false (by omega : ¬ sa S k + 2 ≤ lim H k)]; simp [bI_false]
  rw [if_neg d1, decide_eq_true (by omega : sa S k + 2 ≤ lim H k)]
  refine ⟨by omega, ?_⟩
  refine WE_i (m_limitOf hl hW hH he) ?_
  simp (disch := omega) only [nI_ltN]
  rw [lim0_lim (kd _ _ c1).2]
  by_cases d2 : lim H e < sa S e + 2
  · rw [if_pos d2, decide_eq_false (by omega : ¬ sa S e + 2 ≤ lim H e)]; simp [bI_false]
  rw [if_neg d2, decide_eq_true (by omega : sa S e + 2 ≤ lim H e)]
  refine ⟨by omega, ?_⟩
  refine WE_i (m_limitOf hl hW hH hi) ?_
  simp (disch := omega) only [nI_ltN]
  rw [lim0_lim (kd _ _ c2).2]
  by_cases d3 : lim H i < sa S i + 2
  · rw [if_pos d3, decide_eq_false (by omega : ¬ sa S i + 2 ≤ lim H i)]; simp [bI_false]
  rw [if_neg d3, decide_eq_true (by omega : sa S i + 2 ≤ lim H i)]
  rfl
theorem m_mayFetch (hl : Ly σ) (hW : WH H) (hH : mH H σ) (hM : mM H S b σ) (hb : b + 91 ≤ 2484) (hk : k < Hn H) : q_Md_mayFetch [.ref 204, .int (nI b), .int (nI k)] σ = some (some (.int (bI (mayF H S k))), σ) := by
  have n8 := hW.1
  refine WE_o (w_Md_mayFetch _ _ hl ?_)
  unfold mayF
  refine WE_i (m_new hl n8 hH hk) ?_
  cases c1 : Hw H k
  · rw [if_neg (by decide)]; rfl
  rw [if_pos (by decide)]
  refine WE_i (m_isThere hl n8 hM hb hk) ?_
  cases th S k <;> decide
theorem m_within {lo hi : Int32} (hl : Ly σ) : q_Md_within [.int x, .int lo, .int hi] σ = some (some (.int (bI (decide (¬ x < lo ∧ ¬ hi < x)))), σ) := by
  refine WE_o (w_Md_within _ _ _ hl ?_)
  by_cases c1 : x < lo
  · rw [if_pos c1, decide_eq_false (fun q => q.1 c1)]; rfl
  · rw [if_neg c1]
    by_cases c2 : hi < x
    · rw [if_pos c2, decide_eq_false (fun q => q.2 c2)]; rfl
    · rw [if_neg c2, decide_eq_true ⟨c1, c2⟩]; rfl
end MQ

/-! ===== pair: the class ===== -/
section PA
variable {Z : Ste} {h pl : Nat} {s t σ : JH}
theorem lp_bit {f : Nat → Bool} {p : Nat} (hp : p < 64) : (lN (msk f 64) >>> ((nI p).toInt64 &&& 63)) &&& 1 = if f p = true then 1 else 0 := by
  have hs : ∀ p, p < 64 → (((nI p).toInt64 &&& 63).toBitVec.smod 64).toNat = p := by decide +kernel
  have h2 : ∀ i, i < 64 → (1 : Int64).toBitVec.getLsbD i = decide (i = 0) := by decide +kernel
  have h3 : ∀ i, i < 64 → (0 : Int64).toBitVec.getLsbD i = false := by decide +kernel
  refine i64_ext (fun i hi => ?_)
  rw [Int64.toBitVec_and, BitVec.getLsbD_and, h2 i hi]
  have h1 : ((lN (msk f 64)) >>> ((nI p).toInt64 &&& 63)).toBitVec.getLsbD i = (BitVec.sshiftRight (lN (msk f 64)).toBitVec (((nI p).toInt64 &&& 63).toBitVec.smod 64).toNat).getLsbD i := rfl
  rw [h1, hs p hp, BitVec.getLsbD_sshiftRight]
  by_cases c : i = 0
  · subst c
    rw [if_pos (by omega), lN_bit, msk_tb]
    cases hf : f p
    · rw [if_neg (by decide), h3 0 hi]; simp [hf]
    · rw [if_pos rfl, h2 0 hi]; simp [hf, hp]
  · rw [decide_eq_false c, Bool.and_false]
    cases hf : f p
    · rw [if_neg (by decide), h3 i hi]
    · rw [if_pos rfl, h2 i hi, decide_eq_false c]
theorem w_Ct_pair (p1 p2 p3 : Int32) (hl : Ly σ) {K : Nat → JS → Prop}
    (H : if p1 < nI 1 then K 37 ([some (.ref 64), some (.int p1), some (.int p2), some (.int p3), none], [], σ) else if nI 3 < p1 then K 37 ([some (.ref 64), some (.int p1), some (.int p2), some (.int p3), none], [], σ) else
      WE q_Ho_has [.ref (rf σ 64 9), .int p2] σ (fun x1 => if x1 = 0 then K 37 ([some (.ref 64), some (.int p1), some (.int p2), some (.int p3), none], [], σ) else
      WE q_Ho_has [.ref (rf σ 64 9), .int p3] σ (fun x2 => if x2 = 0 then K 37 ([some (.ref 64), some (.int p1), some (.int p2), some (.int p3), none], [], σ) else
      if p2 = p3 then K 37 ([some (.ref 64), some (.int p1), some (.int p2), some (.int p3), none], [], σ) else
      WM q_Ta_countRows [.ref 107, .ref 114, .int p1, .int (nI 0)] σ (kV fun s => Ly s ∧ (if s.2.1 107 5 = 0 then K 71 ([some (.ref 64), some (.int p1), some (.int p2), some (.int p3), none], [], s) else
      WE q_Ct_pairOf [.int p2, .int p3] s (fun x3 => if lg_cmp ((s.2.2.1 107 6 >>> (x3.toInt64 &&& 63)) &&& 1) 1 = 0 then K 1000000 ([some (.ref 64), some (.int p1), some (.int p2), some (.int p3), some (.int x3)], [.int (nI 2)], s) else
        if lg_cmp ((s.2.2.1 107 7 >>> (x3.toInt64 &&& 63)) &&& 1) 1 = 0 then K 1000000 ([some (.ref 64), some (.int p1), some (.int p2), some (.int p3), some (.int x3)], [.int (nI 1)], s) else K 1000000 ([some (.ref 64), some (.int p1), some (.int p2), some (.int p3), some (.int x3)], [.int (nI 0)], s))))))) :
    WP qp_Ct_pair ([some (.ref 64), some (.int p1), some (.int p2), some (.int p3), none], [], σ) K := by
  unfold qp_Ct_pair
  refine wp_sq (wp_if (wo_iload rfl (wo_ipush (c := nI 1) rfl (wn_nil (ti_8 H (fun H => kk_mis rfl H) (fun H => kk_hit ?_))))))
  refine wp_sq (wp_if (wo_iload rfl (wo_ipush (c := nI 3) rfl (wn_nil (ti_10 H (fun H => kk_mis rfl H) (fun H => kk_hit ?_))))))
  refine wp_sq (wp_if (wn_jn (wo_aload rfl (wo_getR (k := 9) (ls_64 hl) rfl (lr_64_9 hl) (wo_iload rfl (wn_nil (wc_vE [.int p2, .ref (rf σ 64 9)] (sh_Ho hl (kd_64_9 hl)) rfl rfl rfl H fun x1 H => ti_0 H (fun H => kk_mis rfl H) (fun H => kk_hit ?_))))))))
  refine wp_sq (wp_if (wn_jn (wo_aload rfl (wo_getR (k := 9) (ls_64 hl) rfl (lr_64_9 hl) (wo_iload rfl (wn_nil (wc_vE [.int p3, .ref (rf σ 64 9)] (sh_Ho hl (kd_64_9 hl)) rfl rfl rfl H fun x2 H => ti_0 H (fun H => kk_mis rfl H) (fun H => kk_hit ?_))))))))
  refine wp_sq (wp_if (wo_iload rfl (wo_iload rfl (wn_nil (ti_7 H (fun H => kk_mis rfl H) (fun H => kk_hit ?_))))))
  refine wp_sq (wp_if (wn_jn (wo_aload rfl (wo_getR (k := 4) (ls_64 hl) rfl (lr_64_4 hl) (wo_aload rfl (wo_getR (k := 5) (ls_64 hl) rfl (lr_64_5 hl) (wo_iload rfl (wo_ipush (c := nI 0) rfl (wn_nil (wn_jn (wc_vV [.int (nI 0), .int p1, .ref 114, .ref 107] (ls_107 hl) rfl rfl rfl H fun s1 ⟨hl1, H⟩ => wo_aload rfl (wo_getR (k := 4) (ls_64 hl1) rfl (lr_64_4 hl1) (wo_getI (k := 5) (ls_107 hl1) rfl (wn_nil (ti_1 H (fun H => kk_mis rfl H) (fun H => kk_hit ?_))))))))))))))))
  refine wp_sq (wp_sq (wp_if (wn_jn (wo_iload rfl (wo_iload rfl (wn_nil (wn_jn (wc_sE [.int p3, .int p2] rfl rfl rfl H fun x3 H => wo_istore rfl rfl (wo_aload rfl (wo_getR (k := 4) (ls_64 hl1) rfl (lr_64_4 hl1) (wo_getJ (k := 6) (ls_107 hl1) rfl (wo_iload rfl (wo_lshr (wo_lpush (X := 1) rfl (wo_land (wo_lpush (X := 1) rfl (wo_lcmp (wn_nil (ti_1 H (fun H => kk_hit (wp_rt (wo_ipush (c := nI 2) rfl (wn_nil ⟨rfl, kk_mis rfl H⟩)))) (fun H => kk_mis rfl (kk_hit ?_)))))))))))))))))))))
  exact wp_sq (wp_sq (wp_sq (wp_if (wo_aload rfl (wo_getR (k := 4) (ls_64 hl1) rfl (lr_64_4 hl1) (wo_getJ (k := 7) (ls_107 hl1) rfl (wo_iload rfl (wo_lshr (wo_lpush (X := 1) rfl (wo_land (wo_lpush (X := 1) rfl (wo_lcmp (wn_nil (ti_1 H (fun H => kk_hit (wp_go (wo_ipush (c := nI 1) rfl (wn_nil (kk_mis rfl (kk_hit (wp_rt (wn_nil ⟨rfl, H⟩)))))))) (fun H => kk_mis rfl (kk_hit (wp_go (wo_ipush (c := nI 0) rfl (wn_nil (kk_hit (wp_rt (wn_nil ⟨rfl, H⟩))))))))))))))))))))))
/-- what cannot be asked -/
def pBad (Z : Ste) (p1 p2 p3 : Int32) : Prop := decide (¬ p1 < nI 1 ∧ ¬ nI 3 < p1) = false ∨ isB (Hn (tH Z)) p2 = false ∨ isB (Hn (tH Z)) p3 = false ∨ p2 = p3
theorem pCases (hZ : WZ Z) (p1 p2 p3 : Int32) : pBad Z p1 p2 p3 ∨ ∃ d i j, 1 ≤ d ∧ d ≤ 3 ∧ p1 = nI d ∧ i < Hn (tH Z) ∧ j < Hn (tH Z) ∧ i ≠ j ∧ p2 = nI i ∧ p3 = nI j := by
  rcases rng_1 (m := 3) (by omega) p1 with ⟨d, h1, h3, rfl⟩ | ⟨g1, g2⟩
  · cases hi : isB (Hn (tH Z)) p2
    · exact Or.inl (Or.inr (Or.inl hi))
    · cases hj : isB (Hn (tH Z)) p3
      · exact Or.inl (Or.inr (Or.inr (Or.inl hj)))
      · by_cases c : p2 = p3
        · exact Or.inl (Or.inr (Or.inr (Or.inr c)))
        · obtain ⟨i, i1, rfl⟩ := isB_t hZ.1.1 hi
          obtain ⟨j, j1, rfl⟩ := isB_t hZ.1.1 hj
          exact Or.inr ⟨d, i, j, h1, h3, rfl, i1, j1, fun q => c (by rw [q]), rfl, rfl⟩
  · exact Or.inl (Or.inl g2)
theorem c_pairNo {p1 p2 p3 : Int32} (z : Rc Z h pl σ) (hb : pBad Z p1 p2 p3) : WP qp_Ct_pair ([some (.ref 64), some (.int p1), some (.int p2), some (.int p3), none], [], σ) (fun t S => t = 37 ∧ S.2.1 = [] ∧ S.2.2 = σ) := by
  refine w_Ct_pair p1 p2 p3 z.1.1 ?_
  by_cases c1 : p1 < nI 1
  · rw [if_pos c1]; exact ⟨rfl, rfl, rfl⟩
  · rw [if_neg c1]
    by_cases c2 : nI 3 < p1
    · rw [if_pos c2]; exact ⟨rfl, rfl, rfl⟩
    · rw [if_neg c2, z.1.2.2.2.1]
      refine WE_i (c_has z.1.1 z.1.2.1 (Rc_H z)) ?_
      cases hi : isB (Hn (tH Z)) p2
      · rw [if_pos (by decide)]; exact ⟨rfl, rfl, rfl⟩
      · rw [if_neg (by decide)]
        refine WE_i (c_has z.1.1 z.1.2.1 (Rc_H z)) ?_
        cases hj : isB (Hn (tH Z)) p3
        · rw [if_pos (by decide)]; exact ⟨rfl, rfl, rfl⟩
        · rw [if_neg (by decide)]
          rcases hb with q | q | q | q
          · rw [decide_eq_true ⟨c1, c2⟩] at q; cases q
          · rw [hi] at q; cases q
          · rw [hj] at q; cases q
          · rw [if_pos q]; exact ⟨rfl, rfl, rfl⟩
/-- the answer out of what was counted -/
def prA (st : Rst) (p : Nat) : Int32 := if st.2.1 p = st.1 then nI 2 else if 0 < st.2.1 p then nI 1 else nI 0
def prP (i j : Nat) : Nat := 8 * min i j + max i j
theorem c_pairYes {d i j : Nat} (hZ : WZ Z) (z : Rc Z h pl σ) (h1 : 1 ≤ d) (h3 : d ≤ 3) (hi : i < Hn (tH Z)) (hj : j < Hn (tH Z)) (hij : i ≠ j) :
    WP qp_Ct_pair ([some (.ref 64), some (.int (nI d)), some (.int (nI i)), some (.int (nI j)), none], [], σ) (fun t S => Rc Z h pl S.2.2 ∧ Fg (fun b _ => 64 ≤ b ∧ b < 204) σ S.2.2 ∧ (((rwT Z d).1 = 0 ∧ t = 71 ∧ S.2.1 = []) ∨ (¬ (rwT Z d).1 = 0 ∧ t = 1000000 ∧ S.2.1 = [.int (prA (rwT Z d) (prP i j))]))) := by
  have n8 := hZ.1.1
  have hle := rwT_le hZ h3
  refine w_Ct_pair (nI d) (nI i) (nI j) z.1.1 ?_
  rw [if_neg (by rw [nI_ltN (by omega) (by omega)]; omega), if_neg (by rw [nI_ltN (by omega) (by omega)]; omega), z.1.2.2.2.1]
  refine WE_i (c_has z.1.1 z.1.2.1 (Rc_H z)) ?_
  rw [isB_n n8 hi, if_neg (by decide)]
  refine WE_i (c_has z.1.1 z.1.2.1 (Rc_H z)) ?_
  rw [isB_n n8 hj, if_neg (by decide), if_neg (by rw [nI_eqN (by omega) (by omega)]; exact hij)]
  refine WM_V (c_countRows (mnd := false) hZ z h1 h3) fun s1 ⟨l1, z1, f1, R1, _⟩ => ⟨l1, ?_⟩
  obtain ⟨q1, q2, -, -, -⟩ := rw_rel hZ false d
  obtain ⟨t1, t2, t3, -, -⟩ := R1
  rw [q1] at t1
  by_cases c : (rwT Z d).1 = 0
  · rw [if_pos (by rw [t1, c]; rfl)]
    exact ⟨z1, f1, Or.inl ⟨c, rfl, rfl⟩⟩
  · rw [if_neg (by rw [t1, nI_eq0 (by omega)]; exact c)]
    have hp : prP i j < 64 := by unfold prP; omega
    have hpo : q_Ct_pairOf [.int (nI i), .int (nI j)] s1 = some (some (.int (nI (prP i j))), s1) := by
      refine WE_o (w_Ct_pairOf _ _ l1 ?_)
      refine WE_i (j_min l1 (by omega) (by omega)) ?_
      refine WE_i (j_max l1 (by omega) (by omega)) ?_
      rw [nI_mulN, nI_add]
      rfl
    refine WE_i hpo ?_
    rw [t2, t3, lp_bit hp, lp_bit hp]
    obtain ⟨a, b, e⟩ := q2 (prP i j)
    have hv : ∀ v, v = prA (rwT Z d) (prP i j) → Rc Z h pl s1 ∧ Fg (fun b _ => 64 ≤ b ∧ b < 204) σ s1 ∧ (((rwT Z d).1 = 0 ∧ (1000000 : Nat) = 71 ∧ [Value.int v] = []) ∨ (¬ (rwT Z d).1 = 0 ∧ (1000000 : Nat) = 1000000 ∧ [Value.int v] = [.int (prA (rwT Z d) (prP i j))])) := fun v hv => ⟨z1, f1, Or.inr ⟨c, rfl, by rw [hv]⟩⟩
    unfold prA at hv
    by_cases c1 : (rwT Z d).2.1 (prP i j) = (rwT Z d).1
    · rw [a.mpr c1, if_pos rfl, if_pos (by decide)]
      exact hv _ (by rw [if_pos c1])
    · rw [if_neg (fun q => c1 (a.mp q)), if_neg (by decide)]
      by_cases c2 : 0 < (rwT Z d).2.1 (prP i j)
      · rw [b.mpr c2, if_pos rfl, if_pos (by decide)]
        exact hv _ (by rw [if_neg c1, if_pos c2])
      · rw [if_neg (fun q => c2 (b.mp q)), if_neg (by decide)]
        exact hv _ (by rw [if_neg c1, if_neg c2])
end PA

section RG
variable {Z : Ste} {x : Int32} {h pl : Nat} {s t σ : JH}
theorem c_ringsOf (hZ : WZ Z) (z : Rc Z h pl σ) : WM q_Ri_read [.ref 97, .ref 114] σ (kV fun s => Ly s ∧ Rc Z h pl s ∧ Fg (fun b _ => 64 ≤ b ∧ b < 204) σ s ∧ cRg (tH Z) (tF Z).1 s) := by
  refine WM_V (c_ringRead hZ.1 hZ.2.1 (Rc_Cs z)) fun s1 ⟨C1, f1, R1⟩ => ?_
  obtain ⟨r1, r2⟩ := Rc_ok z (Fi_g f1) C1.1 (fun b j q => by unfold PRi at q; unfold PcT; omega)
  exact ⟨C1.1, r1, r2, R1⟩
theorem m_ringsOf (hZ : WZ Z) (z : Rm Z σ) : WM q_Md_findRings [.ref 204] σ (kV fun s => Ly s ∧ Rm Z s ∧ Fg (fun b _ => 204 ≤ b ∧ b < 229) σ s ∧ mRg (tH Z) (tF Z).1 s) := by
  refine WM_V (m_findRings hZ.1 hZ.2.1 z.1 (Rm_H z) (Rm_M z)) fun s1 ⟨l1, f1, R1⟩ => ?_
  obtain ⟨r1, r2⟩ := Rm_ok hZ z (Fi_g f1) l1 (fun b j q => by unfold PRm at q; unfold PmT; omega)
  exact ⟨l1, r1, r2, R1⟩
theorem rg_bd (hZ : WZ Z) : (rgF (mi (tF Z).1) (Hn (tH Z)) (Hn (tH Z))).2.2.2 < 9 := by
  have n8 := hZ.1.1
  obtain ⟨n1, n2, n3, n4⟩ := rgF_len hZ.2.1.1 n8 (Hn (tH Z)) (Nat.le_refl _)
  have nc := cntB_le (wkd (mi (tF Z).1) (Hn (tH Z))) (Hn (tH Z))
  omega
theorem a_rings (hZ : WZ Z) : Agr q_Ct_rings [.ref 64, .int x] q_Md_rings [.ref 204, .int x] Z := by
  have hb := rg_bd hZ
  rcases rng_c (m := 2) (by omega) x with ⟨d, hd, rfl⟩ | ⟨g1, g2⟩
  · generalize hR : rgF (mi (tF Z).1) (Hn (tH Z)) (Hn (tH Z)) = R at hb
    refine Agr_q (if d = 0 then nI R.2.1 else if d = 1 then nI R.2.2.1 else nI (R.2.2.2 % 2)) hZ (fun h pl σ z => w_Ct_rings _ z.1.1 ?_) (fun σ z => w_Md_rings _ z.1 (lt_thr hZ z fun s z' f' => ?_))
    · refine WM_V (c_ringsOf hZ z) fun s1 ⟨l1, z1, f1, R1⟩ => ⟨l1, ?_⟩
      obtain ⟨_, _, q3, q4, q5⟩ := R1
      rw [hR] at q3 q4 q5
      by_cases d0 : d = 0
      · rw [if_pos (by rw [d0]), if_pos d0]; exact ⟨q3, z1, f1⟩
      rw [if_neg (by rw [nI_eqN (by omega) (by omega)]; exact d0), if_neg d0]
      by_cases d1 : d = 1
      · rw [if_pos (by rw [d1]), if_pos d1]; exact ⟨q4, z1, f1⟩
      rw [if_neg (by rw [nI_eqN (by omega) (by omega)]; exact d1), if_neg d1, if_pos (by rw [show d = 2 by omega])]
      exact ⟨by rw [q5, odd_9 hb], z1, f1⟩
    · refine WE_i (yes_m z'.1 hd (by omega)) ?_
      rw [if_neg (by decide)]
      refine WM_V (m_ringsOf hZ z') fun s1 ⟨l1, z1, f1, R1⟩ => ⟨l1, ?_⟩
      obtain ⟨_, q3, q4, q5⟩ := R1
      rw [hR] at q3 q4 q5
      have f1 := Fg_t f' f1
      by_cases d0 : d = 0
      · rw [if_pos (by rw [d0]; rfl), if_pos d0]; exact ⟨q3, z1, f1⟩
      rw [if_neg (by rw [nI_eq0 (by omega)]; exact d0), if_neg d0]
      by_cases d1 : d = 1
      · rw [if_pos (by rw [d1]), if_pos d1]; exact ⟨q4, z1, f1⟩
      rw [if_neg (by rw [nI_eqN (by omega) (by omega)]; exact d1), if_neg d1]
      exact ⟨q5, z1, f1⟩
  · refine Agr_q (mI 1) hZ (fun h pl σ z => w_Ct_rings _ z.1.1 ?_) (fun σ z => w_Md_rings _ z.1 (lt_thr hZ z fun s z' f' => WE_i (m_within z'.1) ?_))
    · refine WM_V (c_ringsOf hZ z) fun s1 ⟨l1, z1, f1, _⟩ => ⟨l1, ?_⟩
      have nn : ∀ j, j ≤ 2 → ¬ x = nI j := by
        intro j hj q
        subst q
        rcases g1 with g | ⟨_, g⟩
        · rw [nI_lt0 (by omega)] at g; exact g
        · rw [nI_ltN (by omega) (by omega)] at g; omega
      rw [if_neg (nn 0 (by omega)), if_neg (nn 1 (by omega)), if_neg (nn 2 (by omega))]
      exact ⟨rfl, z1, f1⟩
    · rw [g2]
      exact ⟨rfl, z', f'⟩
theorem lt_m1 {x : Int32} (h1 : x < 0) (h2 : x ≠ mI 1) : x < mI 1 := by
  rw [Int32.lt_iff_toInt_lt] at h1 ⊢
  have e0 : (0 : Int32).toInt = 0 := rfl
  have e1 : (mI 1).toInt = -1 := rfl
  have h3 : x.toInt ≠ -1 := fun q => h2 (Int32.toInt_inj.mp (by rw [q, e1]))
  rw [e0] at h1
  rw [e1]
  omega
theorem nI_gm {n : Nat} (h : n < 2147483648) : ¬ nI n < mI 1 ∧ mI 1 < nI n := by
  have e1 : (mI 1).toInt = -1 := rfl
  rw [Int32.lt_iff_toInt_lt, Int32.lt_iff_toInt_lt, nI_toInt (by omega), e1]
  omega
theorem a_enough (hZ : WZ Z) : Agr q_Ct_enough [.ref 64, .int x] q_Md_enough [.ref 204, .int x] Z := by
  generalize hR : rgD (mi (tF Z).1) (Hn (tH Z)) = R
  by_cases c1 : x = mI 1
  · subst c1
    refine Agr_q (nI R.length) hZ (fun h pl σ z => w_Ct_enough _ z.1.1 ?_) (fun σ z => w_Md_enough _ z.1 (lt_thr hZ z fun s z' f' => ?_))
    · refine WM_V (c_ringsOf hZ z) fun s1 ⟨l1, z1, f1, R1⟩ => ⟨l1, ?_⟩
      rw [if_pos rfl]
      have t := R1.1
      rw [hR] at t
      exact ⟨t.1, z1, f1⟩
    · refine WM_V (m_ringsOf hZ z') fun s1 ⟨l1, z1, f1, R1⟩ => ⟨l1, WE_i (m_within l1) ?_⟩
      have t := R1.1
      rw [hR] at t
      have h24 := t.2.1
      rw [t.1]
      rw [decide_eq_true, if_neg (by decide), if_neg (by decide)]
      · exact ⟨rfl, z1, Fg_t f' f1⟩
      · refine ⟨by decide, ?_⟩
        by_cases c : R.length = 0
        · rw [c]; decide
        · rw [nI_subN (by omega)]; exact (nI_gm (by omega)).1
  · by_cases c0 : x < 0
    · refine Agr_q (mI 2) hZ (fun h pl σ z => w_Ct_enough _ z.1.1 ?_) (fun σ z => w_Md_enough _ z.1 (lt_thr hZ z fun s z' f' => ?_))
      · refine WM_V (c_ringsOf hZ z) fun s1 ⟨l1, z1, f1, R1⟩ => ⟨l1, ?_⟩
        rw [if_neg c1, if_pos c0]
        exact ⟨rfl, z1, f1⟩
      · refine WM_V (m_ringsOf hZ z') fun s1 ⟨l1, z1, f1, R1⟩ => ⟨l1, WE_i (m_within l1) ?_⟩
        rw [decide_eq_false (fun q => q.1 (lt_m1 c0 c1)), if_pos (by decide)]
        exact ⟨rfl, z1, Fg_t f' f1⟩
    · obtain ⟨j, hj, rfl⟩ := Int32_nat c0
      refine Agr_q (match R[j]? with | some q => nI (10 * q.1 + q.2) | none => mI 2) hZ (fun h pl σ z => w_Ct_enough _ z.1.1 ?_) (fun σ z => w_Md_enough _ z.1 (lt_thr hZ z fun s z' f' => ?_))
      · refine WM_V (c_ringsOf hZ z) fun s1 ⟨l1, z1, f1, R1⟩ => ⟨l1, ?_⟩
        have t := R1.1
        rw [hR] at t
        have h24 := t.2.1
        rw [if_neg c1, if_neg c0, t.1]
        by_cases c : R.length ≤ j
        · rw [if_pos (by rw [nI_leN (by omega) hj]; exact c), List.getElem?_eq_none c]
          exact ⟨rfl, z1, f1⟩
        · rw [if_neg (by rw [nI_leN (by omega) hj]; exact c)]
          refine ⟨by rw [inb_nI hj (by omega)]; omega, ?_, z1, f1⟩
          have e := List.getElem?_eq_getElem (show j < R.length by omega)
          rw [cl_nI hj, t.2.2 j _ e, e]
      · refine WM_V (m_ringsOf hZ z') fun s1 ⟨l1, z1, f1, R1⟩ => ⟨l1, WE_i (m_within l1) ?_⟩
        have t := R1.1
        rw [hR] at t
        have h24 := t.2.1
        rw [t.1]
        by_cases c : R.length ≤ j
        · rw [decide_eq_false, if_pos (by decide), List.getElem?_eq_none c]
          · exact ⟨rfl, z1, Fg_t f' f1⟩
          · intro q
            refine q.2 ?_
            by_cases c2 : R.length = 0
            · rw [c2]; exact (nI_gm hj).2
            · rw [nI_subN (by omega), nI_ltN (by omega) hj]; omega
        · rw [decide_eq_true, if_neg (by decide)]
          · have e := List.getElem?_eq_getElem (show j < R.length by omega)
            refine rows_yes hj ⟨by rw [inb_nI hj (by omega)]; omega, by rw [inb_nI hj (by omega)]; omega, ?_, z1, Fg_t f' f1⟩
            rw [cl_nI hj, (t.2.2 j _ e).1, (t.2.2 j _ e).2, e, nI_mulN, nI_add]
          · refine ⟨(nI_gm hj).1, ?_⟩
            rw [nI_subN (by omega), nI_ltN (by omega) hj]; omega
end RG

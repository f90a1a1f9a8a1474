section OB2
variable {Z : Ste} {x y w : Int32} {fC fM : JF} {vC vM : List Value}
theorem isB_f {n : Nat} {x : Int32} (c : ¬ isB n x = true) : isB n x = false := by cases h1 : isB n x; rfl; exact absurd h1 c
theorem in_rng {y : Int32} {m : Nat} (hm : m < 100000) (h : ¬ y < nI 0 ∧ ¬ nI m < y) : ∃ j, j ≤ m ∧ y = nI j := by
  obtain ⟨k, h1, rfl⟩ := Int32_nat h.1
  have h2 := h.2
  rw [nI_ltN (by omega) h1] at h2
  exact ⟨k, by omega, rfl⟩
theorem a_mind (hZ : WZ Z) : Agr q_Ct_mind [.ref 64, .int x] q_Md_mind [.ref 204, .int x] Z := by
  have hW := hZ.1
  have n8 := hW.1
  have hP := hZ.2.1.1
  by_cases c : ∃ e, e < Hn (tH Z) ∧ nI (mi (tF Z).1 e) = x
  · obtain ⟨e, he, rfl⟩ := c
    have hlt := hP.1 e he
    refine Agr_q (nI e) hZ (fun h pl σ z => OkC_e z (WE_o (w_Ct_mind _ z.1.1 ?_))) (fun σ z => w_Md_mind _ z.1 (lt_thr hZ z fun s z' f' => ?_))
    · rw [z.1.2.2.2.1]
      refine Lp1_inv (I := fun m v1 => ∃ i, i ≤ e ∧ m = Hn (tH Z) - i ∧ v1 = nI i) ?_ (m := Hn (tH Z)) ⟨0, by omega, by omega, rfl⟩
      rintro m v1 ⟨i, hi, rfl, rfl⟩ X hX
      rw [(Rc_H z).1, if_neg (by rw [nI_leN (by omega) (by omega)]; omega)]
      have g := hX (Hn (tH Z) - (i + 1)) (nI (i + 1)) (by omega)
      have hi2 := hP.1 i (by omega)
      simp (disch := omega) only [(Rc_M z).2.1 i (by omega), nI_add, nI_mulN, nI_subN, mI_add, inb_nI, cl_nI, nI_eqN, nI_leN, nI_ltN, nI_eq0, nI_le0, nI_lt0, nI_0le, nI_0lt, nI_m1, mI_lt0, mI_eq0, bI_0, bI_n0, bI_1]
      refine ⟨by omega, ?_⟩
      by_cases d : mi (tF Z).1 i = mi (tF Z).1 e
      · rw [if_pos d, hP.2 i (by omega) e he d]
      · rw [if_neg d]
        refine g ⟨i + 1, ?_, rfl, rfl⟩
        have : i ≠ e := fun q => d (by rw [q])
        omega
    · refine Lp2_inv (I := fun m v2 v3 => ∃ i, i ≤ Hn (tH Z) ∧ m = Hn (tH Z) - i ∧ v3 = nI i ∧ (e < i → v2 = nI e)) ?_ (m := Hn (tH Z)) ⟨0, by omega, by omega, rfl, fun q => by omega⟩
      rintro m v2 v3 ⟨i, hi, rfl, rfl, h2⟩ X hX
      refine WE_i (m_bodies z'.1 (Rm_H z')) ?_
      by_cases d : Hn (tH Z) ≤ i
      · rw [if_pos (by rw [nI_leN (by omega) (by omega)]; exact d)]
        refine WE_i (m_isBody z'.1 (Rm_H z')) ?_
        rw [isB_n n8 hlt, if_neg (by decide)]
        exact ⟨h2 (by omega), z', f'⟩
      · rw [if_neg (by rw [nI_leN (by omega) (by omega)]; exact d)]
        have hi2 := hP.1 i (by omega)
        have ee := (Rm_M z').2.2.1 i (by omega)
        rw [Nat.zero_add] at ee
        simp (disch := omega) only [ee, nI_add, nI_mulN, nI_subN, mI_add, inb_nI, cl_nI, nI_eqN, nI_leN, nI_ltN, nI_eq0, nI_le0, nI_lt0, nI_0le, nI_0lt, nI_m1, mI_lt0, mI_eq0, bI_0, bI_n0, bI_1]
        refine ⟨by omega, ?_⟩
        by_cases d2 : mi (tF Z).1 i = mi (tF Z).1 e
        · rw [if_pos d2]
          exact hX (Hn (tH Z) - (i + 1)) _ _ (by omega) ⟨i + 1, by omega, rfl, rfl, fun _ => by rw [hP.2 i (by omega) e he d2]⟩
        · rw [if_neg d2]
          have : i ≠ e := fun q => d2 (by rw [q])
          exact hX (Hn (tH Z) - (i + 1)) _ _ (by omega) ⟨i + 1, by omega, rfl, rfl, fun q => h2 (by omega)⟩
  · refine Agr_q (mI 1) hZ (fun h pl σ z => OkC_e z (WE_o (w_Ct_mind _ z.1.1 ?_))) (fun σ z => w_Md_mind _ z.1 (lt_thr hZ z fun s z' f' => ?_))
    · rw [z.1.2.2.2.1]
      refine Lp1_inv (I := fun m v1 => ∃ i, i ≤ Hn (tH Z) ∧ m = Hn (tH Z) - i ∧ v1 = nI i) ?_ (m := Hn (tH Z)) ⟨0, by omega, by omega, rfl⟩
      rintro m v1 ⟨i, hi, rfl, rfl⟩ X hX
      rw [(Rc_H z).1]
      by_cases d : Hn (tH Z) ≤ i
      · rw [if_pos (by rw [nI_leN (by omega) (by omega)]; exact d)]
      · rw [if_neg (by rw [nI_leN (by omega) (by omega)]; exact d)]
        have g := hX (Hn (tH Z) - (i + 1)) (nI (i + 1)) (by omega) ⟨i + 1, by omega, rfl, rfl⟩
        simp (disch := omega) only [(Rc_M z).2.1 i (by omega), nI_add, nI_mulN, nI_subN, mI_add, inb_nI, cl_nI, nI_eqN, nI_leN, nI_ltN, nI_eq0, nI_le0, nI_lt0, nI_0le, nI_0lt, nI_m1, mI_lt0, mI_eq0, bI_0, bI_n0, bI_1]
        exact ⟨by omega, by rw [if_neg (fun q => c ⟨i, by omega, q⟩)]; exact g⟩
    · refine Lp2_inv (I := fun m v2 v3 => ∃ i, i ≤ Hn (tH Z) ∧ m = Hn (tH Z) - i ∧ v3 = nI i ∧ v2 = mI 1) ?_ (m := Hn (tH Z)) ⟨0, by omega, by omega, rfl, rfl⟩
      rintro m v2 v3 ⟨i, hi, rfl, rfl, rfl⟩ X hX
      refine WE_i (m_bodies z'.1 (Rm_H z')) ?_
      by_cases d : Hn (tH Z) ≤ i
      · rw [if_pos (by rw [nI_leN (by omega) (by omega)]; exact d)]
        refine WE_i (m_isBody z'.1 (Rm_H z')) ?_
        cases isB (Hn (tH Z)) x
        · exact ⟨rfl, z', f'⟩
        · exact ⟨rfl, z', f'⟩
      · rw [if_neg (by rw [nI_leN (by omega) (by omega)]; exact d)]
        have ee := (Rm_M z').2.2.1 i (by omega)
        rw [Nat.zero_add] at ee
        simp (disch := omega) only [ee, nI_add, nI_mulN, nI_subN, mI_add, inb_nI, cl_nI, nI_eqN, nI_leN, nI_ltN, nI_eq0, nI_le0, nI_lt0, nI_0le, nI_0lt, nI_m1, mI_lt0, mI_eq0, bI_0, bI_n0, bI_1]
        refine ⟨by omega, ?_⟩
        rw [if_neg (fun q => c ⟨i, by omega, q⟩)]
        exact hX (Hn (tH Z) - (i + 1)) _ _ (by omega) ⟨i + 1, by omega, rfl, rfl, rfl⟩
theorem a_body (hZ : WZ Z) : Agr q_Ct_body [.ref 64, .int x, .int y] q_Md_body [.ref 204, .int x, .int y] Z := by
  have hW := hZ.1
  have n8 := hW.1
  by_cases c : isB (Hn (tH Z)) x = true
  · obtain ⟨k, hk, rfl⟩ := isB_t hW.1 c
    refine Agr_q (if y = nI 0 then nI (Hk (tH Z) k) else if y = nI 1 then bI (Hw (tH Z) k) else if y = nI 2 then nI (Hp (tH Z) k) else if y = nI 3 then bI (th (tF Z).1 k) else if y = nI 4 then nI (mi (tF Z).1 k) else if y = nI 5 then nI (sa (tF Z).1 k) else if y = nI 6 then bI (ast (tH Z) (tF Z).1 k) else mI 1) hZ (fun h pl σ z => OkC_e z (WE_o (w_Ct_body _ _ z.1.1 ?_))) (fun σ z => w_Md_body _ _ z.1 (lt_thr hZ z fun s z' f' => ?_))
    · rw [z.1.2.2.2.1]
      refine WE_i (c_has z.1.1 z.1.2.1 (Rc_H z)) ?_
      rw [c, if_neg (by decide)]
      have e1 := (Rc_H z).2.2.2.2.1 k hk
      have e2 := (Rc_H z).2.2.2.2.2.1 k hk
      have e3 := (Rc_M z).2.1 k hk
      have e4 := (Rc_M z).2.2.2.1 k hk
      rw [(Rc_H z).2.1, (Rc_M z).2.2.2.2.1, (Rc_M z).2.2.2.2.2.2.1, bk_get n8 hk, bk_get n8 hk, bk_get n8 hk]
      by_cases d0 : y = nI 0
      · rw [if_pos d0, if_pos d0]; simp (disch := omega) only [e1, and_true, nI_add, nI_mulN, nI_subN, mI_add, inb_nI, cl_nI, nI_eqN, nI_leN, nI_ltN, nI_eq0, nI_le0, nI_lt0, nI_0le, nI_0lt, nI_m1, mI_lt0, mI_eq0, bI_0, bI_n0, bI_1]; omega
      rw [if_neg d0, if_neg d0]
      by_cases d1 : y = nI 1
      · rw [if_pos d1, if_pos d1]
      rw [if_neg d1, if_neg d1]
      by_cases d2 : y = nI 2
      · rw [if_pos d2, if_pos d2]; simp (disch := omega) only [e2, and_true, nI_add, nI_mulN, nI_subN, mI_add, inb_nI, cl_nI, nI_eqN, nI_leN, nI_ltN, nI_eq0, nI_le0, nI_lt0, nI_0le, nI_0lt, nI_m1, mI_lt0, mI_eq0, bI_0, bI_n0, bI_1]; omega
      rw [if_neg d2, if_neg d2]
      by_cases d3 : y = nI 3
      · rw [if_pos d3, if_pos d3]
      rw [if_neg d3, if_neg d3]
      by_cases d4 : y = nI 4
      · rw [if_pos d4, if_pos d4]; simp (disch := omega) only [e3, and_true, nI_add, nI_mulN, nI_subN, mI_add, inb_nI, cl_nI, nI_eqN, nI_leN, nI_ltN, nI_eq0, nI_le0, nI_lt0, nI_0le, nI_0lt, nI_m1, mI_lt0, mI_eq0, bI_0, bI_n0, bI_1]; omega
      rw [if_neg d4, if_neg d4]
      by_cases d5 : y = nI 5
      · rw [if_pos d5, if_pos d5]; simp (disch := omega) only [e4, and_true, nI_add, nI_mulN, nI_subN, mI_add, inb_nI, cl_nI, nI_eqN, nI_leN, nI_ltN, nI_eq0, nI_le0, nI_lt0, nI_0le, nI_0lt, nI_m1, mI_lt0, mI_eq0, bI_0, bI_n0, bI_1]; omega
      rw [if_neg d5, if_neg d5]
      by_cases d6 : y = nI 6
      · rw [if_pos d6, if_pos d6]
      rw [if_neg d6, if_neg d6]
    · refine WE_i (m_isBody z'.1 (Rm_H z')) ?_
      rw [c, if_neg (by decide)]
      refine WE_i (m_within z'.1) ?_
      by_cases cw : ¬ y < nI 0 ∧ ¬ nI 6 < y
      · rw [decide_eq_true cw, if_neg (by decide)]
        have e3 := (Rm_M z').2.2.1 k hk
        have e4 := (Rm_M z').2.2.2.1 k hk
        have e5 := (Rm_M z').2.2.2.2.1 k hk
        rw [Nat.zero_add] at e3 e4 e5
        obtain ⟨j, hj, rfl⟩ : ∃ j, j ≤ 6 ∧ y = nI j := in_rng (by omega) cw
        have hj : j = 0 ∨ j = 1 ∨ j = 2 ∨ j = 3 ∨ j = 4 ∨ j = 5 ∨ j = 6 := by omega
        rcases hj with rfl | rfl | rfl | rfl | rfl | rfl | rfl
        · exact WE_i (m_kind z'.1 n8 (Rm_H z') hk) ⟨rfl, z', f'⟩
        · exact WE_i (m_new z'.1 n8 (Rm_H z') hk) ⟨rfl, z', f'⟩
        · exact WE_i (m_price z'.1 n8 (Rm_H z') hk) ⟨rfl, z', f'⟩
        · rw [if_pos rfl]; simp (disch := omega) only [e5, nI_add, nI_mulN, nI_subN, mI_add, inb_nI, cl_nI, nI_eqN, nI_leN, nI_ltN, nI_eq0, nI_le0, nI_lt0, nI_0le, nI_0lt, nI_m1, mI_lt0, mI_eq0, bI_0, bI_n0, bI_1]; exact ⟨by omega, rfl, z', f'⟩
        · rw [if_neg (by decide), if_pos rfl]; simp (disch := omega) only [e3, nI_add, nI_mulN, nI_subN, mI_add, inb_nI, cl_nI, nI_eqN, nI_leN, nI_ltN, nI_eq0, nI_le0, nI_lt0, nI_0le, nI_0lt, nI_m1, mI_lt0, mI_eq0, bI_0, bI_n0, bI_1]; exact ⟨by omega, rfl, z', f'⟩
        · rw [if_neg (by decide), if_neg (by decide), if_pos rfl]; simp (disch := omega) only [e4, nI_add, nI_mulN, nI_subN, mI_add, inb_nI, cl_nI, nI_eqN, nI_leN, nI_ltN, nI_eq0, nI_le0, nI_lt0, nI_0le, nI_0lt, nI_m1, mI_lt0, mI_eq0, bI_0, bI_n0, bI_1]; exact ⟨by omega, rfl, z', f'⟩
        · rw [if_neg (by decide), if_neg (by decide), if_neg (by decide), if_pos rfl]
          refine WE_i (m_isWrong z'.1 hW hZ.2.1 (Rm_H z') (Rm_M z') (by omega) hk) ?_
          exact bI_go _ (K := fun v => v = bI (ast (tH Z) (tF Z).1 k) ∧ Rm Z s ∧ Fg (fun b _ => 204 ≤ b ∧ b < 229) σ s) ⟨rfl, z', f'⟩
      · rw [decide_eq_false cw, if_pos (by decide)]
        refine ⟨?_, z', f'⟩
        have nn : ∀ j, j ≤ 6 → ¬ y = nI j := by
          intro j hj q
          refine cw ?_
          subst q
          rw [nI_ltN (by omega) (by omega), nI_ltN (by omega) (by omega)]
          omega
        rw [if_neg (nn 0 (by omega)), if_neg (nn 1 (by omega)), if_neg (nn 2 (by omega)), if_neg (nn 3 (by omega)), if_neg (nn 4 (by omega)), if_neg (nn 5 (by omega)), if_neg (nn 6 (by omega))]
  · refine Agr_q (mI 1) hZ (fun h pl σ z => OkC_e z (WE_o (w_Ct_body _ _ z.1.1 ?_))) (fun σ z => w_Md_body _ _ z.1 (lt_thr hZ z fun s z' f' => ?_))
    · rw [z.1.2.2.2.1]
      refine WE_i (c_has z.1.1 z.1.2.1 (Rc_H z)) ?_
      rw [isB_f c]
      exact rfl
    · refine WE_i (m_isBody z'.1 (Rm_H z')) ?_
      rw [isB_f c]
      exact ⟨rfl, z', f'⟩
end OB2

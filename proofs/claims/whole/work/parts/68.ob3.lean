section OB3
variable {Z : Ste} {x y w : Int32} {fC fM : JF} {vC vM : List Value}
theorem m_thereMany {H : Hou} {S : Mud} {σ : JH} (hl : Ly σ) (n8 : Hn H ≤ 8) (hH : mH H σ) (hM : mM H S 0 σ) : q_Md_thereMany [.ref 204] σ = some (some (.int (nI (cntB (th S) (Hn H)))), σ) := by
  refine WE_o (w_Md_thereMany hl ?_)
  refine Lp2_inv (I := fun m v1 v2 => ∃ i, i ≤ Hn H ∧ m = Hn H - i ∧ v2 = nI i ∧ v1 = nI (cntB (th S) i)) ?_ (m := Hn H) ⟨0, by omega, by omega, rfl, rfl⟩
  rintro m v1 v2 ⟨i, hi, rfl, rfl, rfl⟩ X hX
  refine WE_i (m_bodies hl hH) ?_
  by_cases d : Hn H ≤ i
  · rw [if_pos (by rw [nI_leN (by omega) (by omega)]; exact d), show i = Hn H by omega]
  · rw [if_neg (by rw [nI_leN (by omega) (by omega)]; exact d)]
    have e := hM.2.2.2.2.1 i (by omega)
    rw [Nat.zero_add] at e
    have g := hX (Hn H - (i + 1)) (nI (cntB (th S) (i + 1))) (nI (i + 1)) (by omega) ⟨i + 1, by omega, rfl, rfl, rfl⟩
    have e2 : nI (cntB (th S) (i + 1)) = nI (cntB (th S) i) + bI (th S i) := by
      show nI (cntB (th S) i + (if th S i = true then 1 else 0)) = _
      cases th S i
      · rw [bI_false, nI_add]; rfl
      · rw [bI_true, nI_add]; rfl
    rw [e2] at g
    simp (disch := omega) only [e, nI_add, nI_mulN, nI_subN, mI_add, inb_nI, cl_nI, nI_eqN, nI_leN, nI_ltN, nI_eq0, nI_le0, nI_lt0, nI_0le, nI_0lt, nI_m1, mI_lt0, mI_eq0, bI_0, bI_n0, bI_1]
    exact ⟨by omega, g⟩
set_option maxHeartbeats 1000000 in
theorem a_count (hZ : WZ Z) : Agr q_Ct_count [.ref 64, .int x] q_Md_count [.ref 204, .int x] Z := by
  have hW := hZ.1
  have n8 := hW.1
  refine Agr_q (if x = nI 0 then nI (Hn (tH Z)) else if x = nI 1 then nI (cntB (Hw (tH Z)) (Hn (tH Z))) else if x = nI 2 then nI (cntB (th (tF Z).1) (Hn (tH Z))) else if x = nI 3 then nI (tu (tF Z).1) else if x = nI 4 then nI (pa (tF Z).1) else if x = nI 5 then nI (wrs (tH Z) (tF Z).1) else if x = nI 6 then (tF Z).2.1 else if x = nI 7 then nI (Ho (tH Z)) else if x = nI 8 then nI (prs (Hx (tH Z)) (Hn (tH Z))) else if x = nI 9 then nI (tP Z).length else if x = nI 10 then nI (tF Z).2.2.length else if x = nI 11 then nI (tU Z).length else if x = nI 12 then nI (tT Z).length else mI 1) hZ (fun h pl σ z => OkC_e z (WE_o (w_Ct_count _ z.1.1 ?_))) (fun σ z => w_Md_count _ z.1 (lt_thr hZ z fun s z' f' => ?_))
  · have hH := Rc_H z
    have hM := Rc_M z
    have hh := z.1.2.1
    rw [z.1.2.2.2.1]
    by_cases d : x = nI 0
    · rw [if_pos d, if_pos d]; exact hH.1
    rw [if_neg d, if_neg d]
    by_cases d : x = nI 1
    · rw [if_pos d, if_pos d, hH.2.1]; exact WE_i (j_bcm z.1.1 n8) rfl
    rw [if_neg d, if_neg d]
    by_cases d : x = nI 2
    · rw [if_pos d, if_pos d, hM.2.2.2.2.1]; exact WE_i (j_bcm z.1.1 n8) rfl
    rw [if_neg d, if_neg d]
    by_cases d : x = nI 3
    · rw [if_pos d, if_pos d]; exact hM.2.2.2.2.2.2.2.1
    rw [if_neg d, if_neg d]
    by_cases d : x = nI 4
    · rw [if_pos d, if_pos d]; exact hM.2.2.2.2.2.2.2.2
    rw [if_neg d, if_neg d]
    by_cases d : x = nI 5
    · rw [if_pos d, if_pos d]; exact WE_i (c_wrongOnes z.1.1 mu_114 hW hM) rfl
    rw [if_neg d, if_neg d]
    by_cases d : x = nI 6
    · rw [if_pos d, if_pos d]; exact z.2.2.2.2.1.2.1
    rw [if_neg d, if_neg d]
    by_cases d : x = nI 7
    · rw [if_pos d, if_pos d]; exact hH.2.2.2.1
    rw [if_neg d, if_neg d]
    by_cases d : x = nI 8
    · rw [if_pos d, if_pos d]
      exact WE_i (c_pairsIn z.1.1 hh hW hH.1 (by rcases hh with rfl | rfl <;> (unfold IsA8; decide)) hH.2.2.2.2.2.2.2.2.1 hW.2.2.2.2.2.2.2.1 hW.2.2.2.2.2.2.2.2.2.2.1) rfl
    rw [if_neg d, if_neg d]
    by_cases d : x = nI 9
    · rw [if_pos d, if_pos d, z.1.2.2.2.2.2.1]; exact z.2.2.2.2.2.2.2.1.1
    rw [if_neg d, if_neg d]
    by_cases d : x = nI 10
    · rw [if_pos d, if_pos d]; exact z.2.2.2.2.1.2.2.2.1
    rw [if_neg d, if_neg d]
    by_cases d : x = nI 11
    · rw [if_pos d, if_pos d]
      obtain ⟨pe, _, _, e, _⟩ := z.2.2.2.2.2.1
      exact e
    rw [if_neg d, if_neg d]
    by_cases d : x = nI 12
    · rw [if_pos d, if_pos d]; exact z.2.2.2.2.2.2.2.2.1
    rw [if_neg d, if_neg d]
  · have hH := Rm_H z'
    have hM := Rm_M z'
    by_cases d : x = nI 0
    · rw [if_pos d, if_pos d]; exact WE_i (m_bodies z'.1 hH) ⟨rfl, z', f'⟩
    rw [if_neg d, if_neg d]
    by_cases d : x = nI 1
    · rw [if_pos d, if_pos d]; exact ⟨z'.2.2.1.1, z', f'⟩
    rw [if_neg d, if_neg d]
    by_cases d : x = nI 2
    · rw [if_pos d, if_pos d]; exact WE_i (m_thereMany z'.1 n8 hH hM) ⟨rfl, z', f'⟩
    rw [if_neg d, if_neg d]
    by_cases d : x = nI 3
    · rw [if_pos d, if_pos d]; exact ⟨hM.1, z', f'⟩
    rw [if_neg d, if_neg d]
    by_cases d : x = nI 4
    · rw [if_pos d, if_pos d]; exact ⟨hM.2.1, z', f'⟩
    rw [if_neg d, if_neg d]
    by_cases d : x = nI 5
    · rw [if_pos d, if_pos d]; exact WE_i (m_wrongs z'.1 hW hZ.2.1 hH hM (by omega)) ⟨rfl, z', f'⟩
    rw [if_neg d, if_neg d]
    by_cases d : x = nI 6
    · rw [if_pos d, if_pos d]; exact ⟨z'.2.2.2.2.1.2.1, z', f'⟩
    rw [if_neg d, if_neg d]
    by_cases d : x = nI 7
    · rw [if_pos d, if_pos d]; exact ⟨hH.2.1, z', f'⟩
    rw [if_neg d, if_neg d]
    by_cases d : x = nI 8
    · rw [if_pos d, if_pos d]; exact ⟨z'.2.2.1.2.1, z', f'⟩
    rw [if_neg d, if_neg d]
    by_cases d : x = nI 9
    · rw [if_pos d, if_pos d]; exact ⟨z'.2.2.2.2.2.2.2.1.1, z', f'⟩
    rw [if_neg d, if_neg d]
    by_cases d : x = nI 10
    · rw [if_pos d, if_pos d]; exact ⟨(mSb_0 z'.2.2.2.2.1.2.2).1, z', f'⟩
    rw [if_neg d, if_neg d]
    by_cases d : x = nI 11
    · rw [if_pos d, if_pos d]; exact ⟨z'.2.2.2.2.2.1.1, z', f'⟩
    rw [if_neg d, if_neg d]
    by_cases d : x = nI 12
    · rw [if_pos d, if_pos d]; exact ⟨z'.2.2.2.2.2.2.2.2.1, z', f'⟩
    rw [if_neg d, if_neg d]
    exact ⟨rfl, z', f'⟩
end OB3

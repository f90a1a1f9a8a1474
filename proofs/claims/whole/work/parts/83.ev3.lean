section EV3
variable {Z : Ste} {x y w : Int32} {h pl : Nat} {s t σ : JH}
theorem rng_1 {m : Nat} (hm : m < 1000) (x : Int32) : (∃ j, 1 ≤ j ∧ j ≤ m ∧ x = nI j) ∨ ((x < nI 1 ∨ (¬ x < nI 1 ∧ nI m < x)) ∧ decide (¬ x < nI 1 ∧ ¬ nI m < x) = false) := by
  by_cases c : ¬ x < nI 1 ∧ ¬ nI m < x
  · refine Or.inl ?_
    have h0 : ¬ x < nI 0 := fun q => c.1 (Int32.lt_trans q (by decide))
    obtain ⟨j, hj, rfl⟩ := in_rng (by omega) ⟨h0, c.2⟩
    have c1 := c.1
    rw [nI_ltN (by omega) (by omega)] at c1
    exact ⟨j, by omega, hj, rfl⟩
  · refine Or.inr ⟨?_, decide_eq_false c⟩
    by_cases d : x < nI 1
    · exact Or.inl d
    · refine Or.inr ⟨d, ?_⟩
      by_cases e : nI m < x
      · exact e
      · exact absurd ⟨d, e⟩ c
theorem sub_back (a b : Int32) : (a + b) - a = b := by rw [Int32.add_comm, Int32.add_sub_cancel]
set_option maxHeartbeats 2000000 in
theorem a_evenings (hZ : WZ Z) : Agr q_Ct_evenings [.ref 64, .int x, .int y, .int w] q_Md_evenings [.ref 204, .int x, .int y, .int w] Z := by
  have hW := hZ.1
  have n8 := hW.1
  have yes1 : ∀ {s : JH} {j m : Nat}, Ly s → 1 ≤ j → j ≤ m → m < 1000 → q_Md_within [.int (nI j), .int (nI 1), .int (nI m)] s = some (some (.int (bI true)), s) := fun hl h1 h2 h3 => by
    rw [m_within hl, decide_eq_true]
    rw [nI_ltN (by omega) (by omega), nI_ltN (by omega) (by omega)]
    omega
  have yes9 : ∀ {s : JH} {j : Nat}, Ly s → j ≤ 9999 → q_Md_within [.int (nI j), .int (nI 0), .int (nI 9999)] s = some (some (.int (bI true)), s) := fun hl h1 => by
    rw [m_within hl, decide_eq_true]
    rw [nI_ltN (by omega) (by omega), nI_ltN (by omega) (by omega)]
    omega
  by_cases cx : ¬ x < nI 0 ∧ ¬ nI 9999 < x
  · obtain ⟨r, hr, rfl⟩ := in_rng (by omega) cx
    rcases rng_1 (m := 50) (by omega) y with ⟨n, hn1, hn, rfl⟩ | ⟨g1, g2⟩
    · rcases rng_c (m := 2) (by omega) w with ⟨d, hd, rfl⟩ | ⟨g1, g2⟩
      · generalize hA : evR (tH Z) (tL Z) (tF Z).1 n (r, nI 0, nI 0, nI 0) = A
        refine Agr_q (if d = 0 then A.2.1 else if d = 1 then A.2.2.1 else A.2.2.2) hZ (fun h pl σ z => w_Ct_evenings _ _ _ z.1.1 ?_) (fun σ z => w_Md_evenings _ _ _ z.1 (lt_thr hZ z fun s z' f' => ?_))
        · have hh := ho_is z.1.2.1
          rw [if_neg (show ¬ nI r < 0 from cx.1), if_neg cx.2, if_neg (by rw [nI_ltN (by omega) (by omega)]; omega), if_neg (by rw [nI_ltN (by omega) (by omega)]; omega), if_neg (by rw [nI_lt0 (by omega)]; exact id), if_pos (by rw [nI_leN (by omega) (by omega)]; exact hd), nI_l (by omega)]
          refine Lp6_inv (I := fun m v1 v2 v3 v4 v5 s6 => ∃ i a, i ≤ n ∧ m = n - i ∧ v5 = nI i ∧ v1 = lN a.1 ∧ v2 = a.2.1 ∧ v3 = a.2.2.1 ∧ v4 = a.2.2.2 ∧ a.1 < 2147483648 ∧ Rc Z h pl s6 ∧ Fg (fun b _ => 64 ≤ b ∧ b < 204) σ s6 ∧ evR (tH Z) (tL Z) (tF Z).1 (n - i) a = A) ?_ (m := n) ⟨0, (r, nI 0, nI 0, nI 0), by omega, by omega, rfl, rfl, rfl, rfl, rfl, by show r < 2147483648; omega, z, Fg_r _ _, hA⟩
          rintro m v1 v2 v3 v4 v5 s6 ⟨i, a, hi, rfl, rfl, rfl, rfl, rfl, rfl, ha, z6, f6, ht⟩ X hX
          refine ⟨z6.1.1, ?_⟩
          by_cases c : n ≤ i
          · rw [if_pos (by rw [nI_leN (by omega) (by omega)]; exact c)]
            rw [show n - i = 0 by omega] at ht
            have ht : a = A := ht
            subst ht
            by_cases d0 : d = 0
            · rw [if_pos (by rw [d0]; rfl), if_pos d0]; exact ⟨rfl, z6, f6⟩
            rw [if_neg (by rw [nI_eq0 (by omega)]; exact d0), if_neg d0]
            by_cases d1 : d = 1
            · rw [if_pos (by rw [d1]), if_pos d1]; exact ⟨rfl, z6, f6⟩
            rw [if_neg (by rw [nI_eqN (by omega) (by omega)]; exact d1), if_neg d1]
            exact ⟨rfl, z6, f6⟩
          · rw [if_neg (by rw [nI_leN (by omega) (by omega)]; exact c)]
            refine WM_V (c_copy mu_118 mu_114 (by omega) hW (Rc_Cs z6)) fun s8 ⟨C8, f8, e8⟩ => ⟨C8.1, ?_⟩
            have L8 : cL (lwl (tL Z)) (h + 8) s8 := cL_g f8 (by unfold PMc; omega) (fun j => by unfold PMc; omega) z6.2.2.1
            have c8 : s8.2.1 118 9 = (tF Z).2.1 + nI 0 := by rw [e8, z6.2.2.2.2.1.2.1, nI_z, Int32.add_zero]
            refine WM_J (c_drawn (e := ((tF Z).1, a.1, nI 0)) hW hZ.2.1 C8 L8 ha c8) fun v s10 ⟨ev, C9, S9, c9, r9, f9⟩ => ⟨C9.1, ?_⟩
            have f : Fg (fun b j => PMc 118 b j ∨ PPl 118 h b j) s6 s10 := Fg_t (Fg_m f8 (fun b j q => Or.inl q)) (Fg_m (Fi_g f9) (fun b j q => Or.inr q))
            obtain ⟨z10, r10⟩ := Rc_ok z6 f C9.1 (fun b j q => by unfold PPl PMc at q; unfold PcT; omega)
            refine WE_i (c_wrongOnes C9.1 mu_118 hW C9.2.2.2) ?_
            rw [C9.2.2.2.2.2.2.2.2.2.1, c9, z10.2.2.2.2.1.2.1, sub_back, ev]
            have hstep : evR (tH Z) (tL Z) (tF Z).1 (n - (i + 1)) (evA (tH Z) (tL Z) (tF Z).1 a) = A := by
              rw [← ht, show n - i = (n - (i + 1)) + 1 by omega]; rfl
            have m8 := msk_8 (f := ast (tH Z) (evT (tH Z) (tL Z) 6 ((tF Z).1, a.1, nI 0)).1) n8
            have nxt : ∀ v, v = (evA (tH Z) (tL Z) (tF Z).1 a).2.2.1 → X (lN (evT (tH Z) (tL Z) 6 ((tF Z).1, a.1, nI 0)).2.1) (a.2.1 + nI (wrs (tH Z) (evT (tH Z) (tL Z) 6 ((tF Z).1, a.1, nI 0)).1)) v (a.2.2.2 + (evT (tH Z) (tL Z) 6 ((tF Z).1, a.1, nI 0)).2.2) (nI i + nI 1) s10 := fun v hv => hX (n - (i + 1)) _ _ _ _ _ _ (by omega) ⟨i + 1, evA (tH Z) (tL Z) (tF Z).1 a, by omega, rfl, nI_add i 1, rfl, rfl, hv, rfl, r9, z10, Fg_t f6 r10, hstep⟩
            by_cases cw : wrs (tH Z) (evT (tH Z) (tL Z) 6 ((tF Z).1, a.1, nI 0)).1 = 0
            · rw [if_pos (by rw [nI_eq0 (by omega)]; exact cnt_msk.mp cw)]
              refine nxt _ ?_
              show _ = a.2.2.1 + (if wrs (tH Z) (evT (tH Z) (tL Z) 6 ((tF Z).1, a.1, nI 0)).1 = 0 then nI 1 else nI 0)
              rw [if_pos cw]
            · rw [if_neg (by rw [nI_eq0 (by omega)]; exact fun q => cw (cnt_msk.mpr q))]
              refine nxt _ ?_
              show _ = a.2.2.1 + (if wrs (tH Z) (evT (tH Z) (tL Z) 6 ((tF Z).1, a.1, nI 0)).1 = 0 then nI 1 else nI 0)
              rw [if_neg cw]
        · refine WE_i (yes9 z'.1 hr) ?_
          rw [if_neg (by decide)]
          refine WE_i (yes1 z'.1 hn1 hn (by omega)) ?_
          rw [if_neg (by decide)]
          refine WE_i (yes_m z'.1 hd (by omega)) ?_
          rw [if_neg (by decide), nI_l (by omega)]
          simp only [lt]
          have g5 : Fg (fun b j => b = 204 ∧ j = 44) s (jh_setJ s 204 44 (lN r)) := Fg_sJ (Fg_r _ _) ⟨rfl, rfl⟩
          have e5 : (jh_setJ s 204 44 (lN r)).2.2.1 204 44 = lN r := rJ_eq
          have l5 : Ly (jh_setJ s 204 44 (lN r)) := z'.1
          generalize jh_setJ s 204 44 (lN r) = s5 at g5 e5 l5 ⊢
          obtain ⟨z5, r5⟩ := Rm_ok hZ z' g5 l5 (fun b j q => by unfold PmT; omega)
          refine Lp7_inv (I := fun m v6 v7 v8 v9 _ _ s12 => ∃ i a, i ≤ n ∧ m = n - i ∧ v9 = nI i ∧ s12.2.2.1 204 44 = lN a.1 ∧ v6 = a.2.1 ∧ v7 = a.2.2.1 ∧ v8 = a.2.2.2 ∧ a.1 < 2147483648 ∧ Rm Z s12 ∧ Fg (fun b _ => 204 ≤ b ∧ b < 229) σ s12 ∧ evR (tH Z) (tL Z) (tF Z).1 (n - i) a = A) ?_ (m := n) ⟨0, (r, nI 0, nI 0, nI 0), by omega, by omega, rfl, e5, rfl, rfl, rfl, by show r < 2147483648; omega, z5, Fg_t f' r5, hA⟩
          rintro m v6 v7 v8 v9 o10 o11 s12 ⟨i, a, hi, rfl, rfl, e12, rfl, rfl, rfl, ha, z12, f12, ht⟩ X hX
          refine ⟨z12.1, ?_⟩
          by_cases c : n ≤ i
          · rw [if_pos (by rw [nI_leN (by omega) (by omega)]; exact c)]
            rw [show n - i = 0 by omega] at ht
            have ht : a = A := ht
            subst ht
            by_cases d0 : d = 0
            · rw [if_pos (by rw [d0]; rfl), if_pos d0]; exact ⟨rfl, z12, f12⟩
            rw [if_neg (by rw [nI_eq0 (by omega)]; exact d0), if_neg d0]
            by_cases d1 : d = 1
            · rw [if_pos (by rw [d1]), if_pos d1]; exact ⟨rfl, z12, f12⟩
            rw [if_neg (by rw [nI_eqN (by omega) (by omega)]; exact d1), if_neg d1]
            exact ⟨rfl, z12, f12⟩
          · rw [if_neg (by rw [nI_leN (by omega) (by omega)]; exact c)]
            refine m_drawn (c := nI 0) hZ z12 ha e12 fun o s18 z18 f18 M18 S18 r18 e18 => ?_
            refine WE_i (m_wrongs z18.1 hW S18 (Rm_H z18) M18.2.2.1 (by omega)) (WE_i (m_wrongs z18.1 hW S18 (Rm_H z18) M18.2.2.1 (by omega)) ?_)
            have hstep : evR (tH Z) (tL Z) (tF Z).1 (n - (i + 1)) (evA (tH Z) (tL Z) (tF Z).1 a) = A := by
              rw [← ht, show n - i = (n - (i + 1)) + 1 by omega]; rfl
            have w8 := wrs_le (evT (tH Z) (tL Z) 6 ((tF Z).1, a.1, nI 0)).1 hW
            have nxt : ∀ v o1 o2, v = (evA (tH Z) (tL Z) (tF Z).1 a).2.2.1 → X (a.2.1 + nI (wrs (tH Z) (evT (tH Z) (tL Z) 6 ((tF Z).1, a.1, nI 0)).1)) v (a.2.2.2 + (evT (tH Z) (tL Z) 6 ((tF Z).1, a.1, nI 0)).2.2) (nI i + nI 1) o1 o2 s18 := fun v o1 o2 hv => hX (n - (i + 1)) _ _ _ _ _ _ _ (by omega) ⟨i + 1, evA (tH Z) (tL Z) (tF Z).1 a, by omega, rfl, nI_add i 1, e18, rfl, hv, rfl, r18, z18, Fg_t f12 f18, hstep⟩
            by_cases cw : wrs (tH Z) (evT (tH Z) (tL Z) 6 ((tF Z).1, a.1, nI 0)).1 = 0
            · rw [if_pos (by rw [nI_eq0 (by omega)]; exact cw)]
              refine nxt _ _ _ ?_
              show _ = a.2.2.1 + (if wrs (tH Z) (evT (tH Z) (tL Z) 6 ((tF Z).1, a.1, nI 0)).1 = 0 then nI 1 else nI 0)
              rw [if_pos cw]
            · rw [if_neg (by rw [nI_eq0 (by omega)]; exact cw)]
              refine nxt _ _ _ ?_
              show _ = a.2.2.1 + (if wrs (tH Z) (evT (tH Z) (tL Z) 6 ((tF Z).1, a.1, nI 0)).1 = 0 then nI 1 else nI 0)
              rw [if_neg cw]
      · refine Agr_q (mI 1) hZ (fun h pl σ z => w_Ct_evenings _ _ _ z.1.1 ?_) (fun σ z => w_Md_evenings _ _ _ z.1 (lt_thr hZ z fun s z' f' => ?_))
        · rw [if_neg (show ¬ nI r < 0 from cx.1), if_neg cx.2, if_neg (by rw [nI_ltN (by omega) (by omega)]; omega), if_neg (by rw [nI_ltN (by omega) (by omega)]; omega)]
          rcases g1 with g | ⟨g, g3⟩
          · rw [if_pos g]; exact ⟨rfl, z, Fg_r _ _⟩
          · rw [if_neg g, if_neg (Int32.not_le.mpr g3)]; exact ⟨rfl, z, Fg_r _ _⟩
        · refine WE_i (yes9 z'.1 hr) ?_
          rw [if_neg (by decide)]
          refine WE_i (yes1 z'.1 hn1 hn (by omega)) ?_
          rw [if_neg (by decide)]
          refine WE_i (m_within z'.1) ?_
          rw [g2]
          exact ⟨rfl, z', f'⟩
    · refine Agr_q (mI 1) hZ (fun h pl σ z => w_Ct_evenings _ _ _ z.1.1 ?_) (fun σ z => w_Md_evenings _ _ _ z.1 (lt_thr hZ z fun s z' f' => ?_))
      · rw [if_neg (show ¬ nI r < 0 from cx.1), if_neg cx.2]
        rcases g1 with g | ⟨g, g3⟩
        · rw [if_pos g]; exact ⟨rfl, z, Fg_r _ _⟩
        · rw [if_neg g, if_pos g3]; exact ⟨rfl, z, Fg_r _ _⟩
      · refine WE_i (yes9 z'.1 hr) ?_
        rw [if_neg (by decide)]
        refine WE_i (m_within z'.1) ?_
        rw [g2]
        exact ⟨rfl, z', f'⟩
  · refine Agr_q (mI 1) hZ (fun h pl σ z => w_Ct_evenings _ _ _ z.1.1 ?_) (fun σ z => w_Md_evenings _ _ _ z.1 (lt_thr hZ z fun s z' f' => ?_))
    · by_cases g : x < 0
      · rw [if_pos g]; exact ⟨rfl, z, Fg_r _ _⟩
      · rw [if_neg g]
        by_cases g3 : nI 9999 < x
        · rw [if_pos g3]; exact ⟨rfl, z, Fg_r _ _⟩
        · exact absurd ⟨g, g3⟩ cx
    · refine WE_i (m_within z'.1) ?_
      rw [decide_eq_false cx]
      exact ⟨rfl, z', f'⟩
end EV3

section MV3
variable {Z : Ste} {x y w : Int32} {h pl : Nat} {s t σ : JH} {P : Nat → Nat → Prop}
theorem snE_up {sn : Sen} {k e : Nat} (hk : k < 8) (he : e < 8) : (lN (snE sn) <<< ((nI 6).toInt64 &&& 63)) ||| (((nI 8 * nI k) + nI e).toInt64) = lN (snE (sn ++ [(k, e)])) := by
  rw [lN_sl6, nI_mulN, nI_add, nI_l (by omega), lN_or, snE_app]
  congr 1
  show 2 ^ 6 * snE sn ||| (8 * k + e) = 2 ^ 6 * snE sn + (8 * k + e)
  exact (Nat.two_pow_add_eq_or_of_lt (by omega) _).symm
theorem sen_mem {H : Hou} {sn : Sen} {k e : Nat} (hk : k < Hn H) (he : e < Hn H) (g : ∀ q ∈ sn, q.1 < Hn H ∧ q.2 < Hn H) : ∀ q ∈ sn ++ [(k, e)], q.1 < Hn H ∧ q.2 < Hn H := by
  intro q hq
  rcases List.mem_append.mp hq with hq | hq
  · exact g q hq
  · rw [List.mem_singleton.mp hq]; exact ⟨hk, he⟩
set_option maxHeartbeats 1000000 in
theorem a_see (hZ : WZ Z) : Agr q_Ct_see [.ref 64, .int x, .int y] q_Md_see [.ref 204, .int x, .int y] Z := by
  have hW := hZ.1
  have n8 := hW.1
  by_cases c : isB (Hn (tH Z)) x = true ∧ isB (Hn (tH Z)) y = true
  · obtain ⟨k, hk, rfl⟩ := isB_t hW.1 c.1
    obtain ⟨e, he, rfl⟩ := isB_t hW.1 c.2
    by_cases d : (tF Z).2.2.length < 8
    · have hlen : ((tF Z).2.2 ++ [(k, e)]).length = (tF Z).2.2.length + 1 := by rw [List.length_append]; rfl
      have hl8 : ((tF Z).2.2 ++ [(k, e)]).length ≤ 8 := by omega
      refine ⟨nI 1, zF Z ((tF Z).1, (tF Z).2.1, (tF Z).2.2 ++ [(k, e)]) (tU Z) (tK Z), WZ_up hZ hZ.2.1 hZ.2.2.1 hZ.2.2.2.2.2.2.2.1 hZ.2.2.2.1, fun h pl σ z => ?_, fun σ z => ?_⟩
      · refine w_Ct_see _ _ z.1.1 ?_
        rw [z.1.2.2.2.1]
        refine WE_i (c_has z.1.1 z.1.2.1 (Rc_H z)) ?_
        rw [c.1, if_neg (by decide)]
        refine WE_i (c_has z.1.1 z.1.2.1 (Rc_H z)) ?_
        rw [c.2, if_neg (by decide)]
        obtain ⟨g1, g2, g3, g4⟩ := z.2.2.2.2.1.2.2
        rw [if_pos (by rw [g2, nI_ltN (by omega) (by omega)]; exact d)]
        refine w_Mu_addSeen 114 _ _ z.1.1 mu_114 ?_
        simp only [lt]
        rw [g1, snE_up (by omega) (by omega)]
        have f1 : Fg (fun b j => b = 114 ∧ j = 10) σ (jh_setJ σ 114 10 (lN (snE ((tF Z).2.2 ++ [(k, e)])))) := Fg_sJ (Fg_r _ _) ⟨rfl, rfl⟩
        have e1 : (jh_setJ σ 114 10 (lN (snE ((tF Z).2.2 ++ [(k, e)])))).2.2.1 114 10 = lN (snE ((tF Z).2.2 ++ [(k, e)])) := rJ_eq
        have l1 : Ly (jh_setJ σ 114 10 (lN (snE ((tF Z).2.2 ++ [(k, e)])))) := z.1.1
        generalize jh_setJ σ 114 10 (lN (snE ((tF Z).2.2 ++ [(k, e)]))) = s1 at f1 e1 l1 ⊢
        rw [(f1.2.1 114 11 (by omega)), g2, nI_add]
        have f2 : Fi (fun b j => b = 114 ∧ j = 11) s1 (jh_setI s1 114 11 (nI ((tF Z).2.2.length + 1))) := Fi_s (Fi_r _ _) ⟨rfl, rfl⟩
        have e2 : (jh_setI s1 114 11 (nI ((tF Z).2.2.length + 1))).2.1 114 11 = nI ((tF Z).2.2.length + 1) := rI_eq
        have e3 : (jh_setI s1 114 11 (nI ((tF Z).2.2.length + 1))).2.2.1 114 10 = lN (snE ((tF Z).2.2 ++ [(k, e)])) := e1
        have l2 := Fi_ly f2 l1
        generalize jh_setI s1 114 11 (nI ((tF Z).2.2.length + 1)) = s2 at f2 e2 e3 l2 ⊢
        have f : Fg (fun b j => b = 114 ∧ (j = 10 ∨ j = 11)) σ s2 := Fg_t (Fg_m f1 (fun b j q => by omega)) (Fg_m (Fi_g f2) (fun b j q => by omega))
        refine ⟨l2, trivial, ⟨h, pl, ?_⟩, Fg_m f (fun b j q => by omega)⟩
        refine Rc_up z f l2 (fun b j _ _ q => by unfold PcU; omega) ⟨?_, (f.2.1 _ _ (by omega)).trans z.2.2.2.2.1.2.1, e3, by rw [hlen]; exact e2, hl8, sen_mem hk he g4⟩ (cPa_g f ⟨by omega, by omega⟩ (fun b j _ _ => by omega) z.2.2.2.2.2.1) (cMk_g f (by omega) (fun b j _ _ => by omega) z.2.2.2.2.2.2.1)
        have C := Cs_g (Rc_Cs z) f l2 (by omega) (fun j _ => by omega) (fun b j _ _ => by omega) (fun b j _ _ => by omega)
        exact C.2.2.2
      · refine w_Md_see _ _ z.1 (lt_thr hZ z fun s z' f' => ?_)
        refine WE_i (m_isBody z'.1 (Rm_H z')) ?_
        rw [c.1, if_neg (by decide)]
        refine WE_i (m_isBody z'.1 (Rm_H z')) ?_
        rw [c.2, if_neg (by decide)]
        obtain ⟨g1, g2, g3⟩ := mSb_0 z'.2.2.2.2.1.2.2
        rw [if_neg (by rw [g1, nI_eqN (by omega) (by omega)]; omega)]
        simp only [lt]
        generalize hn : (tF Z).2.2.length = n at *
        have p1 : inb (nI (92 + 2 * n)) 2484 := by rw [inb_nI (by omega) (by omega)]; omega
        rw [g1, nI_mulN, nI_add]
        refine ⟨p1, ?_⟩
        rw [cl_nI (by omega)]
        have f1 : Fi (fun b j => b = 218 ∧ j = 92 + 2 * n) s (jh_setI s 218 (92 + 2 * n) (nI k)) := Fi_s (Fi_r _ _) ⟨rfl, rfl⟩
        have e1 : (jh_setI s 218 (92 + 2 * n) (nI k)).2.1 218 (92 + 2 * n) = nI k := rI_eq
        have l1 := Fi_ly f1 z'.1
        generalize jh_setI s 218 (92 + 2 * n) (nI k) = s4 at f1 e1 l1 ⊢
        rw [f1.2.2 218 91 (by omega), g1, nI_mulN, nI_add, nI_add]
        refine ⟨by rw [inb_nI (by omega) (by omega)]; omega, ?_⟩
        rw [cl_nI (by omega)]
        have f2 : Fi (fun b j => b = 218 ∧ (j = 92 + 2 * n ∨ j = 92 + 2 * n + 1)) s (jh_setI s4 218 (92 + 2 * n + 1) (nI e)) := Fi_s (Fi_m f1 (fun b j q => by omega)) ⟨rfl, by omega⟩
        have e2 : (jh_setI s4 218 (92 + 2 * n + 1) (nI e)).2.1 218 (92 + 2 * n + 1) = nI e := rI_eq
        have e3 : (jh_setI s4 218 (92 + 2 * n + 1) (nI e)).2.1 218 (92 + 2 * n) = nI k := (rI_ne (by omega)).trans e1
        have l2 := Fi_ly f2 z'.1
        generalize jh_setI s4 218 (92 + 2 * n + 1) (nI e) = s5 at f2 e2 e3 l2 ⊢
        rw [f2.2.2 218 91 (by omega), g1, nI_add]
        have f3 : Fi (fun b j => b = 218 ∧ (j = 91 ∨ j = 92 + 2 * n ∨ j = 92 + 2 * n + 1)) s (jh_setI s5 218 91 (nI (n + 1))) := Fi_s (Fi_m f2 (fun b j q => by omega)) ⟨rfl, by omega⟩
        have d1 : (jh_setI s5 218 91 (nI (n + 1))).2.1 218 91 = nI (n + 1) := rI_eq
        have d2 : (jh_setI s5 218 91 (nI (n + 1))).2.1 218 (92 + 2 * n + 1) = nI e := (rI_ne (by omega)).trans e2
        have d3 : (jh_setI s5 218 91 (nI (n + 1))).2.1 218 (92 + 2 * n) = nI k := (rI_ne (by omega)).trans e3
        have l3 := Fi_ly f3 z'.1
        generalize jh_setI s5 218 91 (nI (n + 1)) = s6 at f3 d1 d2 d3 l3 ⊢
        refine ⟨trivial, ?_, Fg_t f' (Fg_m (Fi_g f3) (fun b j q => by omega))⟩
        refine Rm_up hZ z' (Fi_g f3) l3 (fun b j _ _ q => by unfold PmU; omega) ⟨mM_g n8 (Fi_g f3) (fun j _ _ => by omega) (Rm_M z'), (f3.2.2 _ _ (by omega)).trans z'.2.2.2.2.1.2.1, mSn_0 ⟨by rw [hlen]; exact d1, hl8, fun i q e => ?_⟩⟩ (mPa_g n8 hZ.2.2.2.2.2.2.2.1 (Fi_g f3) (by omega) (fun j _ _ => by omega) z'.2.2.2.2.2.1) (mMk_g n8 (Fi_g f3) (fun j => by omega) (fun j _ _ => by omega) z'.2.2.2.2.2.2.1)
        by_cases w : i < n
        · rw [List.getElem?_append_left (by omega)] at e
          obtain ⟨a, b, r⟩ := g3 i q e
          exact ⟨(f3.2.2 _ _ (by omega)).trans a, (f3.2.2 _ _ (by omega)).trans b, r⟩
        · have hi : i < ((tF Z).2.2 ++ [(k, _)]).length := (List.getElem?_eq_some_iff.mp e).1
          have hi : i = n := by omega
          subst hi
          rw [List.getElem?_append_right (by omega), hn, Nat.sub_self] at e
          obtain rfl := Option.some.inj e
          exact ⟨d3, d2, hk, he⟩
    · refine Agr_q (nI 0) hZ (fun h pl σ z => ?_) (fun σ z => w_Md_see _ _ z.1 (lt_thr hZ z fun s z' f' => ?_))
      · refine w_Ct_see _ _ z.1.1 ?_
        rw [z.1.2.2.2.1]
        refine WE_i (c_has z.1.1 z.1.2.1 (Rc_H z)) ?_
        rw [c.1, if_neg (by decide)]
        refine WE_i (c_has z.1.1 z.1.2.1 (Rc_H z)) ?_
        rw [c.2, if_neg (by decide)]
        obtain ⟨g1, g2, g3, g4⟩ := z.2.2.2.2.1.2.2
        rw [if_neg (by rw [g2, nI_ltN (by omega) (by omega)]; exact d)]
        exact ⟨rfl, z, Fg_r _ _⟩
      · refine WE_i (m_isBody z'.1 (Rm_H z')) ?_
        rw [c.1, if_neg (by decide)]
        refine WE_i (m_isBody z'.1 (Rm_H z')) ?_
        rw [c.2, if_neg (by decide)]
        obtain ⟨g1, g2, g3⟩ := mSb_0 z'.2.2.2.2.1.2.2
        rw [if_pos (by rw [g1, nI_eqN (by omega) (by omega)]; omega)]
        exact ⟨rfl, z', f'⟩
  · refine Agr_q (nI 0) hZ (fun h pl σ z => ?_) (fun σ z => w_Md_see _ _ z.1 (lt_thr hZ z fun s z' f' => ?_))
    · refine w_Ct_see _ _ z.1.1 ?_
      rw [z.1.2.2.2.1]
      refine WE_i (c_has z.1.1 z.1.2.1 (Rc_H z)) ?_
      cases h1 : isB (Hn (tH Z)) x
      · exact ⟨rfl, z, Fg_r _ _⟩
      · rw [if_neg (by decide)]
        refine WE_i (c_has z.1.1 z.1.2.1 (Rc_H z)) ?_
        cases h2 : isB (Hn (tH Z)) y
        · exact ⟨rfl, z, Fg_r _ _⟩
        · exact absurd ⟨h1, h2⟩ c
    · refine WE_i (m_isBody z'.1 (Rm_H z')) ?_
      cases h1 : isB (Hn (tH Z)) x
      · exact ⟨rfl, z', f'⟩
      · rw [if_neg (by decide)]
        refine WE_i (m_isBody z'.1 (Rm_H z')) ?_
        cases h2 : isB (Hn (tH Z)) y
        · exact ⟨rfl, z', f'⟩
        · exact absurd ⟨h1, h2⟩ c
end MV3

section MK
variable {Z : Ste} {x y w : Int32} {h pl a p : Nat} {s t σ : JH} {P : Nat → Nat → Prop} {H : Hou} {q : Ful}
def PMs (a b j : Nat) : Prop := (b = a ∧ j ≤ 11) ∨ (a < b ∧ b < a + 4)
theorem c_copySeen (ha : IsMu a) (hp : IsMu p) (hne : a ≠ p) (hW : WH H) (C : Cs H q.1 p h σ) (hF : cFu H q p h σ) : WM q_Mu_copyWithSeen [.ref a, .ref p] σ (kV fun s => Ly s ∧ cFu H q a h s ∧ Fg (PMs a) σ s) := by
  have hs := mu_sep ha hp hne
  refine w_Mu_copyWithSeen a p C.1 ha hp ?_
  refine WM_V (c_copy ha hp hne hW C) fun s1 ⟨C1, f1, e1⟩ => ⟨C1.1, ?_⟩
  simp only [lt]
  obtain ⟨g1, g2, g3, g4⟩ := hF.2.2
  rw [f1.2.2.1 p 10 (by unfold PMc; omega), g1]
  have f2 : Fg (fun b j => b = a ∧ j = 10) s1 (jh_setJ s1 a 10 (lN (snE q.2.2))) := Fg_sJ (Fg_r _ _) ⟨rfl, rfl⟩
  have e2 : (jh_setJ s1 a 10 (lN (snE q.2.2))).2.2.1 a 10 = lN (snE q.2.2) := rJ_eq
  have l2 : Ly (jh_setJ s1 a 10 (lN (snE q.2.2))) := C1.1
  generalize jh_setJ s1 a 10 (lN (snE q.2.2)) = s2 at f2 e2 l2 ⊢
  rw [f2.2.1 p 11 (by omega), f1.2.1 p 11 (by unfold PMc; omega), g2]
  have f3 : Fi (fun b j => b = a ∧ j = 11) s2 (jh_setI s2 a 11 (nI q.2.2.length)) := Fi_s (Fi_r _ _) ⟨rfl, rfl⟩
  have e3 : (jh_setI s2 a 11 (nI q.2.2.length)).2.1 a 11 = nI q.2.2.length := rI_eq
  have e4 : (jh_setI s2 a 11 (nI q.2.2.length)).2.2.1 a 10 = lN (snE q.2.2) := e2
  have l3 := Fi_ly f3 l2
  generalize jh_setI s2 a 11 (nI q.2.2.length) = s3 at f3 e3 e4 l3 ⊢
  have f : Fg (fun b j => b = a ∧ (j = 10 ∨ j = 11)) s1 s3 := Fg_t (Fg_m f2 (fun b j q => by omega)) (Fg_m (Fi_g f3) (fun b j q => by omega))
  have hg := mu_ge ha
  have C3 := Cs_g C1 f l3 (by omega) (fun j _ => by omega) (fun b j _ _ => by omega) (fun b j _ _ => by omega)
  exact ⟨l3, ⟨C3.2.2.2, (f.2.1 _ _ (by omega)).trans (e1.trans hF.2.1), e4, e3, g3, g4⟩, Fg_t (Fg_m f1 (fun b j q => by unfold PMc at q; unfold PMs; omega)) (Fg_m f (fun b j q => by unfold PMs; omega))⟩
theorem mFu_copy {fr to : Nat} (n8 : Hn H ≤ 8) (h : ∀ j, j < 108 → s.2.1 218 (to + j) = σ.2.1 218 (fr + j)) (z : mFu H q fr σ) : mFu H q to s := by
  obtain ⟨z1, z2, z3, z4, z5⟩ := z
  refine ⟨mM_copy n8 (fun j hj => h j (by omega)) z1, (h 1 (by omega)).trans z2, (h 91 (by omega)).trans z3, z4, fun i r e => ?_⟩
  obtain ⟨a, b, c⟩ := z5 i r e
  have hi := (List.getElem?_eq_some_iff.mp e).1
  exact ⟨(h _ (by omega)).trans a, (h _ (by omega)).trans b, c⟩
theorem msk_set4 {f : Nat → Bool} {k : Nat} (hk : k < 4) : nI (msk f 4) ||| (nI 1 <<< (nI k &&& 31)) = nI (msk (up1 f k true) 4) := bk_set (by omega) hk
set_option maxHeartbeats 1000000 in
theorem a_mark (hZ : WZ Z) : Agr q_Ct_mark [.ref 64, .int x, .int y] q_Md_mark [.ref 204, .int x, .int y] Z := by
  have hW := hZ.1
  have n8 := hW.1
  have nar : vp_nar (jt_at 103) (nI 1) = nI 1 := by decide
  by_cases c : isB 4 x = true
  · obtain ⟨i, hi, rfl⟩ := isB_t (by omega) c
    have nlt0 : ¬ nI i < 0 := by rw [nI_lt0 (by omega)]; exact id
    have lt4 : nI i < nI 4 := by rw [nI_ltN (by omega) (by omega)]; exact hi
    have win : ∀ s, Ly s → q_Md_within [.int (nI i), .int (nI 0), .int (nI 3)] s = some (some (.int (bI true)), s) := fun s hl => by
      rw [m_within hl, decide_eq_true]
      rw [nI_ltN (by omega) (by omega), nI_ltN (by omega) (by omega)]
      omega
    have hin : inb (nI i) 4 := by rw [inb_nI (by omega) (by omega)]; exact hi
    have hmm := mu_mark hin
    rw [cl_nI (by omega)] at hmm
    by_cases d : y = 0
    · refine ⟨nI 1, zF Z (tF Z) (tU Z) (up1 (tK Z) i (some (tF Z))), WZ_up hZ hZ.2.1 hZ.2.2.1 hZ.2.2.2.2.2.2.2.1 (fun j q e => ?_), fun h pl σ z => ?_, fun σ z => ?_⟩
      · by_cases w : j = i
        · subst w
          rw [up1_eq] at e
          rw [← Option.some.inj e]
          exact hZ.2.1
        · rw [up1_ne w] at e
          exact hZ.2.2.2.1 j q e
      · refine w_Ct_mark _ _ z.1.1 ?_
        rw [if_neg nlt0, if_pos lt4, if_pos d]
        refine ⟨hin, ?_⟩
        rw [cl_nI (by omega)]
        refine WM_V (c_copySeen hmm mu_114 (by omega) hW (Rc_Cs z) z.2.2.2.2.1) fun s2 ⟨l2, F2, f2⟩ => ⟨l2, ?_⟩
        simp only [lt]
        rw [f2.2.1 64 15 (by unfold PMs; omega), z.2.2.2.2.2.2.1.1, msk_set4 hi]
        have f3 : Fi (fun b j => b = 64 ∧ j = 15) s2 (jh_setI s2 64 15 (nI (msk (up1 (fun i => (tK Z i).isSome) i true) 4))) := Fi_s (Fi_r _ _) ⟨rfl, rfl⟩
        have e3 : (jh_setI s2 64 15 (nI (msk (up1 (fun i => (tK Z i).isSome) i true) 4))).2.1 64 15 = nI (msk (up1 (fun i => (tK Z i).isSome) i true) 4) := rI_eq
        have l3 := Fi_ly f3 l2
        generalize jh_setI s2 64 15 (nI (msk (up1 (fun i => (tK Z i).isSome) i true) 4)) = s3 at f3 e3 l3 ⊢
        have f : Fg (fun b j => PMs (188 + 4 * i) b j ∨ (b = 64 ∧ j = 15)) σ s3 := Fg_t (Fg_m f2 (fun b j q => Or.inl q)) (Fg_m (Fi_g f3) (fun b j q => Or.inr q))
        refine ⟨trivial, ⟨h, pl, ?_⟩, Fg_m f (fun b j q => by unfold PMs at q; omega)⟩
        refine Rc_up z f l3 (fun b j _ _ q => by unfold PMs at q; unfold PcU; omega) (cFu_g f (fun b j _ _ => by unfold PMs; omega) z.2.2.2.2.1) (cPa_g f ⟨by unfold PMs; omega, by unfold PMs; omega⟩ (fun b j _ _ => by unfold PMs; omega) z.2.2.2.2.2.1) ⟨?_, fun j q hj e => ?_⟩
        · rw [e3]
          refine congrArg nI (msk_ext (fun j hj => ?_))
          by_cases w : j = i
          · subst w; rw [up1_eq, up1_eq]; rfl
          · rw [up1_ne w, up1_ne w]
        · by_cases w : j = i
          · subst w
            rw [up1_eq] at e
            obtain rfl := Option.some.inj e
            exact cFu_g (Fi_g f3) (fun b j _ _ => by omega) F2
          · rw [up1_ne w] at e
            exact cFu_g f (fun b j _ _ => by unfold PMs; omega) (z.2.2.2.2.2.2.1.2 j q hj e)
      · refine w_Md_mark _ _ z.1 (lt_thr hZ z fun s z' f' => ?_)
        refine WE_i (win s z'.1) ?_
        rw [if_neg (by decide)]
        simp only [JJ1, JJ2, lt]
        rw [if_pos d]
        refine ⟨hin, ?_⟩
        simp only [if_pos d]
        rw [nar, cl_nI (by omega), nI_add, nI_mulN]
        have f1 : Fi (fun b j => b = 219 ∧ j = i) s (jh_setI s 219 i (nI 1)) := Fi_s (Fi_r _ _) ⟨rfl, rfl⟩
        have e1 : (jh_setI s 219 i (nI 1)).2.1 219 i = nI 1 := rI_eq
        have l1 := Fi_ly f1 z'.1
        generalize jh_setI s 219 i (nI 1) = s1 at f1 e1 l1 ⊢
        refine WM_V (m_copies l1 (by omega) (by omega) (Or.inl (by omega))) fun s3 ⟨l3, f3, q3⟩ => ⟨l3, ?_⟩
        have f4 : Fi (fun b j => b = 204 ∧ j = 24) s3 (jh_setI s3 204 24 (s3.2.1 204 24)) := Fi_s (Fi_r _ _) ⟨rfl, rfl⟩
        have e4 : (jh_setI s3 204 24 (s3.2.1 204 24)).2.1 204 24 = s3.2.1 204 24 := rI_eq
        have l4 := Fi_ly f4 l3
        generalize jh_setI s3 204 24 (s3.2.1 204 24) = s4 at f4 e4 l4 ⊢
        have f4 : Fi (fun _ _ => False) s3 s4 := ⟨f4.1, f4.2.1, fun b j _ => by
          by_cases w : b = 204 ∧ j = 24
          · rw [w.1, w.2]; exact e4
          · exact f4.2.2 b j w⟩
        have f : Fi (fun b j => PC (108 * (1 + i)) 108 b j ∨ (b = 219 ∧ j = i)) s s4 := Fi_t (Fi_m f1 (fun b j q => Or.inr q)) (Fi_t (Fi_m f3 (fun b j q => Or.inl q)) (Fi_m f4 (fun b j q => q.elim)))
        refine ⟨trivial, ?_, Fg_t f' (Fg_m (Fi_g f) (fun b j q => by unfold PC at q; omega))⟩
        refine Rm_up hZ z' (Fi_g f) l4 (fun b j _ _ q => by unfold PC at q; unfold PmU; omega) (mFu_g n8 (Fi_g f) (fun j _ _ => by unfold PC; omega) z'.2.2.2.2.1) (mPa_g n8 hZ.2.2.2.2.2.2.2.1 (Fi_g f) (by unfold PC; omega) (fun j _ _ => by unfold PC; omega) z'.2.2.2.2.2.1) ⟨fun j hj => ?_, fun j q hj e => ?_⟩
        · by_cases w : j = i
          · subst w
            rw [up1_eq, f4.2.2 _ _ id, f3.2.2 _ _ (by unfold PC; omega), e1]
            rfl
          · rw [up1_ne w, f.2.2 _ _ (by unfold PC; omega)]
            exact z'.2.2.2.2.2.2.1.1 j hj
        · by_cases w : j = i
          · subst w
            rw [up1_eq] at e
            obtain rfl := Option.some.inj e
            exact mFu_g n8 (Fi_g f4) (fun j _ _ => id) (mFu_copy n8 q3 (mFu_g n8 (Fi_g f1) (fun j _ _ => by omega) z'.2.2.2.2.1))
          · rw [up1_ne w] at e
            exact mFu_g n8 (Fi_g f) (fun j _ _ => by unfold PC; omega) (z'.2.2.2.2.2.2.1.2 j q hj e)
    · cases hK : tK Z i with
      | none =>
        refine Agr_q (nI 0) hZ (fun h pl σ z => ?_) (fun σ z => w_Md_mark _ _ z.1 (lt_thr hZ z fun s z' f' => ?_))
        · refine w_Ct_mark _ _ z.1.1 ?_
          rw [if_neg nlt0, if_pos lt4, if_neg d, z.2.2.2.2.2.2.1.1, bk_get (by omega) hi, hK, if_pos (by decide)]
          exact ⟨rfl, z, Fg_r _ _⟩
        · refine WE_i (win s z'.1) ?_
          rw [if_neg (by decide)]
          simp only [JJ1, JJ2, lt]
          rw [if_neg d]
          refine ⟨hin, ?_⟩
          rw [cl_nI (by omega), z'.2.2.2.2.2.2.1.1 i hi, hK, if_pos (by decide)]
          exact ⟨trivial, z', f'⟩
      | some q =>
        refine ⟨nI 1, zF Z q [] (tK Z), WZ_up hZ (hZ.2.2.2.1 i q hK) (fun r hr => by cases hr) (by show 0 ≤ 16; omega) hZ.2.2.2.1, fun h pl σ z => ?_, fun σ z => ?_⟩
        · refine w_Ct_mark _ _ z.1.1 ?_
          have Fi0 := z.2.2.2.2.2.2.1.2 i q hi hK
          rw [if_neg nlt0, if_pos lt4, if_neg d, z.2.2.2.2.2.2.1.1, bk_get (by omega) hi, hK, if_neg (by show ¬ bI true = 0; decide)]
          refine ⟨hin, ?_⟩
          rw [cl_nI (by omega)]
          refine WM_V (c_copySeen mu_114 hmm (by omega) hW ⟨z.1.1, z.1.2.1, Rc_H z, Fi0.1⟩ Fi0) fun s2 ⟨l2, F2, f2⟩ => ⟨l2, ?_⟩
          simp only [lt]
          have f3 : Fi (fun b j => b = 64 ∧ j = 14) s2 (jh_setI s2 64 14 (nI 0)) := Fi_s (Fi_r _ _) ⟨rfl, rfl⟩
          have e3 : (jh_setI s2 64 14 (nI 0)).2.1 64 14 = nI 0 := rI_eq
          have l3 := Fi_ly f3 l2
          generalize jh_setI s2 64 14 (nI 0) = s3 at f3 e3 l3 ⊢
          have f : Fg (fun b j => PMs 114 b j ∨ (b = 64 ∧ j = 14)) σ s3 := Fg_t (Fg_m f2 (fun b j q => Or.inl q)) (Fg_m (Fi_g f3) (fun b j q => Or.inr q))
          obtain ⟨pe, p1, p2, p3, p4⟩ := z.2.2.2.2.2.1
          refine ⟨trivial, ⟨h, pl, ?_⟩, Fg_m f (fun b j q => by unfold PMs at q; omega)⟩
          exact Rc_up z f l3 (fun b j _ _ q => by unfold PMs at q; unfold PcU; omega) (cFu_g (Fi_g f3) (fun b j _ _ => by omega) F2) ⟨pe, p1, (f.2.1 _ _ (by unfold PMs; omega)).trans p2, e3, fun i q e => by cases e⟩ (cMk_g f (by unfold PMs; omega) (fun b j _ _ => by unfold PMs; omega) z.2.2.2.2.2.2.1)
        · refine w_Md_mark _ _ z.1 (lt_thr hZ z fun s z' f' => ?_)
          refine WE_i (win s z'.1) ?_
          rw [if_neg (by decide)]
          simp only [JJ1, JJ2, lt]
          rw [if_neg d]
          refine ⟨hin, ?_⟩
          rw [cl_nI (by omega), if_neg (by rw [z'.2.2.2.2.2.2.1.1 i hi, hK]; show ¬ bI true = 0; decide)]
          refine ⟨hin, ?_⟩
          simp only [if_neg d]
          rw [nar, nI_add, nI_mulN]
          have f1 : Fi (fun b j => b = 219 ∧ j = i) s (jh_setI s 219 i (nI 1)) := Fi_s (Fi_r _ _) ⟨rfl, rfl⟩
          have e1 : (jh_setI s 219 i (nI 1)).2.1 219 i = nI 1 := rI_eq
          have l1 := Fi_ly f1 z'.1
          generalize jh_setI s 219 i (nI 1) = s1 at f1 e1 l1 ⊢
          have f1 : Fi (fun _ _ => False) s s1 := ⟨f1.1, f1.2.1, fun b j _ => by
            by_cases w : b = 219 ∧ j = i
            · rw [w.1, w.2, e1, z'.2.2.2.2.2.2.1.1 i hi, hK]; rfl
            · exact f1.2.2 b j w⟩
          refine WM_V (m_copies l1 (by omega) (by omega) (Or.inr (by omega))) fun s3 ⟨l3, f3, q3⟩ => ⟨l3, ?_⟩
          have f4 : Fi (fun b j => b = 204 ∧ j = 24) s3 (jh_setI s3 204 24 (nI 0)) := Fi_s (Fi_r _ _) ⟨rfl, rfl⟩
          have e4 : (jh_setI s3 204 24 (nI 0)).2.1 204 24 = nI 0 := rI_eq
          have l4 := Fi_ly f4 l3
          generalize jh_setI s3 204 24 (nI 0) = s4 at f4 e4 l4 ⊢
          have f : Fi (fun b j => PC 0 108 b j ∨ (b = 204 ∧ j = 24)) s s4 := Fi_t (Fi_m f1 (fun b j q => q.elim)) (Fi_t (Fi_m f3 (fun b j q => Or.inl q)) (Fi_m f4 (fun b j q => Or.inr q)))
          refine ⟨trivial, ?_, Fg_t f' (Fg_m (Fi_g f) (fun b j q => by unfold PC at q; omega))⟩
          exact Rm_up hZ z' (Fi_g f) l4 (fun b j _ _ q => by unfold PC at q; unfold PmU; omega) (mFu_g n8 (Fi_g f4) (fun j _ _ => by omega) (mFu_copy n8 q3 (mFu_g n8 (Fi_g f1) (fun j _ _ => id) (z'.2.2.2.2.2.2.1.2 i q hi hK)))) ⟨e4, fun i q e => by cases e⟩ (mMk_g n8 (Fi_g f) (fun j => by unfold PC; omega) (fun j _ _ => by unfold PC; omega) z'.2.2.2.2.2.2.1)
  · have hn : x < 0 ∨ (¬ x < 0 ∧ ¬ x < nI 4) := by
      by_cases g : x < 0
      · exact Or.inl g
      · exact Or.inr ⟨g, fun g2 => c (decide_eq_true ⟨g, g2⟩)⟩
    refine Agr_q (nI 0) hZ (fun h pl σ z => ?_) (fun σ z => w_Md_mark _ _ z.1 (lt_thr hZ z fun s z' f' => ?_))
    · refine w_Ct_mark _ _ z.1.1 ?_
      rcases hn with g | ⟨g, g2⟩
      · rw [if_pos g]; exact ⟨rfl, z, Fg_r _ _⟩
      · rw [if_neg g, if_neg g2]; exact ⟨rfl, z, Fg_r _ _⟩
    · refine WE_i (m_within z'.1) ?_
      rw [decide_eq_false, if_pos (by decide)]
      · exact ⟨rfl, z', f'⟩
      · intro g
        obtain ⟨j, hj, rfl⟩ := in_rng (by omega) g
        exact c (isB_n (by omega) (by omega))
end MK

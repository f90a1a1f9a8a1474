/-! ===== the model finds the rings ===== -/
section RM
variable {Z : Ste} {k : Nat} {s t σ : JH} {H : Hou} {S : Mud} {T : List (Nat × Nat)}
def PRm (b j : Nat) : Prop := (b = 204 ∧ 28 ≤ j ∧ j ≤ 31) ∨ b = 220 ∨ b = 221 ∨ b = 222
def PTm (b j : Nat) : Prop := (b = 204 ∧ j = 28) ∨ b = 220 ∨ b = 221
def mT (T : List (Nat × Nat)) (s : JH) : Prop := s.2.1 204 28 = nI T.length ∧ T.length ≤ 24 ∧ ∀ j q, T[j]? = some q → s.2.1 220 j = nI q.1 ∧ s.2.1 221 j = nI q.2
theorem mT_f {P : Nat → Nat → Prop} (f : Fi P s t) (h1 : ¬ P 204 28) (h2 : ∀ j, ¬ P 220 j ∧ ¬ P 221 j) (z : mT T s) : mT T t := ⟨(f.2.2 _ _ h1).trans z.1, z.2.1, fun j q e => ⟨(f.2.2 _ _ (h2 j).1).trans (z.2.2 j q e).1, (f.2.2 _ _ (h2 j).2).trans (z.2.2 j q e).2⟩⟩
theorem m_adds {a b : Nat} (hl : Ly s) (z : mT T s) (h24 : T.length < 24) : WM q_Md_adds [.ref 204, .int (nI a), .int (nI b)] s (kV fun t => Ly t ∧ Fi PTm s t ∧ mT (T ++ [(a, b)]) t) := by
  refine w_Md_adds _ _ hl ?_
  obtain ⟨z1, z2, z3⟩ := z
  rw [z1]
  refine ⟨by rw [inb_nI (by omega) (by omega)]; omega, ?_⟩
  rw [cl_nI (by omega)]
  simp only [lt]
  have f1 : Fi PTm s (jh_setI s 220 T.length (nI a)) := Fi_s (Fi_r _ _) (by unfold PTm; omega)
  have e1 : (jh_setI s 220 T.length (nI a)).2.1 220 T.length = nI a := rI_eq
  have e2 : (jh_setI s 220 T.length (nI a)).2.1 204 28 = nI T.length := (rI_ne (by omega)).trans z1
  have e3 : ∀ b j, ¬ (b = 220 ∧ j = T.length) → (jh_setI s 220 T.length (nI a)).2.1 b j = s.2.1 b j := fun b j h => rI_ne (by omega)
  generalize jh_setI s 220 T.length (nI a) = s1 at f1 e1 e2 e3 ⊢
  rw [e2]
  refine ⟨by rw [inb_nI (by omega) (by omega)]; omega, ?_⟩
  rw [cl_nI (by omega)]
  have f2 : Fi PTm s (jh_setI s1 221 T.length (nI b)) := Fi_s f1 (by unfold PTm; omega)
  have g1 : (jh_setI s1 221 T.length (nI b)).2.1 221 T.length = nI b := rI_eq
  have g2 : (jh_setI s1 221 T.length (nI b)).2.1 204 28 = nI T.length := (rI_ne (by omega)).trans e2
  have g3 : ∀ b' j, ¬ (b' = 221 ∧ j = T.length) → (jh_setI s1 221 T.length (nI b)).2.1 b' j = s1.2.1 b' j := fun b' j h => rI_ne (by omega)
  generalize jh_setI s1 221 T.length (nI b) = s2 at f2 g1 g2 g3 ⊢
  rw [g2, nI_add]
  have f3 : Fi PTm s (jh_setI s2 204 28 (nI (T.length + 1))) := Fi_s f2 (by unfold PTm; omega)
  have hlen : (T ++ [(a, b)]).length = T.length + 1 := by rw [List.length_append]; rfl
  refine ⟨Fi_ly f3 hl, f3, by rw [hlen]; exact rI_eq, by omega, fun j q e => ?_⟩
  have hj : j < (T ++ [(a, b)]).length := (List.getElem?_eq_some_iff.mp e).1
  rw [rI_ne (by omega), rI_ne (by omega)]
  by_cases c : j < T.length
  · rw [List.getElem?_append_left c] at e
    rw [g3 _ _ (by omega), g3 _ _ (by omega), e3 _ _ (by omega), e3 _ _ (by omega)]
    exact z3 j q e
  · rw [List.getElem?_append_right (by omega), show j - T.length = 0 by omega] at e
    obtain rfl := Option.some.inj e
    rw [show j = T.length by omega]
    exact ⟨(g3 _ _ (by omega)).trans e1, g1⟩
def wkj (f : Nat → Nat) (i j y : Nat) : Bool := wkd f i y || (List.range j).any (fun m => itr f m i == y)
theorem wkj_up (f : Nat → Nat) (i j y : Nat) : wkj f i (j + 1) y = up1 (wkj f i j) (itr f j i) true y := by
  unfold wkj
  rw [List.range_succ, List.any_append]
  by_cases c : y = itr f j i
  · rw [c, up1_eq]; simp
  · rw [up1_ne c]
    have : (itr f j i == y) = false := by rw [beq_eq_false_iff_ne]; exact fun q => c q.symm
    simp [this]
def mRg (H : Hou) (S : Mud) (s : JH) : Prop := mT (rgD (mi S) (Hn H)) s ∧ s.2.1 204 29 = nI (rgF (mi S) (Hn H) (Hn H)).2.1 ∧ s.2.1 204 30 = nI (rgF (mi S) (Hn H) (Hn H)).2.2.1 ∧ s.2.1 204 31 = nI ((rgF (mi S) (Hn H) (Hn H)).2.2.2 % 2)
set_option maxHeartbeats 2000000 in
theorem m_findRings (hW : WH H) (hS : WS H S) (hl : Ly σ) (hH : mH H σ) (hM : mM H S 0 σ) : WM q_Md_findRings [.ref 204] σ (kV fun s => Ly s ∧ Fi PRm σ s ∧ mRg H S s) := by
  have n8 := hW.1
  have hp := hS.1
  refine w_Md_findRings hl ?_
  simp only [lt]
  have f4 : Fi PRm σ (jh_setI (jh_setI (jh_setI (jh_setI σ 204 28 (nI 0)) 204 29 (nI 0)) 204 30 (nI 0)) 204 31 (nI 0)) := Fi_s (Fi_s (Fi_s (Fi_s (Fi_r _ _) (by unfold PRm; omega)) (by unfold PRm; omega)) (by unfold PRm; omega)) (by unfold PRm; omega)
  have a2 : (jh_setI (jh_setI (jh_setI (jh_setI σ 204 28 (nI 0)) 204 29 (nI 0)) 204 30 (nI 0)) 204 31 (nI 0)).2.1 204 28 = nI 0 := (rI_ne (by omega)).trans ((rI_ne (by omega)).trans ((rI_ne (by omega)).trans rI_eq))
  have a3 : (jh_setI (jh_setI (jh_setI (jh_setI σ 204 28 (nI 0)) 204 29 (nI 0)) 204 30 (nI 0)) 204 31 (nI 0)).2.1 204 29 = nI 0 := (rI_ne (by omega)).trans ((rI_ne (by omega)).trans rI_eq)
  have a4 : (jh_setI (jh_setI (jh_setI (jh_setI σ 204 28 (nI 0)) 204 29 (nI 0)) 204 30 (nI 0)) 204 31 (nI 0)).2.1 204 30 = nI 0 := (rI_ne (by omega)).trans rI_eq
  have a5 : (jh_setI (jh_setI (jh_setI (jh_setI σ 204 28 (nI 0)) 204 29 (nI 0)) 204 30 (nI 0)) 204 31 (nI 0)).2.1 204 31 = nI 0 := rI_eq
  generalize jh_setI (jh_setI (jh_setI (jh_setI σ 204 28 (nI 0)) 204 29 (nI 0)) 204 30 (nI 0)) 204 31 (nI 0) = s4 at f4 a2 a3 a4 a5 ⊢
  have HH : ∀ t, Fi PRm σ t → mH H t := fun t ft => mH_f ft (fun j => by unfold PRm; omega) hH
  have MM : ∀ t, Fi PRm σ t → mM H S 0 t := fun t ft => mM_f n8 ft (fun j _ _ _ => by unfold PRm; omega) hM
  refine Lp6_inv (I := fun m v5 v6 _ _ _ s10 => ∃ i, i ≤ Hn H ∧ m = Hn H - i ∧ v6 = nI i ∧ v5 = nI (msk (wkd (mi S) i) (Hn H)) ∧ Fi PRm σ s10 ∧ mT (rgF (mi S) (Hn H) i).1 s10 ∧ s10.2.1 204 29 = nI (rgF (mi S) (Hn H) i).2.1 ∧ s10.2.1 204 30 = nI (rgF (mi S) (Hn H) i).2.2.1 ∧ s10.2.1 204 31 = nI ((rgF (mi S) (Hn H) i).2.2.2 % 2)) ?_ (m := Hn H) ⟨0, by omega, by omega, rfl, congrArg nI (msk_0 (fun _ _ => rfl)).symm, f4, ⟨a2, by show 0 ≤ 24; omega, fun j q e => (by cases e)⟩, a3, a4, a5⟩
  rintro m v5 v6 o7 o8 o9 s10 ⟨i, hi, rfl, rfl, rfl, f10, t10, e3, e4, e5⟩ X hX
  have l10 := Fi_ly f10 hl
  obtain ⟨n1, n2, n3, n4⟩ := rgF_len hp n8 i hi
  have nc := cntB_le (wkd (mi S) i) (Hn H)
  refine ⟨l10, WE_i (m_bodies l10 (HH _ f10)) ?_⟩
  by_cases c2 : Hn H ≤ i
  · rw [if_pos (by rw [nI_leN (by omega) (by omega)]; exact c2)]
    have hin : i = Hn H := by omega
    subst hin
    rw [e3, nI_modN (by omega) (by omega)]
    by_cases c3 : (rgF (mi S) (Hn H) (Hn H)).2.1 % 2 = 1
    · rw [if_pos (by rw [c3])]
      refine WM_V (m_adds l10 t10 (by omega)) fun s13 ⟨l13, f13, t13⟩ => ⟨l13, ?_⟩
      exact ⟨l13, Fi_t f10 (Fi_m f13 (fun b j q => by unfold PTm at q; unfold PRm; omega)), by unfold rgD; rw [if_pos c3]; exact t13, (f13.2.2 _ _ (by unfold PTm; omega)).trans e3, (f13.2.2 _ _ (by unfold PTm; omega)).trans e4, (f13.2.2 _ _ (by unfold PTm; omega)).trans e5⟩
    · rw [if_neg (by rw [nI_eqN (by omega) (by omega)]; exact c3)]
      exact ⟨l10, f10, by unfold rgD; rw [if_neg c3]; exact t10, e3, e4, e5⟩
  · rw [if_neg (by rw [nI_leN (by omega) (by omega)]; exact c2)]
    have hin : i < Hn H := by omega
    have b1 := hp.1 i hin
    rw [bk_get n8 hin]
    have skip : ∀ o1 o2 o3, ¬ (mi S i ≠ i ∧ wkd (mi S) i i = false) → X (nI (msk (wkd (mi S) i) (Hn H))) (nI i + nI 1) o1 o2 o3 s10 := fun o1 o2 o3 hno => by
      have er : rgF (mi S) (Hn H) (i + 1) = rgF (mi S) (Hn H) i := if_neg hno
      exact hX (Hn H - (i + 1)) _ _ _ _ _ _ (by omega) ⟨i + 1, by omega, rfl, nI_add i 1, congrArg nI (msk_ext (fun y hy => (wkd_no hp n8 hin hno).symm)), f10, by rw [er]; exact t10, by rw [er]; exact e3, by rw [er]; exact e4, by rw [er]; exact e5⟩
    cases z : wkd (mi S) i i
    · rw [if_pos (by decide)]
      refine WE_i (m_isThere l10 n8 (MM _ f10) (by omega) hin) ?_
      cases hth : th S i
      · rw [if_pos (by decide)]
        exact skip _ _ _ (fun q => q.1 (hS.2.1 i hin hth))
      · rw [if_neg (by decide), nI_add]
        refine ⟨by rw [inb_nI (by omega) (by omega)]; omega, ?_⟩
        have em : s10.2.1 218 (3 + i) = nI (mi S i) := by have := (MM _ f10).2.2.1 i hin; rw [Nat.zero_add] at this; exact this
        rw [cl_nI (by omega), em]
        by_cases d : mi S i = i
        · rw [if_pos (by rw [d])]
          exact skip _ _ _ (fun q => q.1 d)
        · rw [if_neg (by rw [nI_eqN (by omega) (by omega)]; exact d)]
          obtain ⟨sz, p1, p2, p3, p4, p5, p6⟩ := per hp n8 hin
          have h2 := per_2 hp n8 hin d
          have hw := wkd_ring hp n8 hin d z
          have hw2 := cntB_le (wkd (mi S) (i + 1)) (Hn H)
          rw [p4] at h2 hw
          have er : rgF (mi S) (Hn H) (i + 1) = ((rgF (mi S) (Hn H) i).1 ++ rtn (mi S) i sz, (rgF (mi S) (Hn H) i).2.1 + 1, max (rgF (mi S) (Hn H) i).2.2.1 sz, (rgF (mi S) (Hn H) i).2.2.2 + (sz - 1)) := by rw [← p4]; exact if_pos ⟨d, z⟩
          refine Lp4_inv (I := fun m v15 v16 v17 s18 => ∃ j, j ≤ sz ∧ m = sz - j ∧ v16 = nI j ∧ v17 = nI (itr (mi S) j i) ∧ v15 = nI (msk (wkj (mi S) i j) (Hn H)) ∧ Fi (fun b _ => b = 222) s10 s18 ∧ ∀ m, m < j → s18.2.1 222 m = nI (itr (mi S) m i)) ?_ (m := sz) ⟨0, by omega, by omega, rfl, rfl, congrArg nI (msk_ext (fun y _ => by unfold wkj; simp)), Fi_r _ _, fun m hm => by omega⟩
          rintro m v15 v16 v17 s18 ⟨j, hj, rfl, rfl, rfl, rfl, f18, r18⟩ X19 hX19
          have l18 := Fi_ly f18 l10
          have hb := itr_lt hp hin j
          refine ⟨l18, ?_⟩
          rw [bk_get n8 hb]
          by_cases cj : j < sz
          · have hno : wkj (mi S) i j (itr (mi S) j i) = false := by
              cases q : wkj (mi S) i j (itr (mi S) j i)
              · rfl
              · exfalso
                unfold wkj at q
                rw [Bool.or_eq_true] at q
                rcases q with q | q
                · have := wkd_cl hp n8 hin q ((p6 _).mpr ⟨j, cj, rfl⟩)
                  rw [this] at z; cases z
                · obtain ⟨m, hm, e⟩ := List.any_eq_true.mp q
                  have hm := List.mem_range.mp hm
                  have := p5 m j (by omega) cj (eq_of_beq e)
                  omega
            rw [hno, if_pos (by decide)]
            refine ⟨by rw [inb_nI (by omega) (by omega)]; omega, ?_⟩
            rw [cl_nI (by omega), nI_add]
            refine ⟨by rw [inb_nI (by omega) (by omega)]; omega, ?_⟩
            have f20 : Fi (fun b _ => b = 222) s10 (jh_setI s18 222 j (nI (itr (mi S) j i))) := Fi_s f18 rfl
            have r20 : ∀ m, m < j + 1 → (jh_setI s18 222 j (nI (itr (mi S) j i))).2.1 222 m = nI (itr (mi S) m i) := fun m hm => by
              by_cases w : m = j
              · rw [w]; exact rI_eq
              · exact (rI_ne (by omega)).trans (r18 m (by omega))
            generalize jh_setI s18 222 j (nI (itr (mi S) j i)) = s20 at f20 r20 ⊢
            have e20 : s20.2.1 218 (3 + itr (mi S) j i) = nI (mi S (itr (mi S) j i)) := by
              have := (MM _ (Fi_t f10 (Fi_m f20 (fun b j q => by unfold PRm; omega)))).2.2.1 _ hb
              rw [Nat.zero_add] at this
              exact this
            rw [cl_nI (by omega), e20, ← itr_s (mi S) j i, bk_set n8 hb]
            exact hX19 (sz - (j + 1)) _ _ _ _ (by omega) ⟨j + 1, by omega, rfl, nI_add j 1, rfl, congrArg nI (msk_ext (fun y _ => (wkj_up _ _ _ _).symm)), f20, r20⟩
          · have hj : j = sz := by omega
            subst hj
            have hyes : wkj (mi S) i j (itr (mi S) j i) = true := by
              unfold wkj
              rw [Bool.or_eq_true]
              refine Or.inr (List.any_eq_true.mpr ⟨0, List.mem_range.mpr (by omega), ?_⟩)
              rw [p3]
              exact beq_self_eq_true _
            have hwk : nI (msk (wkj (mi S) i j) (Hn H)) = nI (msk (wkd (mi S) (i + 1)) (Hn H)) := by
              refine congrArg nI (msk_ext (fun y _ => ?_))
              rw [wkd_s, decide_eq_false d]
              unfold wkj
              congr 1
              rw [Bool.eq_iff_iff]
              simp only [Bool.not_false, Bool.true_and]
              rw [p6 y, List.any_eq_true]
              exact ⟨fun ⟨m, q1, q2⟩ => ⟨m, List.mem_range.mp q1, eq_of_beq q2⟩, fun ⟨m, q1, q2⟩ => ⟨m, List.mem_range.mpr q1, beq_iff_eq.mpr q2⟩⟩
            rw [hyes, if_neg (by decide), nI_subN (by omega)]
            have t18 := mT_f f18 (by omega) (fun j => by omega) t10
            refine Lp2_inv (I := fun m v21 s22 => ∃ q, q ≤ j - 1 ∧ m = j - 1 - q ∧ v21 = nI q ∧ Fi PTm s18 s22 ∧ mT ((rgF (mi S) (Hn H) i).1 ++ (List.range q).map (fun m => (8, itr (mi S) m i))) s22) ?_ (m := j - 1) ⟨0, by omega, by omega, rfl, Fi_r _ _, by show mT (_ ++ []) s18; rw [List.append_nil]; exact t18⟩
            rintro m v21 s22 ⟨q, hq, rfl, rfl, f22, t22⟩ X23 hX23
            have l22 := Fi_ly f22 l18
            have hlen : ((rgF (mi S) (Hn H) i).1 ++ (List.range q).map (fun m => ((8 : Nat), itr (mi S) m i))).length = (rgF (mi S) (Hn H) i).1.length + q := by rw [List.length_append, List.length_map, List.length_range]
            refine ⟨l22, ?_⟩
            have r22 : ∀ t, Fi PTm s18 t → ∀ m, m < j → t.2.1 222 m = nI (itr (mi S) m i) := fun t ft m hm => (ft.2.2 _ _ (by unfold PTm; omega)).trans (r18 m hm)
            by_cases cq : j - 1 ≤ q
            · rw [if_pos (by rw [nI_leN (by omega) (by omega)]; exact cq)]
              have hqj : q = j - 1 := by omega
              subst hqj
              refine ⟨by rw [inb_nI (by omega) (by omega)]; omega, ?_⟩
              rw [cl_nI (by omega), r22 _ f22 _ (by omega)]
              refine WM_V (m_adds l22 t22 (by omega)) fun s24 ⟨l24, f24, t24⟩ => ⟨l24, ?_⟩
              have g24 := Fi_t f22 f24
              refine ⟨by rw [inb_nI (by omega) (by omega)]; omega, ?_⟩
              rw [r22 _ g24 _ (by omega)]
              refine WM_V (m_adds l24 t24 (by rw [List.length_append, hlen]; show _ + 1 < 24; omega)) fun s25 ⟨l25, f25, t25⟩ => ⟨l25, ?_⟩
              have g25 := Fi_t g24 f25
              have e0 : s25.2.1 222 0 = nI i := r22 _ g25 0 (by omega)
              rw [e0]
              refine WM_V (m_adds l25 t25 (by rw [List.length_append, List.length_append, hlen]; show _ + 1 + 1 < 24; omega)) fun s26 ⟨l26, f26, t26⟩ => ⟨l26, ?_⟩
              have g26 := Fi_t g25 f26
              have gA : Fi (fun b j => b = 222 ∨ PTm b j) s10 s26 := Fi_t (Fi_m f18 (fun b j q => Or.inl q)) (Fi_m g26 (fun b j q => Or.inr q))
              have c29 : s26.2.1 204 29 = nI (rgF (mi S) (Hn H) i).2.1 := (gA.2.2 _ _ (by unfold PTm; omega)).trans e3
              have c30 : s26.2.1 204 30 = nI (rgF (mi S) (Hn H) i).2.2.1 := (gA.2.2 _ _ (by unfold PTm; omega)).trans e4
              have c31 : s26.2.1 204 31 = nI ((rgF (mi S) (Hn H) i).2.2.2 % 2) := (gA.2.2 _ _ (by unfold PTm; omega)).trans e5
              rw [c29, nI_add]
              have t26' : mT ((rgF (mi S) (Hn H) i).1 ++ rtn (mi S) i j) s26 := by
                unfold rtn
                rw [List.append_assoc, List.append_assoc, List.append_assoc] at t26
                exact t26
              have fin : ∀ lo, lo = max (rgF (mi S) (Hn H) i).2.2.1 j → ∀ o1 o2 o3, X (nI (msk (wkj (mi S) i j) (Hn H))) (nI i + nI 1) o1 o2 o3 (jh_setI (jh_setI (jh_setI s26 204 29 (nI ((rgF (mi S) (Hn H) i).2.1 + 1))) 204 30 (nI lo)) 204 31 (nI (((rgF (mi S) (Hn H) i).2.2.2 % 2 + j - 1) % 2))) := by
                intro lo hlo o1 o2 o3
                have g27 : Fi (fun b j => b = 204 ∧ 29 ≤ j ∧ j ≤ 31) s26 (jh_setI (jh_setI (jh_setI s26 204 29 (nI ((rgF (mi S) (Hn H) i).2.1 + 1))) 204 30 (nI lo)) 204 31 (nI (((rgF (mi S) (Hn H) i).2.2.2 % 2 + j - 1) % 2))) := Fi_s (Fi_s (Fi_s (Fi_r _ _) ⟨rfl, by omega, by omega⟩) ⟨rfl, by omega, by omega⟩) ⟨rfl, by omega, by omega⟩
                rw [hwk]
                refine hX (Hn H - (i + 1)) _ _ _ _ _ _ (by omega) ⟨i + 1, by omega, rfl, nI_add i 1, rfl, Fi_t f10 (Fi_t (Fi_m gA (fun b j q => by unfold PTm at q; unfold PRm; omega)) (Fi_m g27 (fun b j q => by unfold PRm; omega))), ?_, ?_, ?_, ?_⟩
                · rw [er]; exact mT_f g27 (by omega) (fun j => by omega) t26'
                · rw [er]; exact (rI_ne (by omega)).trans ((rI_ne (by omega)).trans rI_eq)
                · rw [er]; show _ = nI (max (rgF (mi S) (Hn H) i).2.2.1 j); rw [← hlo]; exact (rI_ne (by omega)).trans rI_eq
                · rw [er]
                  show _ = nI (((rgF (mi S) (Hn H) i).2.2.2 + (j - 1)) % 2)
                  rw [show ((rgF (mi S) (Hn H) i).2.2.2 + (j - 1)) % 2 = ((rgF (mi S) (Hn H) i).2.2.2 % 2 + j - 1) % 2 by omega]
                  exact rI_eq
              rw [show (jh_setI s26 204 29 (nI ((rgF (mi S) (Hn H) i).2.1 + 1))).2.1 204 30 = nI (rgF (mi S) (Hn H) i).2.2.1 from (rI_ne (by omega)).trans c30]
              have k31 : ∀ v, (jh_setI (jh_setI s26 204 29 (nI ((rgF (mi S) (Hn H) i).2.1 + 1))) 204 30 v).2.1 204 31 = nI ((rgF (mi S) (Hn H) i).2.2.2 % 2) := fun v => (rI_ne (by omega)).trans ((rI_ne (by omega)).trans c31)
              have em2 : nI ((rgF (mi S) (Hn H) i).2.2.2 % 2) + nI j - nI 1 - (nI ((rgF (mi S) (Hn H) i).2.2.2 % 2) + nI j - nI 1) / nI 2 * nI 2 = nI (((rgF (mi S) (Hn H) i).2.2.2 % 2 + j - 1) % 2) := by
                rw [nI_add, nI_subN (by omega), nI_modN (by omega) (by omega)]
              rw [k31, k31, em2]
              by_cases cl2 : j ≤ (rgF (mi S) (Hn H) i).2.2.1
              · rw [if_pos (by rw [nI_leN (by omega) (by omega)]; exact cl2)]
                exact fin _ (by omega) _ _ _
              · rw [if_neg (by rw [nI_leN (by omega) (by omega)]; exact cl2)]
                exact fin _ (by omega) _ _ _
            · rw [if_neg (by rw [nI_leN (by omega) (by omega)]; exact cq)]
              refine ⟨by rw [inb_nI (by omega) (by omega)]; omega, ?_⟩
              rw [cl_nI (by omega), r22 _ f22 _ (by omega)]
              refine WM_V (m_adds l22 t22 (by omega)) fun s32 ⟨l32, f32, t32⟩ => ⟨l32, ?_⟩
              refine hX23 (j - 1 - (q + 1)) _ _ (by omega) ⟨q + 1, by omega, rfl, nI_add q 1, Fi_t f22 f32, ?_⟩
              rw [rg_map, ← List.append_assoc]
              exact t32
    · rw [if_neg (by decide)]
      exact skip _ _ _ (fun q => by rw [z] at q; cases q.2)
end RM

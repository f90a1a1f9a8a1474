section HO
variable {Z : Ste} {x : Int32} {h pl p : Nat} {s t σ : JH} {T : List (Nat × Nat)}
def mA (a : Nat → Nat) (s : JH) : Prop := ∀ y, y < 10 → s.2.1 223 y = nI (a y) ∧ a y < 10
set_option maxHeartbeats 1000000 in
theorem m_homeLoop {st0 : Hst} {o : Option Value} {K : Int32 → JH → Prop} (hl : Ly s) (hp : p < 10) (hT : mT T s) (hlt : ∀ q ∈ T, q.1 < 10 ∧ q.2 < 10) (hA : mA st0.1 s) (hv : ∀ r, st0.2 = some r → r ≤ 0)
    (hK : ∀ t, Ly t → Fi (fun b _ => b = 223) s t → K (oV (hmR p T 0 st0).2) t) :
    Lp4 (fun (v7 : Int32) (v8 : Int32) (o9 : Option Value) (s10 : JH) X11 => Ly s10 ∧ (if s10.2.1 204 28 ≤ v8 then K v7 s10 else inb v8 40 ∧ inb (s10.2.1 220 (cl v8)) 10 ∧ inb v8 40 ∧ inb v8 40 ∧ inb (s10.2.1 221 (cl v8)) 10 ∧ inb (s10.2.1 220 (cl v8)) 10 ∧ lt (jh_setI s10 223 (cl (s10.2.1 220 (cl v8))) (s10.2.1 223 (cl (s10.2.1 221 (cl v8))))) (fun s12 => inb v8 40 ∧ inb (s12.2.1 221 (cl v8)) 10 ∧ lt (jh_setI s12 223 (cl (s12.2.1 221 (cl v8))) (s10.2.1 223 (cl (s10.2.1 220 (cl v8))))) (fun s13 => inb (nI p) 10 ∧ (if s13.2.1 223 (cl (nI p)) = nI p then (if 0 ≤ v7 then X11 v7 (v8 + nI 1) (some (.int (s10.2.1 223 (cl (s10.2.1 220 (cl v8)))))) s13 else X11 (v8 + nI 1) (v8 + nI 1) (some (.int (s10.2.1 223 (cl (s10.2.1 220 (cl v8)))))) s13) else X11 (mI 1) (v8 + nI 1) (some (.int (s10.2.1 223 (cl (s10.2.1 220 (cl v8)))))) s13))))) (oV st0.2) (nI 0) o s := by
  have h24 := hT.2.1
  refine Lp4_inv (I := fun m v7 v8 _ s10 => ∃ i st, i ≤ T.length ∧ m = T.length - i ∧ v8 = nI i ∧ v7 = oV st.2 ∧ (∀ r, st.2 = some r → r ≤ i) ∧ mA st.1 s10 ∧ Fi (fun b _ => b = 223) s s10 ∧ hmR p (T.drop i) i st = hmR p T 0 st0) ?_ (m := T.length) ⟨0, st0, by omega, by omega, rfl, rfl, hv, hA, Fi_r _ _, rfl⟩
  rintro m v7 v8 o9 s10 ⟨i, st, hi, rfl, rfl, rfl, hr, a10, f10, ht⟩ X hX
  have l10 := Fi_ly f10 hl
  have t10 := mT_f f10 (by omega) (fun j => by omega) hT
  refine ⟨l10, ?_⟩
  rw [t10.1]
  by_cases c : T.length ≤ i
  · rw [if_pos (by rw [nI_leN (by omega) (by omega)]; exact c)]
    rw [List.drop_eq_nil_of_le c] at ht
    have ht : st = hmR p T 0 st0 := ht
    rw [ht]
    exact hK _ l10 f10
  · rw [if_neg (by rw [nI_leN (by omega) (by omega)]; exact c)]
    obtain ⟨q, hq⟩ : ∃ q, T[i]? = some q := ⟨_, List.getElem?_eq_getElem (by omega)⟩
    obtain ⟨q1, q2⟩ := t10.2.2 i q hq
    obtain ⟨b1, b2⟩ := hlt q (List.mem_of_getElem? hq)
    rw [drop_get hq] at ht
    have ht : hmR p (T.drop (i + 1)) (i + 1) (hmS p st i q) = hmR p T 0 st0 := ht
    have i40 : inb (nI i) 40 := by rw [inb_nI (by omega) (by omega)]; omega
    rw [cl_nI (by omega), q1, q2, cl_nI (by omega), cl_nI (by omega)]
    refine ⟨i40, by rw [inb_nI (by omega) (by omega)]; omega, i40, i40, by rw [inb_nI (by omega) (by omega)]; omega, by rw [inb_nI (by omega) (by omega)]; omega, ?_⟩
    simp only [lt]
    rw [(a10 q.1 b1).1, (a10 q.2 b2).1]
    have f12 : Fi (fun b _ => b = 223) s10 (jh_setI s10 223 q.1 (nI (st.1 q.2))) := Fi_s (Fi_r _ _) rfl
    have g12 : ∀ y, (jh_setI s10 223 q.1 (nI (st.1 q.2))).2.1 223 y = if y = q.1 then nI (st.1 q.2) else s10.2.1 223 y := fun y => by
      by_cases w : y = q.1
      · rw [if_pos w, w]; exact rI_eq
      · rw [if_neg w]; exact rI_ne (by omega)
    generalize jh_setI s10 223 q.1 (nI (st.1 q.2)) = s12 at f12 g12 ⊢
    rw [show s12.2.1 221 i = nI q.2 from (f12.2.2 _ _ (by omega)).trans q2, cl_nI (by omega)]
    refine ⟨i40, by rw [inb_nI (by omega) (by omega)]; omega, ?_⟩
    have f13 : Fi (fun b _ => b = 223) s10 (jh_setI s12 223 q.2 (nI (st.1 q.1))) := Fi_s f12 rfl
    have a13 : mA (swp st.1 q.1 q.2) (jh_setI s12 223 q.2 (nI (st.1 q.1))) := by
      intro y hy
      unfold swp
      by_cases w2 : y = q.2
      · subst w2
        by_cases w1 : q.2 = q.1
        · rw [if_pos w1, w1]; exact ⟨rI_eq, (a10 q.1 b1).2⟩
        · rw [if_neg w1, if_pos rfl]; exact ⟨rI_eq, (a10 q.1 b1).2⟩
      · rw [rI_ne (by omega), g12 y]
        by_cases w1 : y = q.1
        · rw [if_pos w1, if_pos w1]; exact ⟨rfl, (a10 q.2 b2).2⟩
        · rw [if_neg w1, if_neg w1, if_neg w2]; exact a10 y hy
    generalize jh_setI s12 223 q.2 (nI (st.1 q.1)) = s13 at f13 a13 ⊢
    refine ⟨by rw [inb_nI (by omega) (by omega)]; omega, ?_⟩
    rw [cl_nI (by omega), (a13 p hp).1]
    have hap := (a13 p hp).2
    have nxt : ∀ v o, oV (hmS p st i q).2 = v → X v (nI i + nI 1) o s13 := by
      intro v o hv
      rw [← hv]
      refine hX (T.length - (i + 1)) _ _ _ _ (by omega) ⟨i + 1, hmS p st i q, by omega, rfl, nI_add i 1, rfl, ?_, a13, Fi_t f10 f13, ht⟩
      intro r e
      have e : (if swp st.1 q.1 q.2 p = p then (match st.2 with | some r => some r | none => some (i + 1)) else none) = some r := e
      split at e
      · cases hs : st.2 with
        | none => rw [hs] at e; rw [← Option.some.inj e]; omega
        | some r' => rw [hs] at e; rw [← Option.some.inj e]; have := hr r' hs; omega
      · cases e
    by_cases cp : swp st.1 q.1 q.2 p = p
    · rw [if_pos (by rw [cp])]
      have ev : (hmS p st i q).2 = (match st.2 with | some r => some r | none => some (i + 1)) := if_pos cp
      cases hs : st.2 with
      | none =>
        rw [if_neg (by decide)]
        refine nxt _ _ ?_
        rw [ev, hs]
        exact (nI_add i 1).symm
      | some r =>
        have := hr r hs
        rw [if_pos (by show 0 ≤ nI r; rw [nI_0le (by omega)]; trivial)]
        refine nxt _ _ ?_
        rw [ev, hs]
    · rw [if_neg (by rw [nI_eqN (by omega) (by omega)]; exact cp)]
      refine nxt _ _ ?_
      have ev : (hmS p st i q).2 = none := if_neg cp
      rw [ev]
      rfl
set_option maxHeartbeats 1000000 in
theorem a_home (hZ : WZ Z) : Agr q_Ct_home [.ref 64, .int x] q_Md_home [.ref 204, .int x] Z := by
  have hW := hZ.1
  have n8 := hW.1
  have hp := hZ.2.1.1
  by_cases c : isB (Hn (tH Z)) x = true
  · obtain ⟨k, hk, rfl⟩ := isB_t hW.1 c
    refine Agr_q (nI (hbF (mi (tF Z).1) (Hn (tH Z)) (Hn (tH Z)) k)) hZ (fun h pl σ z => w_Ct_home _ z.1.1 ?_) (fun σ z => w_Md_home _ z.1 (lt_thr hZ z fun s z' f' => ?_))
    · rw [z.1.2.2.2.1]
      refine WE_i (c_has z.1.1 z.1.2.1 (Rc_H z)) ?_
      rw [c, if_neg (by decide)]
      refine WM_V (c_ringsOf hZ z) fun s1 ⟨l1, z1, f1, R1⟩ => ⟨l1, by rw [inb_nI (by omega) (by omega)]; omega, ?_, z1, f1⟩
      rw [cl_nI (by omega), R1.2.1 k (by omega)]
    · refine WE_i (m_isBody z'.1 (Rm_H z')) ?_
      rw [c, if_neg (by decide)]
      refine WM_V (m_ringsOf hZ z') fun s3 ⟨l3, z3, f3, R3⟩ => ⟨l3, ?_⟩
      refine Lp2_inv (I := fun m v4 s5 => ∃ i, i ≤ 10 ∧ m = 10 - i ∧ v4 = nI i ∧ Fi (fun b _ => b = 223) s3 s5 ∧ ∀ y, y < i → s5.2.1 223 y = nI ((hm0 (mi (tF Z).1) (Hn (tH Z)) k).1 y) ∧ (hm0 (mi (tF Z).1) (Hn (tH Z)) k).1 y < 10) ?_ (m := 10) ⟨0, by omega, by omega, rfl, Fi_r _ _, fun y hy => by omega⟩
      rintro m v4 s5 ⟨i, hi, rfl, rfl, f5, a5⟩ X hX
      have l5 := Fi_ly f5 l3
      obtain ⟨z5, r5⟩ := Rm_ok hZ z3 (Fi_g f5) l5 (fun b j q => by unfold PmT; omega)
      refine ⟨l5, ?_⟩
      by_cases c1 : 10 ≤ i
      · rw [if_pos (by rw [nI_leN (by omega) (by omega)]; exact c1)]
        refine ⟨by rw [inb_nI (by omega) (by omega)]; omega, ?_⟩
        have aA : mA (hm0 (mi (tF Z).1) (Hn (tH Z)) k).1 s5 := fun y hy => a5 y (by omega)
        have t5 := mT_f f5 (by omega) (fun j => by omega) R3.1
        have e0 : (hm0 (mi (tF Z).1) (Hn (tH Z)) k).1 k = mi (tF Z).1 k := if_pos hk
        have b0 := hp.1 k hk
        rw [cl_nI (by omega), (aA k (by omega)).1, e0]
        have fin : ∀ t, Ly t → Fi (fun b _ => b = 223) s5 t → oV (hmR k (rgD (mi (tF Z).1) (Hn (tH Z))) 0 (hm0 (mi (tF Z).1) (Hn (tH Z)) k)).2 = nI (hbF (mi (tF Z).1) (Hn (tH Z)) (Hn (tH Z)) k) ∧ Rm Z t ∧ Fg (fun b _ => 204 ≤ b ∧ b < 229) σ t := by
          intro t lt' ft
          obtain ⟨z6, r6⟩ := Rm_ok hZ z5 (Fi_g ft) lt' (fun b j q => by unfold PmT; omega)
          refine ⟨?_, z6, Fg_t f' (Fg_t f3 (Fg_t r5 r6))⟩
          rw [hm_all hp n8 hk]
          rfl
        by_cases d : mi (tF Z).1 k = k
        · rw [if_pos (by rw [d])]
          have ev : (hm0 (mi (tF Z).1) (Hn (tH Z)) k).2 = some 0 := if_pos (by rw [if_pos hk]; exact d)
          have := m_homeLoop (p := k) (st0 := hm0 (mi (tF Z).1) (Hn (tH Z)) k) (o := none) l5 (by omega) t5 (rgD_lt hp n8) aA (fun r e => by rw [ev] at e; rw [← Option.some.inj e]; omega) (K := fun v t => v = nI (hbF (mi (tF Z).1) (Hn (tH Z)) (Hn (tH Z)) k) ∧ Rm Z t ∧ Fg (fun b _ => 204 ≤ b ∧ b < 229) σ t) fin
          rw [ev, cl_nI (show k < 2147483648 by omega)] at this
          exact this
        · rw [if_neg (by rw [nI_eqN (by omega) (by omega)]; exact d)]
          have ev : (hm0 (mi (tF Z).1) (Hn (tH Z)) k).2 = none := if_neg (by rw [if_pos hk]; exact d)
          have := m_homeLoop (p := k) (st0 := hm0 (mi (tF Z).1) (Hn (tH Z)) k) (o := none) l5 (by omega) t5 (rgD_lt hp n8) aA (fun r e => by rw [ev] at e; cases e) (K := fun v t => v = nI (hbF (mi (tF Z).1) (Hn (tH Z)) (Hn (tH Z)) k) ∧ Rm Z t ∧ Fg (fun b _ => 204 ≤ b ∧ b < 229) σ t) fin
          rw [ev, cl_nI (show k < 2147483648 by omega)] at this
          exact this
      · rw [if_neg (by rw [nI_leN (by omega) (by omega)]; exact c1)]
        refine WE_i (m_bodies l5 (Rm_H z5)) ?_
        have nxt : ∀ v, v = (hm0 (mi (tF Z).1) (Hn (tH Z)) k).1 i → v < 10 → X (nI i + nI 1) (jh_setI s5 223 i (nI v)) := by
          intro v hv hv10
          refine hX (10 - (i + 1)) _ _ (by omega) ⟨i + 1, by omega, rfl, nI_add i 1, Fi_s f5 rfl, fun y hy => ?_⟩
          by_cases w : y = i
          · rw [w, ← hv]; exact ⟨rI_eq, hv10⟩
          · rw [rI_ne (by omega)]; exact a5 y (by omega)
        by_cases c2 : Hn (tH Z) ≤ i
        · rw [if_pos (by rw [nI_leN (by omega) (by omega)]; exact c2)]
          refine ⟨by rw [inb_nI (by omega) (by omega)]; omega, ?_⟩
          rw [cl_nI (by omega)]
          exact nxt i (if_neg (by omega)).symm (by omega)
        · rw [if_neg (by rw [nI_leN (by omega) (by omega)]; exact c2), nI_add]
          have b1 := hp.1 i (by omega)
          have em : s5.2.1 218 (3 + i) = nI (mi (tF Z).1 i) := by have := (Rm_M z5).2.2.1 i (by omega); rw [Nat.zero_add] at this; exact this
          refine ⟨by rw [inb_nI (by omega) (by omega)]; omega, by rw [inb_nI (by omega) (by omega)]; omega, ?_⟩
          rw [cl_nI (by omega), cl_nI (by omega), em]
          exact nxt _ (if_pos (by omega)).symm (by omega)
  · refine Agr_q (mI 1) hZ (fun h pl σ z => w_Ct_home _ z.1.1 ?_) (fun σ z => w_Md_home _ z.1 (lt_thr hZ z fun s z' f' => ?_))
    · rw [z.1.2.2.2.1]
      refine WE_i (c_has z.1.1 z.1.2.1 (Rc_H z)) ?_
      rw [isB_f c]
      exact ⟨rfl, z, Fg_r _ _⟩
    · refine WE_i (m_isBody z'.1 (Rm_H z')) ?_
      rw [isB_f c]
      exact ⟨rfl, z', f'⟩
end HO

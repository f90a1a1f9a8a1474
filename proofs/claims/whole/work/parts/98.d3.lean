section MC3
variable {s t σ : JH} {ts : List Nat} {n k : Nat} {Q : Qs} {mm : Nat → Nat} {l : List Nat} {w : Bool}
theorem fnd_isS {o : Option Nat} (h : o.isSome = true) : ∃ p, o = some p := by
  cases o with
  | none => cases h
  | some p => exact ⟨p, rfl⟩
theorem flt_ne {f : Nat} {T : Tok} (h : 1 ≤ f) : ¬ flt f T = 0 := by unfold flt; omega
theorem unt_1 (h : nam (tok ts k) = false) : unt ts Q k = flt 1 (tok ts k) := if_pos h
theorem unt_3 (h : nam (tok ts k) = true) (h2 : (fnd (qN Q) (Tl (tok ts k)) (Hn (qH Q))).isSome = true) : unt ts Q k = flt 3 (tok ts k) := by
  unfold unt
  rw [h, if_neg (by decide), if_pos h2]
theorem unt_0 (h : nam (tok ts k) = true) (h2 : fnd (qN Q) (Tl (tok ts k)) (Hn (qH Q)) = none) : unt ts Q k = 0 := by
  unfold unt
  rw [h, if_neg (by decide), h2, if_neg (by decide)]
def P21 (b j : Nat) : Prop := b = 210 ∧ 180 ≤ j
theorem P21_m {b j : Nat} (h : P21 b j) : PMr b j := by unfold P21 at h; unfold PMr; omega
theorem Fg_21 (f : Fg P21 s t) : Fg PMr s t := Fg_m f (fun b j => P21_m)
theorem mFt_21 {e : Nat} (f : Fg P21 s t) (hl : Ly t) (z : mFt e s) : mFt e t := ⟨hl, (f.2.1 _ _ (by unfold P21; omega)).trans z.2.1, z.2.2⟩
theorem mRd_21 (f : Fg P21 s t) (hl : Ly t) (q : mRd ts n k s) : mRd ts n k t := mRd_g f hl (fun b j h => by unfold P21; omega) q
theorem set3 {a b : Nat} {x y z : Int32} (ha : 180 ≤ a) (hb : 180 ≤ b) (hl : Ly s) : Fg P21 s (jh_setI (jh_setI (jh_setI s 210 a x) 210 b y) 210 180 z) ∧ Ly (jh_setI (jh_setI (jh_setI s 210 a x) 210 b y) 210 180 z) := by
  have f : Fi P21 s (jh_setI (jh_setI (jh_setI s 210 a x) 210 b y) 210 180 z) := Fi_s (Fi_s (Fi_s (Fi_r _ _) (by unfold P21; omega)) (by unfold P21; omega)) (by unfold P21; omega)
  exact ⟨Fi_g f, Fi_ly f hl⟩
theorem m_readP (q : mRd ts n k s) (hk : Tk (tok ts k) ≠ 0) (ok : okTp ts) (hQ : WQ Q) (z : mHr Q s) : WM q_Md_readBody [.ref 204, .int (nI 0)] s (kV fun t => Ly t ∧ Fg PMr s t ∧ MH ts n (plP ts k Q) t) := by
  have n8 := WQ_8 hQ
  have hc6 := cntB_le (fun k => !Hw (qH Q) k) (Hn (qH Q))
  have ep : ppl Q = cntB (fun k => !Hw (qH Q) k) (Hn (qH Q)) := rfl
  have en : nws Q = cntB (Hw (qH Q)) (Hn (qH Q)) := rfl
  have hs := cnt_sum (Hw (qH Q)) (Hn (qH Q))
  have g3 := hQ.2.2.1
  have g2 := hQ.2.1
  refine w_Md_readBody _ q.1 ?_
  simp only [JJ1, nI0, if_true]
  rw [show cl (nI 180 + nI 1) = 181 by decide]
  refine ⟨by rw [nI_add, inb_nI (by omega) (by omega)]; omega, ?_⟩
  rw [z.1.2.1]
  unfold plP
  by_cases c : ppl Q < 6
  · rw [if_neg (by rw [nI_eqN (by omega) (by omega)]; omega), if_pos c]
    obtain ⟨q1, f1⟩ := m_nxt q hk
    have z1 : mHr Q (jh_setI s 204 7 (s.2.1 204 7 + nI 1)) := mHx_78 f1 z
    show lt (jh_setI s 204 7 (s.2.1 204 7 + nI 1)) _
    generalize jh_setI s 204 7 (s.2.1 204 7 + nI 1) = s1 at q1 f1 z1
    generalize hR : (if unt ts Q (k + 1) = 0 then (match kdo (tok ts (k + 2)) with
      | none => (Sum.inl (flt 1 (tok ts (k + 2))) : PQ)
      | some c => .inr (k + 3, addB Q (Tl (tok ts (k + 1))) c false 0)) else .inl (unt ts Q (k + 1))) = R
    show WE q_Md_isName [.ref 204] s1 _
    refine WE_i (m_isName q1 ok) ?_
    by_cases cn : nam (tok ts (k + 1)) = false
    · rw [unt_1 cn, if_neg (flt_ne (by omega))] at hR
      rw [cn, if_pos (by decide), ← hR]
      refine m_wrong q1 ok (by omega) (fun t zt ft => ⟨zt.1, ?_⟩)
      rw [if_neg (mFt_le zt)]
      exact ⟨zt.1, Fg_t (Fg_7m f1) (Fg_7m ft), zt⟩
    · rw [Bool.not_eq_false] at cn
      rw [cn, if_neg (by decide)]
      refine WE_i (m_findQ q1 ok cn hQ z1) ?_
      by_cases cf : (fnd (qN Q) (Tl (tok ts (k + 1))) (Hn (qH Q))).isSome = true
      · rw [unt_3 cn cf, if_neg (flt_ne (by omega))] at hR
        obtain ⟨p, hp⟩ := fnd_isS cf
        rw [if_neg (by rw [fnI_lt n8, hp]; exact fun h => by cases h), ← hR]
        refine m_wrong q1 ok (by omega) (fun t zt ft => ⟨zt.1, ?_⟩)
        rw [if_neg (mFt_le zt)]
        exact ⟨zt.1, Fg_t (Fg_7m f1) (Fg_7m ft), zt⟩
      · have hN : fnd (qN Q) (Tl (tok ts (k + 1))) (Hn (qH Q)) = none := by
          cases e : fnd (qN Q) (Tl (tok ts (k + 1))) (Hn (qH Q)) with
          | none => rfl
          | some p => rw [e] at cf; exact absurd rfl cf
        rw [unt_0 cn hN, if_pos rfl] at hR
        rw [if_pos (by rw [fnI_lt n8, hN]), if_pos (mRd_le q1)]
        have e17 : s1.2.1 204 17 = nI (Hn (qH Q)) := z1.1.2.2.2.2.2.1
        have e7 : s1.2.1 204 7 = nI (k + 1) := q1.2.2.1
        have hk1 := (mRd_in q1).2.2.2
        have e208 : s1.2.2.1 208 (k + 1) = lN (wrd 37 (Tl (tok ts (k + 1)))) := (mRd_in q1).2.2.1.2.2.1 (nam_1 cn)
        have n7 : Hn (qH Q) < 8 := by omega
        simp (disch := omega) only [lt, rI_eq, rI_ne, rJ_1, rI_J, e17, e7, e208, nI_mulN, nI_add, cl_nI, inb_nI]
        obtain ⟨q2, z2, f2⟩ := m_nm (w := false) q1 cn hQ n7 z1 rfl
        refine ⟨by omega, by omega, by omega, by omega, ?_⟩
        refine m_takeOne q2 ok (fun c' t e qt ft => ⟨qt.1, by omega, by omega, by omega, ?_⟩) (fun t e zt ft => ⟨zt.1, by omega, by omega, by omega, ?_⟩)
        · have e' : kdo (tok ts (k + 2)) = some c' := e
          rw [e'] at hR
          have zp := mHp_78 ft z2
          rw [zp.1.1, zp.1.2.1, nI_add, nI_add, ← hR]
          obtain ⟨y1, y2, y3⟩ := m_bd (c := c') (p := 0) (x := nI c') (w := false) qt.1 hQ n7 rfl rfl (by simp) rfl zp
          exact ⟨y3, Fg_t (Fg_7m f1) (Fg_t f2 (Fg_t (Fg_7m ft) (Fg_21 y2))), mRd_21 y2 y3 qt, y1⟩
        · have e' : kdo (tok ts (k + 2)) = none := e
          rw [e'] at hR
          rw [← hR]
          obtain ⟨y1, y2⟩ := set3 (s := t) (a := 188 + 4 * Hn (qH Q)) (b := 181) (x := nI 0) (y := t.2.1 210 181 + nI 1) (z := t.2.1 210 180 + nI 1) (by omega) (by omega) zt.1
          exact ⟨y2, Fg_t (Fg_7m f1) (Fg_t f2 (Fg_t (Fg_7m ft) (Fg_21 y1))), mFt_21 y1 y2 zt⟩
  · rw [if_pos (by rw [show ppl Q = 6 by omega]), if_neg c]
    exact m_wrong q ok (by omega) (fun t zt ft => ⟨zt.1, zt.1, Fg_7m ft, zt⟩)
theorem m_readN (q : mRd ts n k s) (hk : Tk (tok ts k) ≠ 0) (ok : okTp ts) (hQ : WQ Q) (z : mHr Q s) : WM q_Md_readBody [.ref 204, .int (nI 1)] s (kV fun t => Ly t ∧ Fg PMr s t ∧ MH ts n (plN ts k Q) t) := by
  have n8 := WQ_8 hQ
  have hc6 := cntB_le (Hw (qH Q)) (Hn (qH Q))
  have ep : ppl Q = cntB (fun k => !Hw (qH Q) k) (Hn (qH Q)) := rfl
  have en : nws Q = cntB (Hw (qH Q)) (Hn (qH Q)) := rfl
  have hs := cnt_sum (Hw (qH Q)) (Hn (qH Q))
  have g3 := hQ.2.2.1
  have g2 := hQ.2.1
  refine w_Md_readBody _ q.1 ?_
  simp only [JJ1, nI1, if_false]
  rw [show cl (nI 180 + nI 2) = 182 by decide]
  refine ⟨by rw [nI_add, inb_nI (by omega) (by omega)]; omega, ?_⟩
  rw [z.1.2.2.1]
  unfold plN
  by_cases c : nws Q < 2
  · rw [if_neg (by rw [nI_eqN (by omega) (by omega)]; omega), if_pos c]
    obtain ⟨q1, f1⟩ := m_nxt q hk
    have z1 : mHr Q (jh_setI s 204 7 (s.2.1 204 7 + nI 1)) := mHx_78 f1 z
    show lt (jh_setI s 204 7 (s.2.1 204 7 + nI 1)) _
    generalize jh_setI s 204 7 (s.2.1 204 7 + nI 1) = s1 at q1 f1 z1
    generalize hR : (if unt ts Q (k + 1) = 0 then (if isW 2 (tok ts (k + 2)) = true then (match nmb ts 0 999 (k + 3) with
      | .inl e => (Sum.inl e : PQ)
      | .inr v => .inr (k + 4, addB Q (Tl (tok ts (k + 1))) 0 true v)) else .inl (flt 1 (tok ts (k + 2)))) else .inl (unt ts Q (k + 1))) = R
    show WE q_Md_isName [.ref 204] s1 _
    refine WE_i (m_isName q1 ok) ?_
    by_cases cn : nam (tok ts (k + 1)) = false
    · rw [unt_1 cn, if_neg (flt_ne (by omega))] at hR
      rw [cn, if_pos (by decide), ← hR]
      refine m_wrong q1 ok (by omega) (fun t zt ft => ⟨zt.1, ?_⟩)
      rw [if_neg (mFt_le zt)]
      exact ⟨zt.1, Fg_t (Fg_7m f1) (Fg_7m ft), zt⟩
    · rw [Bool.not_eq_false] at cn
      rw [cn, if_neg (by decide)]
      refine WE_i (m_findQ q1 ok cn hQ z1) ?_
      by_cases cf : (fnd (qN Q) (Tl (tok ts (k + 1))) (Hn (qH Q))).isSome = true
      · rw [unt_3 cn cf, if_neg (flt_ne (by omega))] at hR
        obtain ⟨p, hp⟩ := fnd_isS cf
        rw [if_neg (by rw [fnI_lt n8, hp]; exact fun h => by cases h), ← hR]
        refine m_wrong q1 ok (by omega) (fun t zt ft => ⟨zt.1, ?_⟩)
        rw [if_neg (mFt_le zt)]
        exact ⟨zt.1, Fg_t (Fg_7m f1) (Fg_7m ft), zt⟩
      · have hN : fnd (qN Q) (Tl (tok ts (k + 1))) (Hn (qH Q)) = none := by
          cases e : fnd (qN Q) (Tl (tok ts (k + 1))) (Hn (qH Q)) with
          | none => rfl
          | some p => rw [e] at cf; exact absurd rfl cf
        rw [unt_0 cn hN, if_pos rfl] at hR
        rw [if_pos (by rw [fnI_lt n8, hN]), if_pos (mRd_le q1)]
        have e17 : s1.2.1 204 17 = nI (Hn (qH Q)) := z1.1.2.2.2.2.2.1
        have e7 : s1.2.1 204 7 = nI (k + 1) := q1.2.2.1
        have hk1 := (mRd_in q1).2.2.2
        have e208 : s1.2.2.1 208 (k + 1) = lN (wrd 37 (Tl (tok ts (k + 1)))) := (mRd_in q1).2.2.1.2.2.1 (nam_1 cn)
        have n7 : Hn (qH Q) < 8 := by omega
        simp (disch := omega) only [lt, rI_eq, rI_ne, rJ_1, rI_J, e17, e7, e208, nI_mulN, nI_add, cl_nI, inb_nI]
        obtain ⟨q2, z2, f2⟩ := m_nm (w := true) q1 cn hQ n7 z1 rfl
        refine ⟨by omega, by omega, by omega, by omega, ?_⟩
        refine m_takeWord q2 ok (by omega) (fun cw t qt ft => ?_) (fun cw t zt ft => ?_)
        · have cw' : isW 2 (tok ts (k + 2)) = true := cw
          rw [if_pos cw'] at hR
          have zp := mHp_78 ft z2
          refine m_number qt ok (by omega) (by omega) (fun v u e qu fu => ⟨qu.1, by omega, by omega, by omega, ?_⟩) (fun x u e zu fu => ⟨zu.1, by omega, by omega, by omega, ?_⟩)
          · have e' : nmb ts 0 999 (k + 3) = .inr v := e
            rw [e'] at hR
            have zq := mHp_78 fu zp
            rw [zq.1.1, zq.1.2.2.1, nI_add, nI_add, ← hR]
            obtain ⟨y1, y2, y3⟩ := m_bd (c := 0) (p := v) (x := nI v) (w := true) qu.1 hQ n7 rfl rfl (by simp) rfl zq
            exact ⟨y3, Fg_t (Fg_7m f1) (Fg_t f2 (Fg_t (Fg_7m ft) (Fg_t (Fg_7m fu) (Fg_21 y2)))), mRd_21 y2 y3 qu, y1⟩
          · have e' : nmb ts 0 999 (k + 3) = .inl x := e
            rw [e'] at hR
            rw [← hR]
            obtain ⟨y1, y2⟩ := set3 (s := u) (a := 188 + 4 * Hn (qH Q) + 2) (b := 182) (x := nI 0) (y := u.2.1 210 182 + nI 1) (z := u.2.1 210 180 + nI 1) (by omega) (by omega) zu.1
            exact ⟨y2, Fg_t (Fg_7m f1) (Fg_t f2 (Fg_t (Fg_7m ft) (Fg_t (Fg_7m fu) (Fg_21 y1)))), mFt_21 y1 y2 zu⟩
        · have cw' : isW 2 (tok ts (k + 2)) = false := cw
          rw [cw', if_neg (by decide)] at hR
          refine m_number_f zt ⟨zt.1, by omega, by omega, by omega, ?_⟩
          rw [← hR]
          obtain ⟨y1, y2⟩ := set3 (s := t) (a := 188 + 4 * Hn (qH Q) + 2) (b := 182) (x := nI 0) (y := t.2.1 210 182 + nI 1) (z := t.2.1 210 180 + nI 1) (by omega) (by omega) zt.1
          exact ⟨y2, Fg_t (Fg_7m f1) (Fg_t f2 (Fg_t (Fg_7m ft) (Fg_21 y1))), mFt_21 y1 y2 zt⟩
  · rw [if_pos (by rw [show nws Q = 2 by omega]), if_neg c]
    exact m_wrong q ok (by omega) (fun t zt ft => ⟨zt.1, zt.1, Fg_7m ft, zt⟩)
end MC3

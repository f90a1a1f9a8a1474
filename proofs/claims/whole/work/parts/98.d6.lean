section MC6
variable {s t σ : JH} {ts : List Nat} {n k : Nat} {Q : Qs} {mm : Nat → Nat} {w : Bool}
theorem mHx_mm {mm' : Nat → Nat} {i : Nat} {x : Int32} (hi : i < Hn (qH Q)) (n8 : Hn (qH Q) ≤ 8) (hx : x = nI (mm' i)) (hm : ∀ j, j < Hn (qH Q) → j ≠ i → mm' j = mm j) (z : mHx Q mm s) : mHx Q mm' (jh_setI s 210 (188 + 4 * i + 3) x) := by
  obtain ⟨⟨a1, a2, a3, a4, a5, a6, a7, a8⟩, b1, b2, b3, b4, b5, b6, b7, b8, b9, b10⟩ := z
  have e : ∀ b j, ¬ (b = 210 ∧ j = 188 + 4 * i + 3) → (jh_setI s 210 (188 + 4 * i + 3) x).2.1 b j = s.2.1 b j := fun b j h => rI_ne (by omega)
  refine ⟨⟨(e _ _ (by omega)).trans a1, (e _ _ (by omega)).trans a2, (e _ _ (by omega)).trans a3, (e _ _ (by omega)).trans a4, (e _ _ (by omega)).trans a5, (e _ _ (by omega)).trans a6, (e _ _ (by omega)).trans a7, (e _ _ (by omega)).trans a8⟩, fun k hk => (e _ _ (by omega)).trans (b1 k hk), fun k hk => (e _ _ (by omega)).trans (b2 k hk), fun k hk => (e _ _ (by omega)).trans (b3 k hk), fun k hk => ?_, fun k h1 h2 => ⟨(e _ _ (by omega)).trans (b5 k h1 h2).1, (e _ _ (by omega)).trans (b5 k h1 h2).2⟩, fun k hk i hi => (e _ _ (by omega)).trans (b6 k hk i hi), fun k hk i hi => (e _ _ (by omega)).trans (b7 k hk i hi), b8, fun h => ⟨(e _ _ (by omega)).trans (b9 h).1, mLw_e (e _ _ (by omega)) (fun j => e _ _ (by omega)) (fun j => e _ _ (by omega)) (b9 h).2⟩, fun M h => ⟨(e _ _ (by omega)).trans (b10 M h).1, mLw_e (e _ _ (by omega)) (fun j => e _ _ (by omega)) (fun j => e _ _ (by omega)) (b10 M h).2⟩⟩
  by_cases c : k = i
  · rw [c, rI_eq, hx]
  · rw [e _ _ (by omega), hm k hk c]; exact b4 k hk
theorem mHx_rb {R : Nat → Bool} {Hm' : Nat → Nat} {x : Int32} (hx : x = nI (msk R 8)) (z : mHx Q mm s) : mHx ((Hn (qH Q), Hk (qH Q), Hw (qH Q), Hp (qH Q), Hm', Hb (qH Q), Hx (qH Q), Ho (qH Q)), qN Q, R, qO Q, qL Q) mm (jh_setI s 204 19 x) := by
  obtain ⟨⟨a1, a2, a3, a4, a5, a6, a7, a8⟩, b1, b2, b3, b4, b5, b6, b7, b8, b9, b10⟩ := z
  have e : ∀ b j, ¬ (b = 204 ∧ j = 19) → (jh_setI s 204 19 x).2.1 b j = s.2.1 b j := fun b j h => rI_ne (by omega)
  exact ⟨⟨(e _ _ (by omega)).trans a1, (e _ _ (by omega)).trans a2, (e _ _ (by omega)).trans a3, (e _ _ (by omega)).trans a4, (e _ _ (by omega)).trans a5, (e _ _ (by omega)).trans a6, (e _ _ (by omega)).trans a7, rI_eq.trans hx⟩, fun k hk => (e _ _ (by omega)).trans (b1 k hk), fun k hk => (e _ _ (by omega)).trans (b2 k hk), fun k hk => (e _ _ (by omega)).trans (b3 k hk), fun k hk => (e _ _ (by omega)).trans (b4 k hk), fun k h1 h2 => ⟨(e _ _ (by omega)).trans (b5 k h1 h2).1, (e _ _ (by omega)).trans (b5 k h1 h2).2⟩, fun k hk i hi => (e _ _ (by omega)).trans (b6 k hk i hi), fun k hk i hi => (e _ _ (by omega)).trans (b7 k hk i hi), b8, fun h => ⟨(e _ _ (by omega)).trans (b9 h).1, mLw_e (e _ _ (by omega)) (fun j => e _ _ (by omega)) (fun j => e _ _ (by omega)) (b9 h).2⟩, fun M h => ⟨(e _ _ (by omega)).trans (b10 M h).1, mLw_e (e _ _ (by omega)) (fun j => e _ _ (by omega)) (fun j => e _ _ (by omega)) (b10 M h).2⟩⟩
theorem JJ1u {B : Unit → Prop} {A : (Unit → Prop) → Prop} (C : Prop) (hB : C → B ()) (hA : (C → B ()) → A B) : JJ1 B A := hA hB
set_option maxHeartbeats 2000000 in
theorem m_readRing (q : mRd ts n k s) (hk : Tk (tok ts k) ≠ 0) (ok : okTp ts) (hQ : WQ Q) (z : mHr Q s) : WM q_Md_readRing [.ref 204] s (kV fun t => Ly t ∧ Fg PMr s t ∧ MH ts n (plR ts k Q) t) := by
  refine w_Md_readRing q.1 ?_
  obtain ⟨q1, f1⟩ := m_nxt q hk
  have z1 : mHr Q (jh_setI s 204 7 (s.2.1 204 7 + nI 1)) := mHx_78 f1 z
  show lt (jh_setI s 204 7 (s.2.1 204 7 + nI 1)) _
  generalize jh_setI s 204 7 (s.2.1 204 7 + nI 1) = s1 at q1 f1 z1
  simp only [lt, JJ5]
  refine Lp5_inv (I := fun m v2 v3 v4 _ u => Ly u ∧ Fg PMr s u ∧ ((∃ e, plR ts k Q = .inl e ∧ mFt e u) ∨ (∃ k1 Q1 sz fi la, mRd ts n k1 u ∧ v4 = nI sz ∧ sz ≤ 6 ∧ m = 8 - sz ∧ (sz ≠ 0 → v2 = nI fi ∧ v3 = nI la ∧ fi < Hn (qH Q1) ∧ qR Q1 fi = true ∧ Hm (qH Q1) fi = la ∧ la < 8) ∧ WQ Q1 ∧ mHx Q1 (rgM Q1 sz fi) u ∧ rgR ts (7 - sz) k1 Q1 sz fi = plR ts k Q))) ?_ (m := 8) ⟨q1.1, Fg_7m f1, Or.inr ⟨k + 1, Q, 0, 0, 0, q1, rfl, by omega, rfl, fun g => absurd rfl g, hQ, z1, rfl⟩⟩
  rintro m v2 v3 v4 o5 u ⟨lu, F, v⟩ X hX
  refine ⟨lu, ?_⟩
  rcases v with ⟨e, he, zf⟩ | ⟨k1, Q1, sz, fi, la, qs, rfl, hsz, rfl, hv1, hQ1, zx, hr⟩
  · rw [if_neg (mFt_0 zf), if_neg (mFt_0 zf)]
    exact ⟨lu, F, by rw [he]; exact zf⟩
  · have n8 := WQ_8 hQ1
    rw [if_pos (mRd_0 qs)]
    obtain ⟨g, hg⟩ : ∃ g, 7 - sz = g + 1 := ⟨6 - sz, by omega⟩
    rw [hg] at hr
    unfold rgR at hr
    have faulted : ∀ e t v2 v3 v4 o, plR ts k Q = .inl e → mFt e t → Fg P78 u t → X v2 v3 v4 o t := fun e t v2 v3 v4 o he zt ft => hX 0 _ _ _ _ _ (by omega) ⟨zt.1, Fg_t F (Fg_7m ft), Or.inl ⟨e, he, zt⟩⟩
    have done : 2 ≤ sz → nam (tok ts k1) = false → (if u.2.1 204 8 = 0 then inb ((nI 188 + (nI 4 * v2)) + nI 3) 360 ∧ (Ly (jh_setI u 210 (cl ((nI 188 + (nI 4 * v2)) + nI 3)) v3) ∧ Fg PMr s (jh_setI u 210 (cl ((nI 188 + (nI 4 * v2)) + nI 3)) v3) ∧ MH ts n (plR ts k Q) (jh_setI u 210 (cl ((nI 188 + (nI 4 * v2)) + nI 3)) v3)) else (Ly u ∧ Fg PMr s u ∧ MH ts n (plR ts k Q) u)) := by
      intro h2 hnm
      obtain ⟨w1, w2, w3, w4, w5, w6⟩ := hv1 (by omega)
      rw [if_pos ⟨h2, hnm⟩] at hr
      rw [if_pos (mRd_0 qs), w1, w2, nI_mulN, nI_add, nI_add, cl_nI (by omega)]
      refine ⟨by rw [inb_nI (by omega) (by omega)]; omega, ?_⟩
      have f3 : Fi P21 u (jh_setI u 210 (188 + 4 * fi + 3) (nI la)) := Fi_s (Fi_r _ _) (by unfold P21; omega)
      refine ⟨Fi_ly f3 lu, Fg_t F (Fg_21 (Fi_g f3)), ?_⟩
      rw [← hr]
      refine ⟨mRd_21 (Fi_g f3) (Fi_ly f3 lu) qs, mHx_mm w3 n8 (by rw [w5]) (fun j hj hjf => ?_) zx⟩
      unfold rgM
      rw [if_neg (by omega), up1_ne hjf]
    refine JJ1u (¬ (2 ≤ sz ∧ nam (tok ts k1) = false)) (fun hno => ?_) (fun more => ?_)
    · rw [if_neg hno] at hr
      simp only [JJ2, JJ1]
      refine m_person qs ok hQ1 zx (fun p hp => ⟨lu, ?_⟩) (fun e t he zt ft => ⟨zt.1, ?_⟩)
      · obtain ⟨u1, u2, u3, u4⟩ := (psn_ok (Q := Q1) (k := k1) ok).2 p hp
        rw [hp] at hr
        have hr : (if qR Q1 p = true then .inl (flt 3 (tok ts k1)) else if sz = 6 then .inl (flt 5 (tok ts k1)) else rgR ts g (k1 + 1) (rgQ Q1 sz fi p) (sz + 1) (if sz = 0 then p else fi)) = plR ts k Q := hr
        rw [if_pos (mRd_0 qs), zx.1.2.2.2.2.2.2.2, bk_get (by omega) (show p < 8 by omega)]
        by_cases c3 : qR Q1 p = true
        · rw [if_pos c3] at hr
          rw [if_pos (by rw [c3]; rfl)]
          refine m_wrong qs ok (by omega) (fun t zt ft => ⟨zt.1, ?_⟩)
          rw [if_neg (mFt_0 zt)]
          exact faulted _ t _ _ _ _ hr.symm zt ft
        · rw [if_neg c3] at hr
          rw [if_neg (by rw [bI_1]; exact c3), if_pos (mRd_0 qs)]
          rw [Bool.not_eq_true] at c3
          by_cases c6 : sz = 6
          · rw [if_pos c6] at hr
            rw [if_pos (by rw [c6])]
            refine m_wrong qs ok (by omega) (fun t zt ft => ⟨zt.1, ?_⟩)
            rw [if_neg (mFt_0 zt)]
            exact faulted _ t _ _ _ _ hr.symm zt ft
          · rw [if_neg c6] at hr
            rw [if_neg (by rw [nI_eqN (by omega) (by omega)]; exact c6), if_pos (mRd_0 qs), bk_set (by omega) (show p < 8 by omega)]
            have hQ2 := WQ_rg (sz := sz) (fi := fi) hQ1 u2 u4 c3 (fun w => ⟨(hv1 w).2.2.1, (hv1 w).2.2.2.1⟩)
            have z2 : mHx (rgQ Q1 sz fi p) (rgM Q1 sz fi) (jh_setI u 204 19 (nI (msk (up1 (qR Q1) p true) 8))) := mHx_rb rfl zx
            have f2 : Fi (fun b j => b = 204 ∧ j = 19) u (jh_setI u 204 19 (nI (msk (up1 (qR Q1) p true) 8))) := Fi_s (Fi_r _ _) ⟨rfl, rfl⟩
            have l2 := Fi_ly f2 lu
            generalize jh_setI u 204 19 (nI (msk (up1 (qR Q1) p true) 8)) = s2 at z2 f2 l2 ⊢
            have q2 : mRd ts n k1 s2 := mRd_g (Fi_g f2) l2 (fun b j h => by omega) qs
            have F2 : Fg PMr s s2 := Fg_t F (Fi_g (Fi_m f2 (fun b j h => by unfold PMr; omega)))
            have hmp : Hm (qH Q1) p = p := hQ1.2.2.2.2.2.2.2.1 p c3
            by_cases c0 : sz = 0
            · rw [if_pos (by rw [nI_le0 (by omega)]; exact c0), if_pos (by rw [nI_eq0 (by omega)]; exact c0)]
              obtain ⟨q3, f3⟩ := m_nxt q2 (nam_k u1)
              rw [nI_add]
              rw [if_pos c0] at hr
              refine hX (8 - (sz + 1)) _ _ _ _ _ (by omega) ⟨q3.1, Fg_t F2 (Fg_7m f3), Or.inr ⟨k1 + 1, rgQ Q1 sz fi p, sz + 1, p, p, q3, rfl, by omega, rfl, fun _ => ⟨rfl, rfl, u2, up1_eq _ _ _, ?_, by omega⟩, hQ2, ?_, by rw [show 7 - (sz + 1) = g by omega]; exact hr⟩⟩
              · show (if sz = 0 then Hm (qH Q1) else _) p = p
                rw [if_pos c0]; exact hmp
              · have em : rgM (rgQ Q1 sz fi p) (sz + 1) p = rgM Q1 sz fi := by
                  unfold rgM
                  rw [if_neg (by omega), if_pos c0]
                  show up1 (if sz = 0 then Hm (qH Q1) else _) p p = _
                  rw [if_pos c0]
                  funext j
                  unfold up1
                  by_cases cj : j = p
                  · rw [if_pos cj, cj, hmp]
                  · rw [if_neg cj]
                rw [em]
                exact mHx_78 f3 z2
            · obtain ⟨w1, w2, w3, w4, w5, w6⟩ := hv1 c0
              have hpf : p ≠ fi := fun q => by rw [q, w4] at c3; cases c3
              rw [if_neg (by rw [nI_le0 (by omega)]; exact c0), if_neg (by rw [nI_eq0 (by omega)]; exact c0), nI_mulN, nI_add, nI_add, cl_nI (by omega), w2, w1]
              refine ⟨by rw [inb_nI (by omega) (by omega)]; omega, ?_⟩
              have z3 : mHx (rgQ Q1 sz fi p) (rgM (rgQ Q1 sz fi p) (sz + 1) fi) (jh_setI s2 210 (188 + 4 * p + 3) (nI la)) := by
                refine mHx_mm (mm := rgM Q1 sz fi) u2 n8 ?_ (fun j hj hjp => ?_) z2
                · unfold rgM
                  rw [if_neg (by omega), up1_ne hpf]
                  show nI la = nI ((if sz = 0 then Hm (qH Q1) else swp (Hm (qH Q1)) fi p) p)
                  rw [if_neg c0, swp_e, w5]
                · unfold rgM
                  rw [if_neg (by omega), if_neg c0]
                  show up1 (if sz = 0 then Hm (qH Q1) else swp (Hm (qH Q1)) fi p) fi fi j = up1 (Hm (qH Q1)) fi fi j
                  rw [if_neg c0]
                  unfold up1
                  by_cases cj : j = fi
                  · rw [if_pos cj, if_pos cj]
                  · rw [if_neg cj, if_neg cj, swp_o cj hjp]
              have f3 : Fi P21 s2 (jh_setI s2 210 (188 + 4 * p + 3) (nI la)) := Fi_s (Fi_r _ _) (by unfold P21; omega)
              have l3 := Fi_ly f3 l2
              generalize jh_setI s2 210 (188 + 4 * p + 3) (nI la) = s3 at z3 f3 l3 ⊢
              obtain ⟨q4, f4⟩ := m_nxt (mRd_21 (Fi_g f3) l3 q2) (nam_k u1)
              rw [nI_add]
              rw [if_neg c0] at hr
              refine hX (8 - (sz + 1)) _ _ _ _ _ (by omega) ⟨q4.1, Fg_t F2 (Fg_t (Fg_21 (Fi_g f3)) (Fg_7m f4)), Or.inr ⟨k1 + 1, rgQ Q1 sz fi p, sz + 1, fi, p, q4, rfl, by omega, rfl, fun _ => ⟨rfl, rfl, w3, ?_, ?_, by omega⟩, hQ2, mHx_78 f4 z3, by rw [show 7 - (sz + 1) = g by omega]; exact hr⟩⟩
              · show up1 (qR Q1) p true fi = true
                rw [up1_ne (fun q => hpf q.symm)]; exact w4
              · show (if sz = 0 then Hm (qH Q1) else swp (Hm (qH Q1)) fi p) fi = p
                rw [if_neg c0, swp_k, hmp]
      · rw [he] at hr
        rw [if_neg (mFt_0 zt), if_neg (mFt_0 zt), if_neg (mFt_0 zt)]
        exact faulted _ t _ _ _ _ hr.symm zt ft
    · by_cases c2 : 2 ≤ sz
      · rw [if_neg (by rw [nI_ltN (by omega) (by omega)]; omega)]
        refine WE_i (m_isName qs ok) ?_
        by_cases cn : nam (tok ts k1) = false
        · rw [cn, if_pos (by decide)]
          exact done c2 cn
        · rw [if_neg (by rw [bI_0]; exact cn)]
          exact more (fun h => cn h.2)
      · rw [if_pos (by rw [nI_ltN (by omega) (by omega)]; omega)]
        exact more (fun h => c2 h.1)
theorem m_readLine (q : mRd ts n k s) (hk : Tk (tok ts k) ≠ 0) (ok : okTp ts) (hQ : WQ Q) (z : mHr Q s) : WM q_Md_readLine [.ref 204] s (kV fun t => Ly t ∧ Fg PMr s t ∧ MH ts n (plL ts k Q) t) := by
  refine w_Md_readLine q.1 (WE_i (m_isWord q ok (by omega)) ?_)
  have up : ∀ {f : JF} {vs : List Value} {r : PQ}, WM f vs s (kV fun t => Ly t ∧ Fg PMr s t ∧ MH ts n r t) → WM f vs s (kV fun t => Ly t ∧ Ly t ∧ Fg PMr s t ∧ MH ts n r t) := fun w => WM_V w (fun t v => ⟨v.1, v⟩)
  unfold plL
  by_cases c0 : isW 0 (tok ts k) = true
  · rw [if_neg (by rw [bI_0, c0]; decide), if_pos c0]; exact up (m_readP q hk ok hQ z)
  rw [if_pos (by rw [bI_0]; simpa using c0), if_neg c0]
  refine WE_i (m_isWord q ok (by omega)) ?_
  by_cases c1 : isW 1 (tok ts k) = true
  · rw [if_neg (by rw [bI_0, c1]; decide), if_pos c1]; exact up (m_readN q hk ok hQ z)
  rw [if_pos (by rw [bI_0]; simpa using c1), if_neg c1]
  refine WE_i (m_isWord q ok (by omega)) ?_
  by_cases c3 : isW 3 (tok ts k) = true
  · rw [if_neg (by rw [bI_0, c3]; decide), if_pos c3]; exact up (m_readRing q hk ok hQ z)
  rw [if_pos (by rw [bI_0]; simpa using c3), if_neg c3]
  refine WE_i (m_isWord q ok (by omega)) ?_
  by_cases c4 : isW 4 (tok ts k) = true
  · rw [if_neg (by rw [bI_0, c4]; decide), if_pos c4]; exact up (m_readPair (w := false) rfl q hk ok hQ z)
  rw [if_pos (by rw [bI_0]; simpa using c4), if_neg c4]
  refine WE_i (m_isWord q ok (by omega)) ?_
  by_cases c5 : isW 5 (tok ts k) = true
  · rw [if_neg (by rw [bI_0, c5]; decide), if_pos c5]; exact up (m_readPair (w := true) rfl q hk ok hQ z)
  rw [if_pos (by rw [bI_0]; simpa using c5), if_neg c5]
  exact up (m_readOnce q ok hQ z)
end MC6

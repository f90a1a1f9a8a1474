section MC5
variable {s t σ : JH} {ts : List Nat} {n k : Nat} {Q : Qs} {mm : Nat → Nat} {w : Bool}
theorem onc_o : (nI (onc Q) >>> (nI 0 &&& 31)) &&& nI 1 = bI (qO Q) := by
  unfold onc
  cases qO Q <;> cases (qL Q).isSome <;> decide
theorem onc_l : (nI (onc Q) >>> (nI 1 &&& 31)) &&& nI 1 = bI (qL Q).isSome := by
  unfold onc
  cases qO Q <;> cases (qL Q).isSome <;> decide
theorem PLm_m {b j : Nat} (h : PLm b j) : PMr b j := by unfold PLm at h; unfold PMr; omega
theorem PEm_m {b j : Nat} (h : PEm b j) : PMr b j := by unfold PEm at h; unfold PMr; omega
set_option maxHeartbeats 1000000 in
theorem m_readOnce (q : mRd ts n k s) (ok : okTp ts) (hQ : WQ Q) (z : mHr Q s) : WM q_Md_readOnce [.ref 204] s (kV fun t => Ly t ∧ Fg PMr s t ∧ MH ts n (if isW 6 (tok ts k) = true then plO ts k Q else if isW 7 (tok ts k) = true then plC ts k Q else .inl (flt 1 (tok ts k))) t) := by
  have hn := q.2.1.1.2.1
  have hn1 := q.2.1.1.1
  refine w_Md_readOnce q.1 ?_
  simp only [JJ2]
  refine WE_i (m_wordHere q ok (by omega)) ?_
  have e18 := z.1.2.2.2.2.2.2.1
  obtain ⟨⟨a1, a2, a3, a4, a5, a6, a7, a8⟩, b1, b2, b3, b4, b5, b6, b7, b8, b9, b10⟩ := id z
  by_cases c6 : isW 6 (tok ts k) = true
  · have c6' := c6
    rw [isW_is] at c6'
    have ew : whr 6 2 (tok ts k) = nI 0 := by unfold whr; rw [if_pos (by omega), c6'.2]
    rw [if_pos c6, ew, if_pos (by decide), e18, onc_o]
    unfold plO
    by_cases c : qO Q = true
    · rw [c, if_pos (by decide), if_pos rfl]
      refine m_wrong q ok (by omega) (fun t zt ft => ⟨zt.1, ?_⟩)
      rw [if_neg (mFt_le zt)]
      exact ⟨zt.1, Fg_7m ft, zt⟩
    · rw [if_neg (by rw [bI_1]; exact c), if_neg c, if_pos (mRd_le q)]
      rw [Bool.not_eq_true] at c
      simp only [lt]
      have f2 : Fi (fun b j => b = 204 ∧ j = 18) s (jh_setI s 204 18 (nI (onc Q) ||| nI 1 <<< (nI 0 &&& 31))) := Fi_s (Fi_r _ _) ⟨rfl, rfl⟩
      have e2 : (jh_setI s 204 18 (nI (onc Q) ||| nI 1 <<< (nI 0 &&& 31))).2.1 204 18 = nI (onc (onQ Q)) := by
        rw [rI_eq]
        show nI ((if qO Q = true then 1 else 0) + (if (qL Q).isSome = true then 2 else 0)) ||| nI 1 <<< (nI 0 &&& 31) = nI ((if true = true then 1 else 0) + (if (qL Q).isSome = true then 2 else 0))
        rw [c]
        cases (qL Q).isSome <;> decide
      have l2 := Fi_ly f2 q.1
      generalize jh_setI s 204 18 (nI (onc Q) ||| nI 1 <<< (nI 0 &&& 31)) = s2 at f2 e2 l2 ⊢
      have q2 : mRd ts n k s2 := mRd_g (Fi_g f2) l2 (fun b j h => by omega) q
      have z2 : mHr (onQ Q) s2 := by
        have e : ∀ b j, ¬ (b = 204 ∧ j = 18) → s2.2.1 b j = s.2.1 b j := f2.2.2
        exact ⟨⟨(e _ _ (by omega)).trans a1, (e _ _ (by omega)).trans a2, (e _ _ (by omega)).trans a3, (e _ _ (by omega)).trans a4, (e _ _ (by omega)).trans a5, (e _ _ (by omega)).trans a6, e2, (e _ _ (by omega)).trans a8⟩, fun k hk => (e _ _ (by omega)).trans (b1 k hk), fun k hk => (e _ _ (by omega)).trans (b2 k hk), fun k hk => (e _ _ (by omega)).trans (b3 k hk), fun k hk => (e _ _ (by omega)).trans (b4 k hk), fun k h1 h2 => ⟨(e _ _ (by omega)).trans (b5 k h1 h2).1, (e _ _ (by omega)).trans (b5 k h1 h2).2⟩, fun k hk i hi => (e _ _ (by omega)).trans (b6 k hk i hi), fun k hk i hi => (e _ _ (by omega)).trans (b7 k hk i hi), fun k hk => by rw [f2.2.1]; exact b8 k hk, fun h => ⟨(e _ _ (by omega)).trans (b9 h).1, mLw_e (e _ _ (by omega)) (fun j => e _ _ (by omega)) (fun j => e _ _ (by omega)) (b9 h).2⟩, fun M h => ⟨(e _ _ (by omega)).trans (b10 M h).1, mLw_e (e _ _ (by omega)) (fun j => e _ _ (by omega)) (fun j => e _ _ (by omega)) (b10 M h).2⟩⟩
      have F2 : Fg PMr s s2 := Fi_g (Fi_m f2 (fun b j h => by unfold PMr; omega))
      obtain ⟨q3, f3⟩ := m_nxt q2 (isW_k c6)
      have z3 : mHr (onQ Q) (jh_setI s2 204 7 (s2.2.1 204 7 + nI 1)) := mHx_78 f3 z2
      generalize jh_setI s2 204 7 (s2.2.1 204 7 + nI 1) = s3 at q3 f3 z3 ⊢
      rw [if_pos (show nI 0 = (0 : Int32) from rfl)]
      have F3 := Fg_t F2 (Fg_7m f3)
      refine m_number q3 ok (by omega) (by omega) (fun v u e qu fu => ⟨qu.1, ?_⟩) (fun x u e zu fu => ⟨zu.1, ?_⟩)
      · rw [e]
        have fs : Fi P21 u (jh_setI u 210 184 (nI v)) := Fi_s (Fi_r _ _) (by unfold P21; omega)
        have ls := Fi_ly fs qu.1
        refine ⟨ls, Fg_t F3 (Fg_t (Fg_7m fu) (Fg_21 (Fi_g fs))), mRd_21 (Fi_g fs) ls qu, ?_⟩
        obtain ⟨⟨a1, a2, a3, a4, a5, a6, a7, a8⟩, b1, b2, b3, b4, b5, b6, b7, b8, b9, b10⟩ := mHx_78 fu z3
        have e : ∀ b j, ¬ (b = 210 ∧ j = 184) → (jh_setI u 210 184 (nI v)).2.1 b j = u.2.1 b j := fun b j h => rI_ne (by omega)
        exact ⟨⟨(e _ _ (by omega)).trans a1, (e _ _ (by omega)).trans a2, (e _ _ (by omega)).trans a3, (e _ _ (by omega)).trans a4, rI_eq, (e _ _ (by omega)).trans a6, (e _ _ (by omega)).trans a7, (e _ _ (by omega)).trans a8⟩, fun k hk => (e _ _ (by omega)).trans (b1 k hk), fun k hk => (e _ _ (by omega)).trans (b2 k hk), fun k hk => (e _ _ (by omega)).trans (b3 k hk), fun k hk => (e _ _ (by omega)).trans (b4 k hk), fun k h1 h2 => ⟨(e _ _ (by omega)).trans (b5 k h1 h2).1, (e _ _ (by omega)).trans (b5 k h1 h2).2⟩, fun k hk i hi => (e _ _ (by omega)).trans (b6 k hk i hi), fun k hk i hi => (e _ _ (by omega)).trans (b7 k hk i hi), b8, fun h => ⟨(e _ _ (by omega)).trans (b9 h).1, mLw_e (e _ _ (by omega)) (fun j => e _ _ (by omega)) (fun j => e _ _ (by omega)) (b9 h).2⟩, fun M h => ⟨(e _ _ (by omega)).trans (b10 M h).1, mLw_e (e _ _ (by omega)) (fun j => e _ _ (by omega)) (fun j => e _ _ (by omega)) (b10 M h).2⟩⟩
      · rw [e]
        have fs : Fi P21 u (jh_setI u 210 184 (nI 0)) := Fi_s (Fi_r _ _) (by unfold P21; omega)
        have ls := Fi_ly fs zu.1
        exact ⟨ls, Fg_t F3 (Fg_t (Fg_7m fu) (Fg_21 (Fi_g fs))), mFt_21 (Fi_g fs) ls zu⟩
  · rw [if_neg c6]
    by_cases c7 : isW 7 (tok ts k) = true
    · have c7' := c7
      rw [isW_is] at c7'
      have ew : whr 6 2 (tok ts k) = nI 1 := by unfold whr; rw [if_pos (by omega), c7'.2]
      rw [if_pos c7, ew, if_pos (by decide), e18, onc_l]
      unfold plC
      by_cases c : (qL Q).isSome = true
      · rw [c, if_pos (by decide), if_pos rfl]
        refine m_wrong q ok (by omega) (fun t zt ft => ⟨zt.1, ?_⟩)
        rw [if_neg (mFt_le zt)]
        exact ⟨zt.1, Fg_7m ft, zt⟩
      · rw [if_neg (by rw [bI_1]; exact c), if_neg c, if_pos (mRd_le q)]
        rw [Bool.not_eq_true] at c
        have eL : qL Q = none := by cases e : qL Q with
          | none => rfl
          | some M => rw [e] at c; cases c
        simp only [lt]
        have f2 : Fi (fun b j => b = 204 ∧ j = 18) s (jh_setI s 204 18 (nI (onc Q) ||| nI 1 <<< (nI 1 &&& 31))) := Fi_s (Fi_r _ _) ⟨rfl, rfl⟩
        have e2 : ∀ M, (jh_setI s 204 18 (nI (onc Q) ||| nI 1 <<< (nI 1 &&& 31))).2.1 204 18 = nI (onc (lwQ Q M)) := by
          intro M
          rw [rI_eq]
          show nI ((if qO Q = true then 1 else 0) + (if (qL Q).isSome = true then 2 else 0)) ||| nI 1 <<< (nI 1 &&& 31) = nI ((if qO Q = true then 1 else 0) + (if true = true then 2 else 0))
          rw [c]
          cases qO Q <;> decide
        have l2 := Fi_ly f2 q.1
        generalize jh_setI s 204 18 (nI (onc Q) ||| nI 1 <<< (nI 1 &&& 31)) = s2 at f2 e2 l2 ⊢
        have q2 : mRd ts n k s2 := mRd_g (Fi_g f2) l2 (fun b j h => by omega) q
        have F2 : Fg PMr s s2 := Fi_g (Fi_m f2 (fun b j h => by unfold PMr; omega))
        obtain ⟨q3, f3⟩ := m_nxt q2 (isW_k c7)
        generalize jh_setI s2 204 7 (s2.2.1 204 7 + nI 1) = s3 at q3 f3 ⊢
        rw [if_neg (by decide)]
        have E3 : ∀ b j, ¬ (b = 204 ∧ (j = 18 ∨ j = 7 ∨ j = 8)) → s3.2.1 b j = s.2.1 b j := fun b j h => (f3.2.1 b j (by unfold P78; omega)).trans (f2.2.2 b j (by omega))
        have e13 : s3.2.1 204 13 = nI 0 := (E3 _ _ (by omega)).trans (b9 eL).2.1
        rw [e13]
        have f4 : Fi P21 s3 (jh_setI s3 210 185 (nI 0)) := Fi_s (Fi_r _ _) (by unfold P21; omega)
        have l4 := Fi_ly f4 q3.1
        have e4 : (jh_setI s3 210 185 (nI 0)).2.1 210 185 = nI 0 := rI_eq
        have E4 : ∀ b j, ¬ (b = 204 ∧ (j = 18 ∨ j = 7 ∨ j = 8)) → ¬ (b = 210 ∧ j = 185) → (jh_setI s3 210 185 (nI 0)).2.1 b j = s.2.1 b j := fun b j h h2 => (rI_ne (by omega)).trans (E3 b j h)
        have e418 : ∀ M, (jh_setI s3 210 185 (nI 0)).2.1 204 18 = nI (onc (lwQ Q M)) := fun M => (rI_ne (by omega)).trans ((f3.2.1 _ _ (by unfold P78; omega)).trans (e2 M))
        have J4 : (jh_setI s3 210 185 (nI 0)).2.2 = s3.2.2 := rfl
        have F4 : Fg PMr s (jh_setI s3 210 185 (nI 0)) := Fg_t F2 (Fg_t (Fg_7m f3) (Fg_21 (Fi_g f4)))
        have q4 : mRd ts n (k + 1) (jh_setI s3 210 185 (nI 0)) := mRd_21 (Fi_g f4) l4 q3
        generalize jh_setI s3 210 185 (nI 0) = s4 at f4 l4 e4 E4 e418 J4 F4 q4 ⊢
        have w4 : mLw [] s4 := ⟨(E4 _ _ (by omega) (by omega)).trans (b9 eL).2.1, fun i p e => by cases e⟩
        have hp := alR_ok (B := 0) hn (okF_le (by omega) (prt_ok ok hn 5 (by omega))) (k + 1) [] q4.2.2.2.2
        refine WM_V (m_law hn hn1 ok s4 (k + 1) [] q4 (Nat.zero_le _) w4) (fun s5 v => ?_)
        obtain ⟨l5, f5, v⟩ := v
        refine ⟨l5, ?_⟩
        cases e : alR ts (prt ts 5) (k + 1) [] with
        | inl x =>
          rw [e] at v
          exact m_emit_f (by omega) v (fun s6 z6 f6 => ⟨z6.1.1, z6.1.1, Fg_t F4 (Fg_t (Fg_m f5 (fun b j => PLm_m)) (Fg_m f6 (fun b j => PEm_m))), z6.1⟩)
        | inr p =>
          rw [e] at v hp
          have hl := okR_l hp (Nat.zero_le _)
          refine m_emit l5 (by omega) v.2 (fun s6 l6 f6 w6 => ⟨l6, l6, Fg_t F4 (Fg_t (Fg_m f5 (fun b j => PLm_m)) (Fg_m f6 (fun b j => PEm_m))), mRd_E f6 l6 v.1, ?_⟩)
          have E6 : ∀ b j, ¬ PLm b j → s6.2.1 b j = s4.2.1 b j := fun b j h => (f6.2.1 b j (fun g => h (PEm_l g))).trans (f5.2.1 b j h)
          have E : ∀ b j, ¬ PLm b j → ¬ (b = 204 ∧ j = 18) → ¬ (b = 210 ∧ j = 185) → s6.2.1 b j = s.2.1 b j := fun b j h h2 h3 => (E6 b j h).trans (E4 b j (by unfold PLm at h; omega) h3)
          have EJ : ∀ j, s6.2.2.1 214 j = s.2.2.1 214 j := fun j => by
            rw [f6.2.2.1 214 j (by unfold PEm; omega), f5.2.2.1 214 j (by unfold PLm; omega), J4, f3.2.2.1 214 j (by unfold P78; omega), f2.2.1]
          refine ⟨⟨(E _ _ (by unfold PLm; omega) (by omega) (by omega)).trans a1, (E _ _ (by unfold PLm; omega) (by omega) (by omega)).trans a2, (E _ _ (by unfold PLm; omega) (by omega) (by omega)).trans a3, (E _ _ (by unfold PLm; omega) (by omega) (by omega)).trans a4, (E _ _ (by unfold PLm; omega) (by omega) (by omega)).trans a5, (E _ _ (by unfold PLm; omega) (by omega) (by omega)).trans a6, (E6 _ _ (by unfold PLm; omega)).trans (e418 p.2), (E _ _ (by unfold PLm; omega) (by omega) (by omega)).trans a8⟩, fun k hk => (E _ _ (by unfold PLm; omega) (by omega) (by omega)).trans (b1 k hk), fun k hk => (E _ _ (by unfold PLm; omega) (by omega) (by omega)).trans (b2 k hk), fun k hk => (E _ _ (by unfold PLm; omega) (by omega) (by omega)).trans (b3 k hk), fun k hk => (E _ _ (by unfold PLm; omega) (by omega) (by omega)).trans (b4 k hk), fun k h1 h2 => ⟨(E _ _ (by unfold PLm; omega) (by omega) (by omega)).trans (b5 k h1 h2).1, (E _ _ (by unfold PLm; omega) (by omega) (by omega)).trans (b5 k h1 h2).2⟩, fun k hk i hi => (E _ _ (by unfold PLm; omega) (by omega) (by omega)).trans (b6 k hk i hi), fun k hk i hi => (E _ _ (by unfold PLm; omega) (by omega) (by omega)).trans (b7 k hk i hi), fun k hk => (EJ k).trans (b8 k hk), fun h => (by cases h), fun M h => ?_⟩
          have h : some p.2 = some M := h
          cases h
          exact ⟨(E6 _ _ (by unfold PLm; omega)).trans e4, w6⟩
    · rw [if_neg c7]
      rw [isW_is] at c6 c7
      rw [if_neg (by rw [whr_neg (by omega)]; omega)]
      refine m_wrong q ok (by omega) (fun t zt ft => ⟨zt.1, ?_⟩)
      rw [if_neg (mFt_le zt)]
      exact ⟨zt.1, Fg_7m ft, zt⟩
end MC5

section MP
variable {s t σ : JH} {ts : List Nat} {n k u B : Nat} {a : Lws} {x : Int32} {P : Nat → Lws → PR} {T : Tok}
theorem Fg_78 (f : Fg P78 s t) : Fg PLm s t := Fg_m f (fun b j => P78_l)
theorem MR_m {w w' : Nat} {r : PR} (h : w ≤ w') (z : MR ts n w r s) : MR ts n w' r s := by
  cases r with
  | inl e => exact mFl_m h z
  | inr q => exact z
theorem m_test (Ψ : Nat → JF) (hu : u ≤ 50) (hn : Tk (tok ts n) = 0) (hn1 : n ≤ 1000) (ok : okTp ts) (hP : MLs ts n u (Ψ 2) x P) (okP : okF n B P) : MLs ts n (u + 1) (jf_of (qp_Md_test Ψ) 3) x (tsR ts P) := by
  intro σ k a q ha hw
  refine w_Md_test Ψ x q.1 ?_
  have hp := okP k a q.2.2.2.2
  refine WM_V (hP σ k a q ha hw) (fun s z => ?_)
  obtain ⟨l, f, z⟩ := z
  refine ⟨l, ?_⟩
  unfold tsR
  cases hq : P k a with
  | inl e =>
    rw [hq] at z
    refine WE_i (m_isSign_f z.1) ?_
    refine m_hasSign_f z.1 (fun t zt ft => ?_)
    rw [if_pos (by decide)]
    refine m_hasSign_f zt (fun v zv fv => ?_)
    rw [if_pos (by decide)]
    exact ⟨zv.1, Fg_t f (Fg_t (Fg_78 ft) (Fg_78 fv)), mFl_m (by omega) (mFl_78 fv zv (mFl_78 ft zt z))⟩
  | inr r =>
    rw [hq] at z hp
    obtain ⟨q1, w1⟩ := z
    have hl := okR_l hp ha
    have go : ∀ c t, opC (tok ts r.1) = some c → Fg PLm s t → Ly t → MR ts n (u + 1) (sfx c (P (r.1 + 1) r.2)) t → Ly t ∧ Fg PLm σ t ∧ MR ts n (u + 1) (match opC (tok ts r.1) with
      | none => .inr r
      | some c => match P (r.1 + 1) r.2 with
        | .inl e => .inl e
        | .inr r => .inr (r.1, r.2 ++ [(c, nI 0)])) t := by
      intro c t hc ft lt' z
      rw [hc]
      refine ⟨lt', Fg_t f ft, ?_⟩
      cases hq : P (r.1 + 1) r.2 with
      | inl e => rw [hq] at z; exact z
      | inr r => rw [hq] at z; exact z
    refine WE_i (m_isSign q1 ok (by omega)) ?_
    by_cases c1 : isS 60 (tok ts r.1) = true
    · rw [c1]
      simp only [bI_0, Bool.true_eq_false, if_false]
      refine m_hasSign q1 ok (by omega) (fun _ t qt ft => ?_) (fun h => absurd (c1.symm.trans h) (by decide))
      rw [if_neg (by decide)]
      exact m_suf (c := 7) hu hn1 hP okP qt (by omega) (mLw_78 ft w1) (fun v fv lv zv => go 7 v (if_pos c1) (Fg_t (Fg_78 ft) fv) lv zv)
    · rw [Bool.not_eq_true] at c1
      rw [c1]
      simp only [bI_0, if_true]
      refine m_hasSign q1 ok (by omega) (fun h => absurd (c1.symm.trans h) (by decide)) (fun _ t qt ft => ?_)
      rw [if_pos (by decide)]
      refine m_hasSign qt ok (by omega) (fun c2 v qv fv => ?_) (fun c2 v qv fv => ?_)
      · rw [if_neg (by decide)]
        exact m_suf (c := 8) hu hn1 hP okP qv (by omega) (mLw_78 fv (mLw_78 ft w1)) (fun w fw lw zw => go 8 w (by unfold opC; rw [c1, if_neg (by decide), if_pos c2]) (Fg_t (Fg_t (Fg_78 ft) (Fg_78 fv)) fw) lw zw)
      · rw [if_pos (by decide)]
        have e : opC (tok ts r.1) = none := by unfold opC; rw [c1, c2, if_neg (by decide), if_neg (by decide)]
        refine ⟨qv.1, Fg_t f (Fg_t (Fg_78 ft) (Fg_78 fv)), ?_⟩
        show MR ts n (u + 1) (match opC (tok ts r.1) with
          | none => .inr r
          | some c => match P (r.1 + 1) r.2 with
            | .inl e => .inl e
            | .inr r => .inr (r.1, r.2 ++ [(c, nI 0)])) v
        rw [e]
        exact ⟨qv, mLw_78 fv (mLw_78 ft w1)⟩
/-- a fault while a law is read -/
theorem m_lf {f : Nat} {r : PR} {K : JH → Prop} (q : mRd ts n k s) (ok : okTp ts) (hf : 1 ≤ f ∧ f ≤ 5) (ha : a.length ≤ 1000) (hw : mLw a s) (hr : r = .inl (flt f (tok ts k))) (hK : ∀ t, mFt (flt f (tok ts k)) t → Fg PLm s t → MR ts n u r t → K t) : WM q_Md_wrong [.ref 204, .int (nI f)] s (kV fun t => Ly t ∧ K t) := by
  subst hr
  exact m_wrong q ok hf (fun t zt ft => ⟨zt.1, hK t zt (Fg_78 ft) (mFl_w ha ft hw zt)⟩)
theorem isS_2 {d : Nat} (h : Tk T = 2) : isS d T = false := by unfold isS; rw [decide_eq_false (by omega)]; rfl
theorem isW_2 {d : Nat} (h : Tk T = 2) : isW d T = false := by unfold isW; rw [decide_eq_false (by omega)]; rfl
theorem vlu_2 (h : Tk T = 2) : vlu T = some (1, nI (Tv T)) := if_pos h
theorem vlu_1 (h : ¬ Tk T = 2) : (0 ≤ whr 18 3 T) = ((vlu T).isSome = true) := by
  rw [whr_neg (by omega), eq_iff_iff]
  unfold vlu
  rw [if_neg h]
  by_cases c : Tk T = 1 ∧ 18 ≤ wix (Tl T) ∧ wix (Tl T) < 21
  · rw [if_pos c]; exact ⟨fun _ => rfl, fun _ => c⟩
  · rw [if_neg c]; exact ⟨fun h => absurd h c, fun h => by cases h⟩
theorem vlu_v {v : Nat × Int32} (h : ¬ Tk T = 2) (e : vlu T = some v) : v = (2, whr 18 3 T) := by
  unfold vlu at e
  rw [if_neg h] at e
  by_cases c : Tk T = 1 ∧ 18 ≤ wix (Tl T) ∧ wix (Tl T) < 21
  · rw [if_pos c] at e
    unfold whr
    rw [if_pos (by omega)]
    exact (Option.some.inj e).symm
  · rw [if_neg c] at e; cases e
theorem m_part0 (Ψ : Nat → JF) (hn1 : n ≤ 1000) (ok : okTp ts) : MLs ts n 0 (jf_of (qp_Md_takePart Ψ) 4) (nI 5) (prt ts 0) := by
  intro σ k a q ha hw
  refine w_Md_takePart Ψ _ q.1 ?_
  obtain ⟨hin, hcl, ⟨a1, a2, a3, a4, a5⟩, hk⟩ := mRd_in q
  have hT := (tok_ok ok k).1.2.2.2.2.2.2
  rw [if_pos (mRd_le q), hcl, a1]
  refine ⟨hin, ?_⟩
  simp only [JJ2]
  unfold prt
  have f5 : (isW 15 (tok ts k) = true ∨ isS 40 (tok ts k) = true ∨ (vlu (tok ts k)).isSome = true) → WM q_Md_wrong [.ref 204, .int (nI 5)] σ (kV fun t => Ly t ∧ ∀ G : Prop, (if t.2.1 204 8 ≤ 0 then G else (fun s => Ly s ∧ Fg PLm σ s ∧ MR ts n 0 (if isW 15 (tok ts k) = true ∨ isS 40 (tok ts k) = true ∨ (vlu (tok ts k)).isSome = true then Sum.inl (flt 5 (tok ts k)) else Sum.inl (flt 1 (tok ts k))) s) t)) := fun h => m_lf (u := 0) q ok (by omega) (by omega) hw rfl (fun t zt ft z G => by
    rw [if_neg (mFt_le zt), if_pos h]
    exact ⟨zt.1, ft, z⟩)
  by_cases c2 : Tk (tok ts k) = 2
  · rw [if_pos (by rw [c2])]
    refine WE_i (m_wordHere q ok (by omega)) ?_
    have hv : (vlu (tok ts k)).isSome = true := by rw [vlu_2 c2]; rfl
    by_cases c3 : 0 ≤ whr 18 3 (tok ts k)
    · rw [if_pos c3, if_pos trivial]
      exact WM_V (f5 (Or.inr (Or.inr hv))) (fun t z => ⟨z.1, z.2 _⟩)
    · rw [if_neg c3, if_pos trivial]
      exact WM_V (f5 (Or.inr (Or.inr hv))) (fun t z => ⟨z.1, z.2 _⟩)
  · rw [if_neg (by rw [nI_eqN (by omega) (by omega)]; exact c2)]
    refine WE_i (m_wordHere q ok (by omega)) ?_
    by_cases c3 : 0 ≤ whr 18 3 (tok ts k)
    · rw [if_pos c3, if_pos trivial]
      rw [vlu_1 c2] at c3
      exact WM_V (f5 (Or.inr (Or.inr c3))) (fun t z => ⟨z.1, z.2 _⟩)
    · rw [if_neg c3]
      rw [vlu_1 c2] at c3
      refine WE_i (m_isSign q ok (by omega)) ?_
      by_cases c4 : isS 40 (tok ts k) = true
      · rw [if_neg (by rw [c4]; decide), if_pos trivial]
        exact WM_V (f5 (Or.inr (Or.inl c4))) (fun t z => ⟨z.1, z.2 _⟩)
      · rw [if_pos (by rw [Bool.not_eq_true] at c4; rw [c4]; decide)]
        refine WE_i (m_isWord q ok (by omega)) ?_
        by_cases c5 : isW 15 (tok ts k) = true
        · rw [if_neg (by rw [c5]; decide), if_pos trivial]
          exact WM_V (f5 (Or.inl c5)) (fun t z => ⟨z.1, z.2 _⟩)
        · rw [if_pos (by rw [Bool.not_eq_true] at c5; rw [c5]; decide)]
          refine m_lf (u := 0) q ok (by omega) (by omega) hw rfl (fun t zt ft z => ?_)
          rw [if_neg (mFt_le zt)]
          refine ⟨zt.1, ft, ?_⟩
          rw [if_neg (by
            rintro (h | h | h)
            · exact c5 h
            · exact c4 h
            · exact c3 h)]
          exact z
theorem m_pj (Ψ : Nat → JF) {r : Nat} {y : Int32} {G K : JH → Prop} (hr : r + 1 ≤ 5) (hn : Tk (tok ts n) = 0) (hn1 : n ≤ 1000) (ok : okTp ts) (hP : MLs ts n (4 * r) (Ψ 3) y (prt ts r)) (hA : MLs ts n (4 * r + 4) (Ψ 0) y (alR ts (prt ts r))) (q : mRd ts n k s) (ha : a.length ≤ k) (hw : mLw a s) (hG : isW 15 (tok ts k) = false → isS 40 (tok ts k) = false → ∀ t, mRd ts n k t → Fg P78 s t → G t) (hK : ∀ t, Ly t → Fg PLm s t → MR ts n (4 * r + 4) (prt ts (r + 1) k a) t → K t) : WM q_Md_hasWord [.ref 204, .int (nI 15)] s (kI fun x4 s5 => Ly s5 ∧ (if x4 = 0 then WM q_Md_hasSign [.ref 204, .int (nI 40)] s5 (kI fun x6 s7 => Ly s7 ∧ (if x6 = 0 then G s7 else WM (Ψ 0) [.ref 204, .int y] s7 (kV fun s10 => Ly s10 ∧ WM q_Md_takeSign [.ref 204, .int (nI 41)] s10 (kV fun s11 => Ly s11 ∧ K s11)))) else WM (Ψ 3) [.ref 204, .int y] s5 (kV fun s12 => Ly s12 ∧ WM q_Md_emit [.ref 204, .int (nI 3), .int (nI 0)] s12 (kV fun s13 => Ly s13 ∧ K s13)))) := by
  have okP := prt_ok ok hn r (by omega)
  have okA : okF n 0 (alR ts (prt ts r)) := alR_ok hn (okF_le (by omega) okP)
  have ep : prt ts (r + 1) k a = if isW 15 (tok ts k) = true then (match prt ts r (k + 1) a with
      | .inl e => .inl e
      | .inr q => .inr (q.1, q.2 ++ [(3, nI 0)])) else if isS 40 (tok ts k) = true then (match alR ts (prt ts r) (k + 1) a with
      | .inl e => .inl e
      | .inr q => if isS 41 (tok ts q.1) = true then .inr (q.1 + 1, q.2) else .inl (flt 1 (tok ts q.1))) else match vlu (tok ts k) with
      | some v => .inr (k + 1, a ++ [v])
      | none => .inl (flt 1 (tok ts k)) := rfl
  refine m_hasWord q ok (by omega) (fun c1 t qt ft => ?_) (fun c1 t qt ft => ?_)
  · rw [if_neg (by decide)]
    refine m_suf (c := 3) (by omega) hn1 hP okP qt (by omega) (mLw_78 ft hw) (fun v fv lv zv => hK v lv (Fg_t (Fg_78 ft) fv) ?_)
    rw [ep, if_pos c1]
    cases hq : prt ts r (k + 1) a with
    | inl e => rw [hq] at zv; exact mFl_m (by omega) zv
    | inr w => rw [hq] at zv; exact zv
  · rw [if_pos (by decide)]
    refine m_hasSign qt ok (by omega) (fun c2 v qv fv => ?_) (fun c2 v qv fv => ?_)
    · rw [if_neg (by decide)]
      have fv' := Fg_t (Fg_78 ft) (Fg_78 fv)
      have hp := okA (k + 1) a qv.2.2.2.2
      refine WM_V (hA v (k + 1) a qv (by omega) (mLw_78 fv (mLw_78 ft hw))) (fun w z => ?_)
      obtain ⟨lw, fw, z⟩ := z
      refine ⟨lw, ?_⟩
      cases hq : alR ts (prt ts r) (k + 1) a with
      | inl e =>
        rw [hq] at z
        refine m_takeSign_f z.1 (hK w lw (Fg_t fv' fw) ?_)
        rw [ep, c1, if_neg (by decide), if_pos c2, hq]
        exact z
      | inr p =>
        rw [hq] at z hp
        have hl := okR_l hp (by omega)
        refine m_takeSign z.1 ok (by omega) (fun c3 o qo fo => hK o qo.1 (Fg_t fv' (Fg_t fw (Fg_78 fo))) ?_) (fun c3 o qo fo => hK o qo.1 (Fg_t fv' (Fg_t fw (Fg_78 fo))) ?_)
        · rw [ep, c1, if_neg (by decide), if_pos c2, hq]
          show MR ts n (4 * r + 4) (if isS 41 (tok ts p.1) = true then .inr (p.1 + 1, p.2) else .inl (flt 1 (tok ts p.1))) o
          rw [if_pos c3]
          exact ⟨qo, mLw_78 fo z.2⟩
        · rw [ep, c1, if_neg (by decide), if_pos c2, hq]
          show MR ts n (4 * r + 4) (if isS 41 (tok ts p.1) = true then .inr (p.1 + 1, p.2) else .inl (flt 1 (tok ts p.1))) o
          rw [c3, if_neg (by decide)]
          exact mFl_w (by omega) fo z.2 qo
    · rw [if_pos (by decide)]
      exact hG c1 c2 v qv (Fg_t ft fv)
theorem m_partS (Ψ : Nat → JF) {r : Nat} (hr : r + 1 ≤ 5) (hn : Tk (tok ts n) = 0) (hn1 : n ≤ 1000) (ok : okTp ts) (hP : MLs ts n (4 * r) (Ψ 3) (nI (5 - r)) (prt ts r)) (hA : MLs ts n (4 * r + 4) (Ψ 0) (nI (5 - r)) (alR ts (prt ts r))) : MLs ts n (4 * r + 4) (jf_of (qp_Md_takePart Ψ) 4) (nI (5 - (r + 1))) (prt ts (r + 1)) := by
  intro σ k a q ha hw
  refine w_Md_takePart Ψ _ q.1 ?_
  obtain ⟨hin, hcl, ⟨a1, a2, a3, a4, a5⟩, hk⟩ := mRd_in q
  have hT := (tok_ok ok k).1.2.2.2.2.2.2
  rw [if_pos (mRd_le q), hcl, a1]
  refine ⟨hin, ?_⟩
  simp only [JJ2]
  have n5 : ¬ nI (5 - (r + 1)) = nI 5 := by rw [nI_eqN (by omega) (by omega)]; omega
  rw [nI_add, show 5 - (r + 1) + 1 = 5 - r by omega]
  simp only [if_neg n5]
  have ep : isW 15 (tok ts k) = false → isS 40 (tok ts k) = false → prt ts (r + 1) k a = (match vlu (tok ts k) with
      | some v => .inr (k + 1, a ++ [v])
      | none => .inl (flt 1 (tok ts k))) := by
    intro h1 h2
    unfold prt
    rw [h1, h2, if_neg (by decide), if_neg (by decide)]
    cases vlu (tok ts k) <;> rfl
  by_cases c2 : Tk (tok ts k) = 2
  · rw [if_pos (by rw [c2])]
    refine WE_i (m_wordHere q ok (by omega)) ?_
    have main : (if σ.2.1 204 8 ≤ 0 then WM q_Md_hasWord [.ref 204, .int (nI 15)] σ (kI fun x4 s5 => Ly s5 ∧ (if x4 = 0 then WM q_Md_hasSign [.ref 204, .int (nI 40)] s5 (kI fun x6 s7 => Ly s7 ∧ (if x6 = 0 then inb (s7.2.1 204 7) 1002 ∧ WM q_Md_emit [.ref 204, .int (nI 1), .int ((s7.2.2.1 208 (cl (s7.2.1 204 7))).toInt32)] s7 (kV fun s8 => Ly s8 ∧ lt (jh_setI s8 204 7 ((s8.2.1 204 7) + nI 1)) (fun s9 => Ly s9 ∧ Fg PLm σ s9 ∧ MR ts n (4 * r + 4) (prt ts (r + 1) k a) s9)) else WM (Ψ 0) [.ref 204, .int (nI (5 - r))] s7 (kV fun s10 => Ly s10 ∧ WM q_Md_takeSign [.ref 204, .int (nI 41)] s10 (kV fun s11 => Ly s11 ∧ Ly s11 ∧ Fg PLm σ s11 ∧ MR ts n (4 * r + 4) (prt ts (r + 1) k a) s11)))) else WM (Ψ 3) [.ref 204, .int (nI (5 - r))] s5 (kV fun s12 => Ly s12 ∧ WM q_Md_emit [.ref 204, .int (nI 3), .int (nI 0)] s12 (kV fun s13 => Ly s13 ∧ Ly s13 ∧ Fg PLm σ s13 ∧ MR ts n (4 * r + 4) (prt ts (r + 1) k a) s13)))) else Ly σ ∧ Fg PLm σ σ ∧ MR ts n (4 * r + 4) (prt ts (r + 1) k a) σ) := by
      rw [if_pos (mRd_le q)]
      refine m_pj Ψ hr hn hn1 ok hP hA q ha hw (fun h1 h2 t qt ft => ?_) (fun t l f z => ⟨l, f, z⟩)
      obtain ⟨hin, hcl, ⟨b1, b2, b3, b4, b5⟩, hk⟩ := mRd_in qt
      refine ⟨hin, ?_⟩
      rw [hcl, b4 c2, lN_i]
      refine m_emit qt.1 (by omega) (mLw_78 ft hw) (fun v lv fv wv => ⟨lv, ?_⟩)
      obtain ⟨qo, fo⟩ := m_nxt (mRd_E fv lv qt) (by omega)
      refine ⟨qo.1, Fg_t (Fg_78 ft) (Fg_t (Fg_m fv (fun b j => PEm_l)) (Fg_78 fo)), ?_⟩
      rw [ep h1 h2, vlu_2 c2]
      exact ⟨qo, mLw_78 fo wv⟩
    split
    · exact main
    · exact main
  · rw [if_neg (by rw [nI_eqN (by omega) (by omega)]; exact c2)]
    refine WE_i (m_wordHere q ok (by omega)) ?_
    have main : ((isW 15 (tok ts k) = false → isS 40 (tok ts k) = false → (vlu (tok ts k)).isSome = true)) → (if σ.2.1 204 8 ≤ 0 then WM q_Md_hasWord [.ref 204, .int (nI 15)] σ (kI fun x4 s5 => Ly s5 ∧ (if x4 = 0 then WM q_Md_hasSign [.ref 204, .int (nI 40)] s5 (kI fun x6 s7 => Ly s7 ∧ (if x6 = 0 then WM q_Md_emit [.ref 204, .int (nI 2), .int (whr 18 3 (tok ts k))] s7 (kV fun s8 => Ly s8 ∧ lt (jh_setI s8 204 7 ((s8.2.1 204 7) + nI 1)) (fun s9 => Ly s9 ∧ Fg PLm σ s9 ∧ MR ts n (4 * r + 4) (prt ts (r + 1) k a) s9)) else WM (Ψ 0) [.ref 204, .int (nI (5 - r))] s7 (kV fun s10 => Ly s10 ∧ WM q_Md_takeSign [.ref 204, .int (nI 41)] s10 (kV fun s11 => Ly s11 ∧ Ly s11 ∧ Fg PLm σ s11 ∧ MR ts n (4 * r + 4) (prt ts (r + 1) k a) s11)))) else WM (Ψ 3) [.ref 204, .int (nI (5 - r))] s5 (kV fun s12 => Ly s12 ∧ WM q_Md_emit [.ref 204, .int (nI 3), .int (nI 0)] s12 (kV fun s13 => Ly s13 ∧ Ly s13 ∧ Fg PLm σ s13 ∧ MR ts n (4 * r + 4) (prt ts (r + 1) k a) s13)))) else Ly σ ∧ Fg PLm σ σ ∧ MR ts n (4 * r + 4) (prt ts (r + 1) k a) σ) := by
      intro hv
      rw [if_pos (mRd_le q)]
      refine m_pj Ψ hr hn hn1 ok hP hA q ha hw (fun h1 h2 t qt ft => ?_) (fun t l f z => ⟨l, f, z⟩)
      cases e : vlu (tok ts k) with
      | none => rw [e] at hv; exact absurd (hv h1 h2) (by decide)
      | some v =>
        refine m_emit qt.1 (by omega) (mLw_78 ft hw) (fun w lw fw ww => ⟨lw, ?_⟩)
        obtain ⟨qo, fo⟩ := m_nxt (mRd_E fw lw qt) (vlu_ok (tok_ok ok k).1 e).1
        refine ⟨qo.1, Fg_t (Fg_78 ft) (Fg_t (Fg_m fw (fun b j => PEm_l)) (Fg_78 fo)), ?_⟩
        rw [ep h1 h2, e, vlu_v c2 e]
        exact ⟨qo, mLw_78 fo ww⟩
    by_cases c3 : 0 ≤ whr 18 3 (tok ts k)
    · rw [if_pos c3]
      rw [vlu_1 c2] at c3
      exact main (fun _ _ => c3)
    · rw [if_neg c3]
      rw [vlu_1 c2] at c3
      refine WE_i (m_isSign q ok (by omega)) ?_
      by_cases c4 : isS 40 (tok ts k) = true
      · rw [c4, if_neg (by decide)]
        exact main (fun _ h => absurd (c4.symm.trans h) (by decide))
      · rw [Bool.not_eq_true] at c4
        rw [c4, if_pos (by decide)]
        refine WE_i (m_isWord q ok (by omega)) ?_
        by_cases c5 : isW 15 (tok ts k) = true
        · rw [c5, if_neg (by decide)]
          exact main (fun h _ => absurd (c5.symm.trans h) (by decide))
        · rw [Bool.not_eq_true] at c5
          rw [c5, if_pos (by decide)]
          refine m_lf (u := 4 * r + 4) q ok (by omega) (by omega) hw rfl (fun t zt ft z => ?_)
          rw [if_neg (mFt_le zt)]
          refine ⟨zt.1, ft, ?_⟩
          rw [ep c5 c4]
          cases e : vlu (tok ts k) with
          | none => exact z
          | some v => rw [e] at c3; exact absurd rfl c3
theorem m_chain {L : Nat} (hu : u ≤ 40) (hn : Tk (tok ts n) = 0) (hn1 : n ≤ 1000) (ok : okTp ts) (hp : ∀ m, L ≤ m → MLs ts n u (g_Md_all m 3) x P) (okP : okF n 4 P) : ∀ m, L + 4 ≤ m → MLs ts n (u + 4) (g_Md_all m 0) x (alR ts P) := by
  intro m hm
  obtain ⟨m, rfl⟩ : ∃ m', m = m' + 4 := ⟨m - 4, by omega⟩
  have h1 : MLs ts n (u + 1) (g_Md_all (m + 1) 1) x (prd ts P) := m_products (g_Md_all m) (by omega) hn hn1 ok (hp m (by omega)) okP
  have h2 : MLs ts n (u + 2) (g_Md_all (m + 2) 2) x (sms ts P) := m_sums (g_Md_all (m + 1)) (by omega) hn hn1 ok h1 (prd_ok (B := 3) hn okP)
  have h3 : MLs ts n (u + 3) (g_Md_all (m + 3) 4) x (tst ts P) := m_test (g_Md_all (m + 2)) (by omega) hn hn1 ok h2 (sms_ok (B := 2) hn okP)
  exact m_all (g_Md_all (m + 3)) (by omega) hn hn1 ok h3 (tst_ok (B := 1) hn okP)
theorem m_parts (hn : Tk (tok ts n) = 0) (hn1 : n ≤ 1000) (ok : okTp ts) : ∀ r, r ≤ 5 → ∀ m, 1 + 5 * r ≤ m → MLs ts n (4 * r) (g_Md_all m 3) (nI (5 - r)) (prt ts r) := by
  intro r
  induction r with
  | zero =>
    intro _ m hm
    obtain ⟨m, rfl⟩ : ∃ m', m = m' + 1 := ⟨m - 1, by omega⟩
    exact m_part0 (g_Md_all m) hn1 ok
  | succ r ih =>
    intro hr m hm
    obtain ⟨m, rfl⟩ : ∃ m', m = m' + 1 := ⟨m - 1, by omega⟩
    exact m_partS (g_Md_all m) hr hn hn1 ok (ih (by omega) m (by omega)) (m_chain (by omega) hn hn1 ok (ih (by omega)) (okF_le (by omega) (prt_ok ok hn r (by omega))) m (by omega))
theorem m_law (hn : Tk (tok ts n) = 0) (hn1 : n ≤ 1000) (ok : okTp ts) : MLs ts n 24 q_Md_all (nI 0) (alR ts (prt ts 5)) := m_chain (u := 20) (by omega) hn hn1 ok (m_parts hn hn1 ok 5 (by omega)) (okF_le (by omega) (prt_ok ok hn 5 (by omega))) 40 (by omega)
end MP

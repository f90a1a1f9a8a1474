/-! ===== the model reads a cellar ===== -/
section MC
variable {s t σ : JH} {ts : List Nat} {n k : Nat} {Q : Qs} {mm : Nat → Nat}
def onc (Q : Qs) : Nat := (if qO Q = true then 1 else 0) + (if (qL Q).isSome = true then 2 else 0)
def mHx (Q : Qs) (mm : Nat → Nat) (σ : JH) : Prop :=
  (σ.2.1 210 180 = nI (Hn (qH Q)) ∧ σ.2.1 210 181 = nI (ppl Q) ∧ σ.2.1 210 182 = nI (nws Q) ∧ σ.2.1 210 183 = nI (prs (Hx (qH Q)) (Hn (qH Q))) ∧ σ.2.1 210 184 = nI (Ho (qH Q)) ∧ σ.2.1 204 17 = nI (Hn (qH Q)) ∧ σ.2.1 204 18 = nI (onc Q) ∧ σ.2.1 204 19 = nI (msk (qR Q) 8)) ∧
  (∀ k, k < Hn (qH Q) → σ.2.1 210 (188 + 4 * k) = nI (Hk (qH Q) k)) ∧ (∀ k, k < Hn (qH Q) → σ.2.1 210 (188 + 4 * k + 1) = bI (Hw (qH Q) k)) ∧ (∀ k, k < Hn (qH Q) → σ.2.1 210 (188 + 4 * k + 2) = nI (Hp (qH Q) k)) ∧ (∀ k, k < Hn (qH Q) → σ.2.1 210 (188 + 4 * k + 3) = nI (mm k)) ∧ (∀ k, Hn (qH Q) ≤ k → k < 8 → σ.2.1 210 (188 + 4 * k) = nI 0 ∧ σ.2.1 210 (188 + 4 * k + 2) = nI 0) ∧
  (∀ k, k < 8 → ∀ e, e < 8 → σ.2.1 210 (220 + 8 * k + e) = bI (Hb (qH Q) k e)) ∧ (∀ k, k < 8 → ∀ e, e < 8 → σ.2.1 210 (284 + 8 * k + e) = bI (Hx (qH Q) k e)) ∧ (∀ k, k < Hn (qH Q) → σ.2.2.1 214 k = lN (wrd 37 (qN Q k))) ∧
  (qL Q = none → σ.2.1 210 185 = mI 1 ∧ mLw [] σ) ∧ (∀ M, qL Q = some M → σ.2.1 210 185 = nI 0 ∧ mLw (M ++ [(0, nI 0)]) σ)
def mHr (Q : Qs) (σ : JH) : Prop := mHx Q (Hm (qH Q)) σ
def PMr (b j : Nat) : Prop := (b = 204 ∧ (j = 7 ∨ j = 8 ∨ j = 13 ∨ j = 17 ∨ j = 18 ∨ j = 19)) ∨ (b = 210 ∧ 180 ≤ j) ∨ (b = 211 ∧ 1100 ≤ j) ∨ (b = 212 ∧ 1100 ≤ j) ∨ b = 214
def MH (ts : List Nat) (n : Nat) (r : PQ) (s : JH) : Prop := match r with
  | .inl e => mFt e s
  | .inr q => mRd ts n q.1 s ∧ mHr q.2 s
/-- only the place in the row of tokens, or the fault, changed -/
theorem mHx_78 (f : Fg P78 s t) (z : mHx Q mm s) : mHx Q mm t := by
  obtain ⟨⟨a1, a2, a3, a4, a5, a6, a7, a8⟩, b1, b2, b3, b4, b5, b6, b7, b8, b9, b10⟩ := z
  have e : ∀ b j, ¬ (b = 204 ∧ (j = 7 ∨ j = 8)) → t.2.1 b j = s.2.1 b j := f.2.1
  exact ⟨⟨(e _ _ (by omega)).trans a1, (e _ _ (by omega)).trans a2, (e _ _ (by omega)).trans a3, (e _ _ (by omega)).trans a4, (e _ _ (by omega)).trans a5, (e _ _ (by omega)).trans a6, (e _ _ (by omega)).trans a7, (e _ _ (by omega)).trans a8⟩, fun k hk => (e _ _ (by omega)).trans (b1 k hk), fun k hk => (e _ _ (by omega)).trans (b2 k hk), fun k hk => (e _ _ (by omega)).trans (b3 k hk), fun k hk => (e _ _ (by omega)).trans (b4 k hk), fun k h1 h2 => ⟨(e _ _ (by omega)).trans (b5 k h1 h2).1, (e _ _ (by omega)).trans (b5 k h1 h2).2⟩, fun k hk i hi => (e _ _ (by omega)).trans (b6 k hk i hi), fun k hk i hi => (e _ _ (by omega)).trans (b7 k hk i hi), fun k hk => (f.2.2.1 _ _ (by unfold P78; omega)).trans (b8 k hk), fun h => ⟨(e _ _ (by omega)).trans (b9 h).1, mLw_78 f (b9 h).2⟩, fun M h => ⟨(e _ _ (by omega)).trans (b10 M h).1, mLw_78 f (b10 M h).2⟩⟩
theorem P78_m {b j : Nat} (h : P78 b j) : PMr b j := by unfold P78 at h; unfold PMr; omega
theorem Fg_7m (f : Fg P78 s t) : Fg PMr s t := Fg_m f (fun b j => P78_m)
theorem nI0 : (nI 0 = (0 : Int32)) = True := by rw [eq_iff_iff]; exact ⟨fun _ => trivial, fun _ => rfl⟩
theorem nI1 : (nI 1 = (0 : Int32)) = False := by rw [eq_iff_iff]; exact ⟨fun h => absurd h (by decide), fun h => h.elim⟩
theorem fnI_lt {nm : Nat → List Nat} {l : List Nat} {m : Nat} (m8 : m ≤ 8) : (fnI (fnd nm l m) < 0) = (fnd nm l m = none) := by
  cases e : fnd nm l m with
  | none => rw [eq_iff_iff]; exact ⟨fun _ => rfl, fun _ => by decide⟩
  | some p =>
    have := (fnd_some e).1
    show (nI p < 0) = _
    rw [nI_lt0 (by omega), eq_iff_iff]
    exact ⟨fun h => h.elim, fun h => by cases h⟩
theorem m_find {nm : Nat → List Nat} {m blk : Nat} {w : Bool} (q : mRd ts n k s) (ok : okTp ts) (h1 : Tk (tok ts k) = 1) (m8 : m ≤ 8) (hb : blk = if w = true then 214 else 213) (hc : s.2.1 204 (if w = true then 17 else 16) = nI m) (hnm : ∀ k, k < m → s.2.2.1 blk k = lN (wrd 37 (nm k))) (hok : ∀ k, k < m → okN (nm k) ∧ ∀ e, e < k → nm e ≠ nm k) : q_Md_find [.ref 204, .int (bI w)] s = some (some (.int (fnI (fnd nm (Tl (tok ts k)) m))), s) := by
  obtain ⟨hin, hcl, ⟨a1, a2, a3, a4, a5⟩, hk⟩ := mRd_in q
  obtain ⟨k1, k2, -⟩ := (tok_ok ok k).1
  refine WE_o (w_Md_find _ q.1 ?_)
  refine Lp2_inv (I := fun r v1 v2 => ∃ i, i ≤ m ∧ r = m - i ∧ v2 = nI i ∧ v1 = fnI (fnd nm (Tl (tok ts k)) i)) ?_ (m := m) ⟨0, Nat.zero_le _, rfl, rfl, rfl⟩
  rintro r v1 v2 ⟨i, hi, rfl, rfl, rfl⟩ X hX
  simp only [JJ1]
  have body : (if nI m ≤ nI i then (fun y => y = fnI (fnd nm (Tl (tok ts k)) m)) (fnI (fnd nm (Tl (tok ts k)) i)) else inb (nI i) 8 ∧ inb (s.2.1 204 7) 1002 ∧ (if lg_cmp (s.2.2.1 blk (cl (nI i))) (s.2.2.1 208 (cl (s.2.1 204 7))) = 0 then X (nI i) (nI i + nI 1) else X (fnI (fnd nm (Tl (tok ts k)) i)) (nI i + nI 1))) := by
    by_cases c : m ≤ i
    · rw [if_pos (by rw [nI_leN (by omega) (by omega)]; exact c), show m = i by omega]
    · rw [if_neg (by rw [nI_leN (by omega) (by omega)]; exact c)]
      refine ⟨by rw [inb_nI (by omega) (by omega)]; omega, hin, ?_⟩
      have hi' : i < m := by omega
      rw [cl_nI (by omega), hnm i hi', hcl, a3 h1, nI_add]
      have hs : fnd nm (Tl (tok ts k)) (i + 1) = match fnd nm (Tl (tok ts k)) i with
        | some k => some k
        | none => if nm i = Tl (tok ts k) then some i else none := rfl
      by_cases d : nm i = Tl (tok ts k)
      · rw [if_pos (by rw [lg_cmp_eq, d])]
        refine hX (m - (i + 1)) _ _ (by omega) ⟨i + 1, by omega, rfl, rfl, ?_⟩
        cases e : fnd nm (Tl (tok ts k)) i with
        | some p =>
          have := fnd_some e
          exact absurd (this.2.trans d.symm) ((hok i hi').2 p this.1)
        | none =>
          rw [hs, e]
          show nI i = fnI (if nm i = Tl (tok ts k) then some i else none)
          rw [if_pos d]; rfl
      · rw [if_neg (by rw [lg_cmp_eq, wrd_eq37 (hok i hi').1.2.2 k1 (hok i hi').1.2.1 k2]; exact d)]
        refine hX (m - (i + 1)) _ _ (by omega) ⟨i + 1, by omega, rfl, rfl, ?_⟩
        rw [hs]
        cases e : fnd nm (Tl (tok ts k)) i with
        | some p => rfl
        | none =>
          show fnI none = fnI (if nm i = Tl (tok ts k) then some i else none)
          rw [if_neg d]
  cases w
  · have hb : blk = 213 := hb
    have hc : s.2.1 204 16 = nI m := hc
    subst hb
    simp only [bI_0, if_true]
    rw [hc]
    exact body
  · have hb : blk = 214 := hb
    have hc : s.2.1 204 17 = nI m := hc
    subst hb
    simp only [bI_0, Bool.true_eq_false, if_false]
    rw [hc]
    exact body
theorem nam_1 {T : Tok} (h : nam T = true) : Tk T = 1 := by unfold nam at h; simp at h; exact h.1
theorem m_findQ (q : mRd ts n k s) (ok : okTp ts) (h1 : nam (tok ts k) = true) (hQ : WQ Q) (z : mHx Q mm s) : q_Md_find [.ref 204, .int (nI 1)] s = some (some (.int (fnI (fnd (qN Q) (Tl (tok ts k)) (Hn (qH Q))))), s) := m_find (w := true) q ok (nam_1 h1) (WQ_8 hQ) rfl z.1.2.2.2.2.2.1 z.2.2.2.2.2.2.2.2.1 hQ.2.2.2.1
theorem m_person {K : Int32 → JH → Prop} (q : mRd ts n k s) (ok : okTp ts) (hQ : WQ Q) (z : mHx Q mm s) (h1 : ∀ p, psn ts Q k = .inr p → K (nI p) s) (h0 : ∀ e t, psn ts Q k = .inl e → mFt e t → Fg P78 s t → K (nI 0) t) : WM q_Md_personHere [.ref 204] s (kI K) := by
  have n8 := WQ_8 hQ
  refine w_Md_personHere q.1 ?_
  simp only [JJ1]
  rw [if_pos (mRd_0 q)]
  refine WE_i (m_isName q ok) ?_
  unfold psn tld at h1 h0
  by_cases c : nam (tok ts k) = false
  · rw [if_pos c] at h1 h0
    rw [c, if_pos (by decide)]
    refine m_wrong q ok (by omega) (fun t zt ft => ⟨zt.1, ?_⟩)
    rw [if_neg (mFt_le zt), if_neg (mFt_0 zt), if_neg (mFt_le zt)]
    exact h0 _ t rfl zt ft
  · rw [if_neg c] at h1 h0
    rw [Bool.not_eq_false] at c
    rw [c, if_neg (by decide), if_pos (mRd_le q)]
    refine WE_i (m_findQ q ok c hQ z) ?_
    rw [if_pos (mRd_0 q)]
    cases e : fnd (qN Q) (Tl (tok ts k)) (Hn (qH Q)) with
    | none =>
      rw [e] at h1 h0
      rw [if_pos (show fnI none < 0 by decide)]
      refine m_wrong q ok (by omega) (fun t zt ft => ⟨zt.1, ?_⟩)
      rw [if_neg (mFt_le zt)]
      exact h0 _ t rfl zt ft
    | some p =>
      rw [e] at h1 h0
      have hp := (fnd_some e).1
      rw [show fnI (some p) = nI p from rfl, if_neg (by rw [nI_lt0 (by omega)]; exact id), nI_mulN, nI_add, nI_add, cl_nI (by omega), z.2.2.1 p hp]
      refine ⟨by rw [inb_nI (by omega) (by omega)]; omega, ?_⟩
      by_cases d : Hw (qH Q) p = true
      · rw [if_pos (by rw [d]; rfl)]
        refine m_wrong q ok (by omega) (fun t zt ft => ⟨zt.1, ?_⟩)
        rw [if_neg (mFt_le zt)]
        exact h0 _ t (if_neg (by show ¬ (!Hw (qH Q) p) = true; rw [d]; decide)) zt ft
      · rw [if_neg (by rw [bI_1]; exact d), if_pos (mRd_le q)]
        exact h1 p (if_pos (by show (!Hw (qH Q) p) = true; rw [Bool.not_eq_true] at d; rw [d]; rfl))
theorem m_person_f {e : Nat} {K : Int32 → JH → Prop} (q : mFt e s) (h : K (nI 0) s) : WM q_Md_personHere [.ref 204] s (kI K) := by
  refine w_Md_personHere q.1 ?_
  simp only [JJ1]
  rw [if_neg (mFt_0 q), if_neg (mFt_le q), if_neg (mFt_0 q), if_neg (mFt_le q)]
  exact h
theorem m_number {lo hi : Nat} {K : Int32 → JH → Prop} (q : mRd ts n k s) (ok : okTp ts) (hlo : lo < 10000) (hhi : hi < 10000) (h1 : ∀ v t, nmb ts lo hi k = .inr v → mRd ts n (k + 1) t → Fg P78 s t → K (nI v) t) (h0 : ∀ e t, nmb ts lo hi k = .inl e → mFt e t → Fg P78 s t → K (nI 0) t) : WM q_Md_takeNumber [.ref 204, .int (nI lo), .int (nI hi)] s (kI K) := by
  obtain ⟨hin, hcl, ⟨a1, a2, a3, a4, a5⟩, hk⟩ := mRd_in q
  have okk := (tok_ok ok k).1
  have h4 := okk.2.2.2.2.2.2
  refine w_Md_takeNumber _ _ q.1 ?_
  simp only [JJ1, lt]
  rw [if_pos (mRd_0 q), hcl, a1]
  refine ⟨hin, ?_⟩
  unfold nmb at h1 h0
  by_cases c : Tk (tok ts k) = 2
  · have hv := okk.2.2.2.2.1 c
    rw [if_pos c] at h1 h0
    rw [if_pos (by rw [c]), if_pos (mRd_0 q), a4 c, nI_l (by omega), nI_l (by omega)]
    refine ⟨hin, ?_⟩
    by_cases d : Tv (tok ts k) < lo
    · rw [if_pos (by rw [lg_cmp_lt, lN_lt (by omega) (by omega)]; exact d)]
      refine m_wrong q ok (by omega) (fun t zt ft => ⟨zt.1, ?_⟩)
      rw [if_neg (mFt_le zt)]
      exact h0 _ t (if_neg (by omega)) zt ft
    · rw [if_neg (by rw [lg_cmp_lt, lN_lt (by omega) (by omega)]; exact d)]
      refine ⟨hin, ?_⟩
      by_cases g : Tv (tok ts k) ≤ hi
      · rw [if_pos (by rw [lg_cmp_le, lN_le (by omega) (by omega)]; exact g), if_pos (mRd_le q)]
        obtain ⟨qo, fo⟩ := m_nxt q (by omega)
        have e7 : (jh_setI s 204 7 (s.2.1 204 7 + nI 1)).2.1 204 7 - nI 1 = nI k := by rw [qo.2.2.1, nI_subN (by omega)]; rfl
        rw [e7, cl_nI (by omega)]
        refine ⟨by rw [inb_nI (by omega) (by omega)]; omega, ?_⟩
        rw [show (jh_setI s 204 7 (s.2.1 204 7 + nI 1)).2.2.1 208 k = lN (Tv (tok ts k)) from a4 c, lN_i]
        exact h1 _ _ (if_pos (by omega)) qo fo
      · rw [if_neg (by rw [lg_cmp_le, lN_le (by omega) (by omega)]; exact g)]
        refine m_wrong q ok (by omega) (fun t zt ft => ⟨zt.1, ?_⟩)
        rw [if_neg (mFt_le zt)]
        exact h0 _ t (if_neg (by omega)) zt ft
  · rw [if_neg c] at h1 h0
    rw [if_neg (by rw [nI_eqN (by omega) (by omega)]; exact c)]
    refine m_wrong q ok (by omega) (fun t zt ft => ⟨zt.1, ?_⟩)
    rw [if_neg (mFt_le zt)]
    exact h0 _ t rfl zt ft
theorem m_number_f {e : Nat} {x y : Int32} {K : Int32 → JH → Prop} (q : mFt e s) (h : K (nI 0) s) : WM q_Md_takeNumber [.ref 204, .int x, .int y] s (kI K) := by
  refine w_Md_takeNumber _ _ q.1 ?_
  simp only [JJ1, lt]
  rw [if_neg (mFt_0 q), if_neg (mFt_0 q), if_neg (mFt_le q)]
  exact h
theorem m_takeWord {j : Nat} {K : JH → Prop} (q : mRd ts n k s) (ok : okTp ts) (hj : j < 21) (h1 : isW j (tok ts k) = true → ∀ t, mRd ts n (k + 1) t → Fg P78 s t → K t) (h0 : isW j (tok ts k) = false → ∀ t, mFt (flt 1 (tok ts k)) t → Fg P78 s t → K t) : WM q_Md_takeWord [.ref 204, .int (nI j)] s (kV fun s => Ly s ∧ K s) := by
  refine w_Md_takeWord _ q.1 ?_
  refine m_hasWord q ok hj (fun c t qt ft => ?_) (fun c t qt ft => ?_)
  · rw [if_neg (by decide)]; exact ⟨qt.1, h1 c t qt ft⟩
  · rw [if_pos (by decide)]
    exact m_wrong qt ok (by omega) (fun v zv fv => ⟨zv.1, zv.1, h0 c v zv (Fg_t ft fv)⟩)
theorem m_takeOne {K : Int32 → JH → Prop} (q : mRd ts n k s) (ok : okTp ts) (h1 : ∀ c t, kdo (tok ts k) = some c → mRd ts n (k + 1) t → Fg P78 s t → K (nI c) t) (h0 : ∀ t, kdo (tok ts k) = none → mFt (flt 1 (tok ts k)) t → Fg P78 s t → K (nI 0) t) : WM q_Md_takeOne [.ref 204, .int (nI 11), .int (nI 4)] s (kI K) := by
  refine w_Md_takeOne _ _ q.1 ?_
  simp only [JJ1, lt]
  rw [if_pos (mRd_le q)]
  refine WE_i (m_wordHere q ok (by omega)) ?_
  rw [if_pos (mRd_0 q)]
  unfold kdo at h1 h0
  by_cases c : Tk (tok ts k) = 1 ∧ 11 ≤ wix (Tl (tok ts k)) ∧ wix (Tl (tok ts k)) < 15
  · rw [if_pos c] at h1
    rw [if_pos (by rw [whr_neg (by omega)]; omega), if_pos (mRd_le q)]
    obtain ⟨qo, fo⟩ := m_nxt q (by omega)
    rw [if_pos (mRd_le qo), show whr 11 4 (tok ts k) = nI (wix (Tl (tok ts k)) - 11) from if_pos (by omega)]
    exact h1 _ _ rfl qo fo
  · rw [if_neg c] at h0
    rw [if_neg (by rw [whr_neg (by omega)]; omega)]
    refine m_wrong q ok (by omega) (fun t zt ft => ⟨zt.1, ?_⟩)
    rw [if_neg (mFt_le zt)]
    have g : Fi P78 t (jh_setI t 204 7 (t.2.1 204 7 + nI 0)) := Fi_s (Fi_r _ _) (by unfold P78; omega)
    have zg : mFt (flt 1 (tok ts k)) (jh_setI t 204 7 (t.2.1 204 7 + nI 0)) := ⟨Fi_ly g zt.1, (rI_ne (by omega)).trans zt.2.1, zt.2.2⟩
    rw [if_neg (mFt_le zg)]
    exact h0 _ rfl zg (Fg_t ft (Fi_g g))
end MC

section EM
variable {Z : Ste} {s t σ : JH} {ts : List Nat} {n k : Nat} {Q : Qs} {H : Hou}
theorem m_stands {base : Nat} (hb : base ≤ 180) (hl : Ly σ) : WM q_Md_standsAsAlways [.ref 204, .int (nI base)] σ (kV fun s => Ly s ∧ Fi (fun b j => b = 210 ∧ base ≤ j ∧ j < base + 180) σ s ∧ ∀ j, j < 180 → s.2.1 210 (base + j) = if j = 4 then nI 9 else if j = 5 then mI 1 else nI 0) := by
  refine w_Md_standsAsAlways _ hl ?_
  refine Lp2_inv (I := fun m v s => ∃ i, i ≤ 180 ∧ m = 180 - i ∧ v = nI i ∧ Ly s ∧ Fi (fun b j => b = 210 ∧ base ≤ j ∧ j < base + 180) σ s ∧ ∀ j, j < i → s.2.1 210 (base + j) = nI 0) ?_ (m := 180) ⟨0, by omega, rfl, rfl, hl, Fi_r _ _, fun j hj => absurd hj (Nat.not_lt_zero _)⟩
  rintro m v s ⟨i, hi, rfl, rfl, l, f, hr⟩ X hX
  refine ⟨l, ?_⟩
  by_cases c : 180 ≤ i
  · rw [if_pos (by rw [nI_leN (by omega) (by omega)]; exact c), nI_add, nI_add, cl_nI (by omega), cl_nI (by omega)]
    simp only [lt]
    refine ⟨by rw [inb_nI (by omega) (by omega)]; omega, by rw [inb_nI (by omega) (by omega)]; omega, ?_⟩
    have f2 : Fi (fun b j => b = 210 ∧ base ≤ j ∧ j < base + 180) σ (jh_setI (jh_setI s 210 (base + 4) (nI 9)) 210 (base + 5) (mI 1)) := Fi_s (Fi_s f (by omega)) (by omega)
    refine ⟨Fi_ly f2 hl, f2, fun j hj => ?_⟩
    by_cases c5 : j = 5
    · rw [if_neg (by omega), if_pos c5, c5, rI_eq]
    · rw [rI_ne (by omega)]
      by_cases c4 : j = 4
      · rw [if_pos c4, c4, rI_eq]
      · rw [if_neg c4, if_neg c5, rI_ne (by omega)]; exact hr j (by omega)
  · rw [if_neg (by rw [nI_leN (by omega) (by omega)]; exact c), nI_add, nI_add, cl_nI (by omega)]
    simp only [lt]
    refine ⟨by rw [inb_nI (by omega) (by omega)]; omega, ?_⟩
    have f2 : Fi (fun b j => b = 210 ∧ base ≤ j ∧ j < base + 180) σ (jh_setI s 210 (base + i) (nI 0)) := Fi_s f (by omega)
    refine hX (180 - (i + 1)) _ _ (by omega) ⟨i + 1, by omega, rfl, rfl, Fi_ly f2 hl, f2, fun j hj => ?_⟩
    by_cases d : j = i
    · rw [d, rI_eq]
    · rw [rI_ne (by omega)]; exact hr j (by omega)
def PBe (b j : Nat) : Prop := (b = 218 ∧ j ≤ 91) ∨ (b = 215 ∧ j = 0) ∨ (b = 204 ∧ j = 24) ∨ b = 219
theorem m_begins (hl : Ly σ) (hW : WH H) (hH : mH H σ) : WM q_Md_begins [.ref 204] σ (kV fun s => Ly s ∧ Fi PBe σ s ∧ mM H (S0 H) 0 s ∧ s.2.1 218 1 = nI 0 ∧ s.2.1 218 91 = nI 0 ∧ s.2.1 215 0 = nI 0 ∧ s.2.1 204 24 = nI 0 ∧ ∀ i, i < 4 → s.2.1 219 i = bI false) := by
  refine w_Md_begins hl ?_
  refine WM_V (m_starts hl hW hH (by omega)) (fun s1 v => ?_)
  obtain ⟨l1, f1, M1, e1⟩ := v
  refine ⟨l1, ?_⟩
  simp only [lt]
  have f4 : Fi (fun b j => (b = 218 ∧ j = 91) ∨ (b = 215 ∧ j = 0) ∨ (b = 204 ∧ j = 24)) s1 (jh_setI (jh_setI (jh_setI s1 218 91 (nI 0)) 215 0 (nI 0)) 204 24 (nI 0)) := Fi_s (Fi_s (Fi_s (Fi_r _ _) (by omega)) (by omega)) (by omega)
  have g1 : (jh_setI (jh_setI (jh_setI s1 218 91 (nI 0)) 215 0 (nI 0)) 204 24 (nI 0)).2.1 218 91 = nI 0 := (rI_ne (by omega)).trans ((rI_ne (by omega)).trans rI_eq)
  have g2 : (jh_setI (jh_setI (jh_setI s1 218 91 (nI 0)) 215 0 (nI 0)) 204 24 (nI 0)).2.1 215 0 = nI 0 := (rI_ne (by omega)).trans rI_eq
  have g3 : (jh_setI (jh_setI (jh_setI s1 218 91 (nI 0)) 215 0 (nI 0)) 204 24 (nI 0)).2.1 204 24 = nI 0 := rI_eq
  generalize jh_setI (jh_setI (jh_setI s1 218 91 (nI 0)) 215 0 (nI 0)) 204 24 (nI 0) = s4 at f4 g1 g2 g3
  have nar : vp_nar (jt_at 103) (nI 0) = nI 0 := by decide
  rw [nar]
  refine Lp2_inv (I := fun m v s => ∃ i, i ≤ 4 ∧ m = 4 - i ∧ v = nI i ∧ Ly s ∧ Fi (fun b _ => b = 219) s4 s ∧ ∀ j, j < i → s.2.1 219 j = nI 0) ?_ (m := 4) ⟨0, by omega, rfl, rfl, Fi_ly f4 l1, Fi_r _ _, fun j hj => absurd hj (Nat.not_lt_zero _)⟩
  rintro m v s ⟨i, hi, rfl, rfl, l, f, hr⟩ X hX
  refine ⟨l, ?_⟩
  by_cases c : 4 ≤ i
  · rw [if_pos (by rw [nI_leN (by omega) (by omega)]; exact c)]
    refine ⟨l, Fi_t (Fi_m f1 (fun b j h => by unfold PC at h; unfold PBe; omega)) (Fi_t (Fi_m f4 (fun b j h => by unfold PBe; omega)) (Fi_m f (fun b j h => by unfold PBe; omega))), mM_f hW.1 (Fi_t (Fi_m f4 (fun b j h => (by omega : (b = 218 ∧ j = 91) ∨ (b = 215 ∧ j = 0) ∨ (b = 204 ∧ j = 24) ∨ b = 219))) (Fi_m f (fun b j h => by omega))) (fun j h1 h2 _ => by omega) M1, (f.2.2 _ _ (by omega)).trans ((f4.2.2 _ _ (by omega)).trans e1), (f.2.2 _ _ (by omega)).trans g1, (f.2.2 _ _ (by omega)).trans g2, (f.2.2 _ _ (by omega)).trans g3, fun j hj => hr j (by omega)⟩
  · rw [if_neg (by rw [nI_leN (by omega) (by omega)]; exact c), cl_nI (by omega), nI_add]
    refine ⟨by rw [inb_nI (by omega) (by omega)]; omega, ?_⟩
    have f2 : Fi (fun b _ => b = 219) s4 (jh_setI s 219 i (nI 0)) := Fi_s f rfl
    refine hX (4 - (i + 1)) _ _ (by omega) ⟨i + 1, by omega, rfl, rfl, Fi_ly f2 (Fi_ly f4 l1), f2, fun j hj => ?_⟩
    by_cases d : j = i
    · rw [d, rI_eq]
    · rw [rI_ne (by omega)]; exact hr j (by omega)
def lwc (Q : Qs) : Lws := match qL Q with
  | none => []
  | some M => M ++ [(0, nI 0)]
theorem lwc_len (hQ : WQ Q) : (lwc Q).length ≤ 1001 := by
  unfold lwc
  cases e : qL Q with
  | none => exact Nat.zero_le _
  | some M =>
    have := (hQ.2.2.2.2.2.2.2.2.2 M e).1
    show (M ++ [(0, nI 0)]).length ≤ 1001
    rw [List.length_append]
    show M.length + 1 ≤ 1001
    omega
theorem mHr_lw (z : mHr Q s) : mLw (lwc Q) s ∧ s.2.1 210 185 = if (qL Q).isSome = true then nI 0 else mI 1 := by
  obtain ⟨⟨a1, a2, a3, a4, a5, a6, a7, a8⟩, b1, b2, b3, b4, b5, b6, b7, b8, b9, b10⟩ := z
  unfold lwc
  cases e : qL Q with
  | none => exact ⟨(b9 e).2, (b9 e).1⟩
  | some M => exact ⟨(b10 M e).2, (b10 M e).1⟩
/-- what was read is copied -/
def mCp (Q : Qs) (s : JH) : Prop := mHL (qH Q) (qL Q) s ∧ (s.2.1 210 2 = nI (nws Q) ∧ s.2.1 210 3 = nI (prs (Hx (qH Q)) (Hn (qH Q)))) ∧ s.2.1 204 16 = nI (Hn (qH Q)) ∧ ∀ k, k < Hn (qH Q) → s.2.2.1 213 k = lN (wrd 37 (qN Q k))
theorem mCp_i {u : JH} (hQ : WQ Q) (z : mHr Q s) (h1 : ∀ j, j < 180 → u.2.1 210 j = s.2.1 210 (180 + j)) (h2 : ∀ j, j < (lwc Q).length → u.2.1 211 j = s.2.1 211 (1100 + j) ∧ u.2.1 212 j = s.2.1 212 (1100 + j)) (h3 : ∀ j, j < Hn (qH Q) → u.2.2.1 213 j = s.2.2.1 214 j) (h4 : u.2.1 204 16 = nI (Hn (qH Q))) : mCp Q u := by
  have n8 := WQ_8 hQ
  obtain ⟨lw1, lw2⟩ := mHr_lw z
  obtain ⟨⟨a1, a2, a3, a4, a5, a6, a7, a8⟩, b1, b2, b3, b4, b5, b6, b7, b8, b9, b10⟩ := z
  refine ⟨⟨⟨(h1 _ (by omega)).trans a1, (h1 _ (by omega)).trans a5, fun k hk => ?_, fun k hk => ?_, fun k hk => ?_, fun k hk => ?_, fun k hk e he => ?_, fun k hk e he => ?_⟩, ?_⟩, ⟨(h1 _ (by omega)).trans a3, (h1 _ (by omega)).trans a4⟩, h4, fun k hk => (h3 k hk).trans (b8 k hk)⟩
  · rw [h1 _ (by omega), show 180 + (8 + 4 * k) = 188 + 4 * k by omega]; exact b1 k hk
  · rw [h1 _ (by omega), show 180 + (8 + 4 * k + 1) = 188 + 4 * k + 1 by omega]; exact b2 k hk
  · rw [h1 _ (by omega), show 180 + (8 + 4 * k + 2) = 188 + 4 * k + 2 by omega]; exact b3 k hk
  · rw [h1 _ (by omega), show 180 + (8 + 4 * k + 3) = 188 + 4 * k + 3 by omega]; exact b4 k hk
  · rw [h1 _ (by omega), show 180 + (40 + 8 * k + e) = 220 + 8 * k + e by omega]; exact b6 k (by omega) e (by omega)
  · rw [h1 _ (by omega), show 180 + (104 + 8 * k + e) = 284 + 8 * k + e by omega]; exact b7 k (by omega) e (by omega)
  · have h5 : u.2.1 210 5 = s.2.1 210 185 := h1 5 (by omega)
    cases e : qL Q with
    | none =>
      rw [e] at lw2
      exact Or.inl ⟨rfl, h5.trans lw2⟩
    | some M =>
      rw [e] at lw2
      have el : lwc Q = M ++ [(0, nI 0)] := by unfold lwc; rw [e]
      rw [el] at lw1 h2
      obtain ⟨m1, m2⟩ := hQ.2.2.2.2.2.2.2.2.2 M e
      have hlen : (M ++ [(0, nI 0)]).length = M.length + 1 := by rw [List.length_append]; rfl
      refine Or.inr ⟨M, rfl, h5.trans lw2, m1, m2, fun i q hq => ?_, ?_⟩
      · have hi := (List.getElem?_eq_some_iff.mp hq).1
        have hq' : (M ++ [(0, nI 0)])[i]? = some q := by rw [List.getElem?_append_left hi]; exact hq
        have := lw1.2 i q hq'
        rw [(h2 i (by omega)).1, (h2 i (by omega)).2]
        exact this
      · have hq' : (M ++ [(0, nI 0)])[M.length]? = some (0, nI 0) := by rw [List.getElem?_append_right (Nat.le_refl _), Nat.sub_self]; rfl
        rw [(h2 M.length (by omega)).1]
        exact (lw1.2 _ _ hq').1
end EM

section EV4
variable {s t σ : JH} {ts : List Nat} {n k : Nat} {H : Hou} {nm : Nat → List Nat} {ps : List Lin} {T : Tok} {Z : Ste}
def MRe (ts : List Nat) (n k m i0 : Nat) (R : Nat ⊕ List Nat) (t : JH) : Prop := match R with
  | .inl e => mFt e t
  | .inr xs => mRd ts n (k + m) t ∧ ∀ i x, xs[i]? = some x → t.2.1 215 (i0 + i) = nI x
theorem m_readEvening {m i0 : Nat} {R : Nat ⊕ List Nat} (hm : m = 1 ∨ m = 2 ∨ m = 3) (hi : i0 + 3 ≤ 250) (h125 : 125 ≤ i0) (q : mRd ts n k s) (ok : okTp ts) (n8 : Hn H ≤ 8) (hnm : ∀ k, k < Hn H → okN (nm k) ∧ ∀ e, e < k → nm e ≠ nm k) (z : mEh H nm s) (hR : bdR ts nm H m m k [] = R) : WM q_Md_readEvening [.ref 204, .int (nI (wht m)), .int (nI i0)] s (kV fun t => Ly t ∧ Fg (PEv i0) s t ∧ MRe ts n k m i0 R t) := by
  have hn := q.2.1.1.2.1
  refine w_Md_readEvening _ _ q.1 ?_
  refine Lp4_inv (I := fun r v1 _ _ u => Ly u ∧ Fg (PEv i0) s u ∧ ((∃ j e, j ≤ m ∧ r = m - j ∧ v1 = nI j ∧ R = .inl e ∧ mFt e u) ∨ (∃ xs : List Nat, xs.length ≤ m ∧ r = m - xs.length ∧ v1 = nI xs.length ∧ mRd ts n (k + xs.length) u ∧ (∀ x ∈ xs, x < 8) ∧ (∀ i x, xs[i]? = some x → u.2.1 215 (i0 + i) = nI x) ∧ bdR ts nm H m (m - xs.length) (k + xs.length) xs = R))) ?_ (m := m) ⟨q.1, Fg_r _ _, Or.inr ⟨[], Nat.zero_le _, rfl, rfl, q, fun x h => (by cases h), fun i x e => (by cases e), hR⟩⟩
  rintro r v1 o2 o3 u ⟨lu, F, v⟩ X hX
  refine ⟨lu, ?_⟩
  refine ev_body (s := u) (i0 := i0) (v1 := v1) (K := fun t => Ly t ∧ Fg (PEv i0) s t ∧ MRe ts n k m i0 R t) (X := X) hm ?_
  have P78e : ∀ {a b : JH}, Fg P78 a b → Fg (PEv i0) a b := fun f => Fg_m f (fun b j h => Or.inl h)
  rcases v with ⟨j, e, hj, rfl, rfl, he, zf⟩ | ⟨xs, hx, rfl, rfl, qs, hx8, hc, hr⟩
  · by_cases c : m ≤ j
    · rw [if_pos (by rw [nI_leN (by omega) (by omega)]; exact c)]
      exact ⟨lu, F, by rw [he]; exact zf⟩
    · rw [if_neg (by rw [nI_leN (by omega) (by omega)]; exact c)]
      refine m_body_f zf ⟨lu, m_evb_f hi (by omega) zf (fun o2 o3 => hX (m - (j + 1)) _ _ _ _ (by omega) ⟨lu, F, Or.inl ⟨j + 1, e, by omega, rfl, rfl, he, zf⟩⟩)⟩
  · by_cases c : m ≤ xs.length
    · rw [if_pos (by rw [nI_leN (by omega) (by omega)]; exact c)]
      rw [show m - xs.length = 0 by omega] at hr
      have hr : R = .inr xs := hr.symm
      refine ⟨lu, F, ?_⟩
      rw [hr]
      refine ⟨?_, hc⟩
      rw [show k + m = k + xs.length by omega]
      exact qs
    · rw [if_neg (by rw [nI_leN (by omega) (by omega)]; exact c)]
      obtain ⟨g, hg⟩ : ∃ g, m - xs.length = g + 1 := ⟨m - xs.length - 1, by omega⟩
      rw [hg] at hr
      unfold bdR at hr
      have E := mEh_g n8 F (fun b j h => by unfold PEv P78; omega) z
      refine m_body (m := m) qs ok n8 hnm E rfl (fun p hp => ⟨lu, ?_⟩) (fun e t he zt ft => ⟨zt.1, ?_⟩)
      · have pb := (tld_ok (nm := nm) (m := Hn H) (F := evF H m) (k := k + xs.length) ok).2 p hp
        rw [hp] at hr
        have hr : (if p ∈ xs then Sum.inl (flt 3 (tok ts (k + xs.length))) else bdR ts nm H m g (k + xs.length + 1) (xs ++ [p])) = R := hr
        have ln : (xs ++ [p]).length = xs.length + 1 := by rw [List.length_append]; rfl
        refine m_evb hi h125 (by omega) hx8 (by omega) qs (nam_k pb.1) ok hc (fun hno o2 o3 t qt ft ht => ?_) (fun hyes o2 o3 t zt ft => ?_)
        · rw [if_neg hno] at hr
          refine hX (m - (xs.length + 1)) _ _ _ _ (by omega) ⟨qt.1, Fg_t F ft, Or.inr ⟨xs ++ [p], by omega, by rw [ln], by rw [ln], ?_, fun x h => ?_, ht, ?_⟩⟩
          · rw [ln, show k + (xs.length + 1) = k + xs.length + 1 by omega]; exact qt
          · rcases List.mem_append.mp h with h | h
            · exact hx8 x h
            · rw [List.mem_singleton.mp h]; omega
          · rw [ln, show m - (xs.length + 1) = g by omega, show k + (xs.length + 1) = k + xs.length + 1 by omega]; exact hr
        · rw [if_pos hyes] at hr
          exact hX (m - (xs.length + 1)) _ _ _ _ (by omega) ⟨zt.1, Fg_t F (P78e ft), Or.inl ⟨xs.length + 1, _, by omega, rfl, rfl, hr.symm, zt⟩⟩
      · rw [he] at hr
        exact m_evb_f hi (by omega) zt (fun o2 o3 => hX (m - (xs.length + 1)) _ _ _ _ (by omega) ⟨zt.1, Fg_t F (P78e ft), Or.inl ⟨xs.length + 1, e, by omega, rfl, rfl, hr.symm, zt⟩⟩)
theorem whr_wts : (0 ≤ whr 8 3 T) = (wts T ≠ 0) ∧ (wts T ≠ 0 → whr 8 3 T = nI (wht (wts T))) := by
  have h8 := isW_is (T := T) 8
  have h9 := isW_is (T := T) 9
  have h10 := isW_is (T := T) 10
  rw [whr_neg (by omega)]
  unfold wts
  by_cases c8 : isW 8 T = true
  · rw [if_pos c8]
    rw [h8] at c8
    refine ⟨by rw [eq_iff_iff]; constructor <;> intro h <;> omega, fun _ => ?_⟩
    unfold whr
    rw [if_pos (by omega), c8.2]; rfl
  · rw [if_neg c8]
    rw [h8] at c8
    by_cases c9 : isW 9 T = true
    · rw [if_pos c9]
      rw [h9] at c9
      refine ⟨by rw [eq_iff_iff]; constructor <;> intro h <;> omega, fun _ => ?_⟩
      unfold whr
      rw [if_pos (by omega), c9.2]; rfl
    · rw [if_neg c9]
      rw [h9] at c9
      by_cases c10 : isW 10 T = true
      · rw [if_pos c10]
        rw [h10] at c10
        refine ⟨by rw [eq_iff_iff]; constructor <;> intro h <;> omega, fun _ => ?_⟩
        unfold whr
        rw [if_pos (by omega), c10.2]; rfl
      · rw [if_neg c10]
        rw [h10] at c10
        refine ⟨by rw [eq_iff_iff]; constructor <;> intro h <;> omega, fun h => absurd rfl h⟩
/-- lines that are read but not yet copied -/
def mPr (ps : List Lin) (s : JH) : Prop := ∀ i q, ps[i]? = some q → s.2.1 215 (125 + 4 * i) = nI (wht q.1) ∧ s.2.1 215 (126 + 4 * i) = nI q.2.1 ∧ (2 ≤ q.1 → s.2.1 215 (127 + 4 * i) = nI q.2.2.1) ∧ (3 ≤ q.1 → s.2.1 215 (128 + 4 * i) = nI q.2.2.2)
def PEs (b j : Nat) : Prop := P78 b j ∨ (b = 215 ∧ 125 ≤ j)
theorem PEs_x {b j : Nat} (h : PEs b j) : PmX b j := by unfold PEs P78 at h; unfold PmX PmT; omega
set_option maxHeartbeats 2000000 in
theorem m_evening (hZ : WZ Z) (z : Rm Z σ) : WM q_Md_evening [.ref 204] σ (kI fun y s => (match evTo (tT Z) (tN Z) (tH Z) 1000 0 [] with
    | .inl e => y = nI e ∧ Rm (zT Z []) s
    | .inr ps => y = nI 0 ∧ Rm (zE Z ps) s) ∧ Fg (fun b _ => 204 ≤ b ∧ b < 229) σ s) := by
  have ok := WZ_tp hZ
  have n8 : Hn (tH Z) ≤ 8 := hZ.1.1
  refine w_Md_evening z.1 ?_
  have f1 : Fi (fun b j => b = 204 ∧ j = 0) σ (jh_setI σ 204 0 (nI 0)) := Fi_s (Fi_r _ _) ⟨rfl, rfl⟩
  show lt (jh_setI σ 204 0 (nI 0)) _
  have z1 := (Rm_thr (x := nI 0) hZ z).1
  generalize jh_setI σ 204 0 (nI 0) = s1 at f1 z1
  show WM q_Md_cutAll [.ref 204] s1 _
  refine WM_V (m_cutAll z1.1 z1.2.2.2.2.2.2.2.2 ok) (fun s2 v => ?_)
  obtain ⟨l2, f2, ⟨n, T2⟩, e7, e8, e2⟩ := v
  refine ⟨l2, ?_⟩
  have F2 : Fg PmX σ s2 := Fg_t (Fg_m (Fi_g f1) (fun b j h => by unfold PmX PmT; omega)) (Fg_m f2 (fun b j => PCu_x))
  have hn := T2.2.1
  have hn1 := T2.1
  have w2 : mWd s2 := fun j w e => (f2.2.2.1 _ _ (by unfold PCu; omega)).trans (z1.2.2.1.2.2 j w e)
  have q2 : mRd (tT Z) n 0 s2 := ⟨l2, ⟨T2, w2⟩, e7, e8, Nat.zero_le _⟩
  have E2 : mEh (tH Z) (tN Z) s2 := mEh_g n8 f2 (fun b j h => by unfold PCu; omega) ⟨z1.2.1.1, z1.2.2.2.1.1, z1.2.2.2.1.2⟩
  have hnm := hZ.2.2.2.2.1
  have hok := evTo_ok (H := tH Z) (nm := tN Z) ok hn 1000 0 [] (Nat.zero_le _) (Nat.zero_le _) (fun l h => by cases h)
  show JJ3 _ _
  have J3 : ∀ {α β γ : Type} {B : α → β → γ → Prop} {A : (α → β → γ → Prop) → Prop} (C : α → β → γ → Prop), (∀ a b c, C a b c → B a b c) → ((∀ a b c, C a b c → B a b c) → A B) → JJ3 B A := fun C h1 h2 => h2 h1
  refine J3 (fun v3 _ s5 => Ly s5 ∧ Fg PmX σ s5 ∧ s5.2.1 204 2 = nI 0 ∧ ((∃ e, evTo (tT Z) (tN Z) (tH Z) 1000 0 [] = .inl e ∧ mFt e s5) ∨ (∃ ps, evTo (tT Z) (tN Z) (tH Z) 1000 0 [] = .inr ps ∧ v3 = nI ps.length ∧ ps.length ≤ 30 ∧ mPr ps s5 ∧ s5.2.1 204 8 = nI 0))) ?_ (fun fin => ?_)
  · rintro v3 o4 s5 ⟨l5, F5, t5, ⟨e, he, zf⟩ | ⟨ps, he, rfl, h30, m5, g8⟩⟩
    · rw [if_neg (mFt_le zf)]
      refine ⟨?_, Fg_m F5 (fun b j => PmX_b)⟩
      rw [he]
      exact ⟨zf.2.1, Rm_x hZ z F5 l5 (fun b j _ _ h => h) ⟨t5, fun i c e => by cases e⟩⟩
    · rw [if_pos (by rw [g8]; decide)]
      show Lp2 _ (nI 0) (jh_setI s5 215 0 (nI ps.length))
      have f6 : Fi (fun b j => b = 215 ∧ j = 0) s5 (jh_setI s5 215 0 (nI ps.length)) := Fi_s (Fi_r _ _) ⟨rfl, rfl⟩
      have e6 : (jh_setI s5 215 0 (nI ps.length)).2.1 215 0 = nI ps.length := rI_eq
      generalize jh_setI s5 215 0 (nI ps.length) = s6 at f6 e6
      rw [he]
      refine Lp2_inv (I := fun m v s => ∃ i, i ≤ 4 * ps.length ∧ m = 4 * ps.length - i ∧ v = nI i ∧ Fi (fun b j => b = 215 ∧ j ≤ 120) s5 s ∧ s.2.1 215 0 = nI ps.length ∧ ∀ j, j < i → s.2.1 215 (1 + j) = s5.2.1 215 (125 + j)) ?_ (m := 4 * ps.length) ⟨0, by omega, rfl, rfl, Fi_m f6 (fun b j h => by omega), e6, fun j hj => absurd hj (Nat.not_lt_zero _)⟩
      rintro m v s ⟨i, hi, rfl, rfl, f, e0, hr⟩ X hX
      refine ⟨Fi_ly f l5, ?_⟩
      rw [nI_mulN]
      by_cases c : 4 * ps.length ≤ i
      · rw [if_pos (by rw [nI_leN (by omega) (by omega)]; exact c)]
        have lu := Fi_ly f l5
        refine ⟨⟨rfl, ?_⟩, Fg_t (Fg_m F5 (fun b j => PmX_b)) (Fg_m (Fi_g f) (fun b j h => by omega))⟩
        have Z5 : Rm (zT Z []) s5 := Rm_x hZ z F5 l5 (fun b j _ _ h => h) ⟨t5, fun i c e => by cases e⟩
        obtain ⟨c0, c1, c2, c3, c4, c5, c6, c7, c8⟩ := Z5
        have w8 : (tU Z).length ≤ 16 := hZ.2.2.2.2.2.2.2.1
        have g := Fi_g f
        refine ⟨lu, ⟨mH_x n8 g (fun j hj => by omega) c1.1, mL_x g (fun b j h1 h2 h3 h4 => by omega) c1.2⟩, ⟨(f.2.2 _ _ (by omega)).trans c2.1, (f.2.2 _ _ (by omega)).trans c2.2.1, fun j w e => by rw [f.2.1]; exact c2.2.2 j w e⟩, ⟨(f.2.2 _ _ (by omega)).trans c3.1, fun k hk => by rw [f.2.1]; exact c3.2 k hk⟩, mFu_g n8 g (fun j _ _ => by omega) c4, mPa_g n8 w8 g (by omega) (fun j _ _ => by omega) c5, mMk_g n8 g (fun j => by omega) (fun j _ _ => by omega) c6, ⟨e0, fun a p e => ?_⟩, ⟨(f.2.2 _ _ (by omega)).trans c8.1, fun i c e => by cases e⟩⟩
        have ha := (List.getElem?_eq_some_iff.mp e).1
        have ha : a < ps.length := ha
        obtain ⟨w1, w2, w3, w4⟩ := m5 a p e
        refine ⟨?_, ?_, fun g => ?_, fun g => ?_⟩
        · rw [hr (4 * a) (by omega)]; exact w1
        · rw [show 1 + 4 * a + 1 = 1 + (4 * a + 1) by omega, hr (4 * a + 1) (by omega), show 125 + (4 * a + 1) = 126 + 4 * a by omega]; exact w2
        · rw [show 1 + 4 * a + 2 = 1 + (4 * a + 2) by omega, hr (4 * a + 2) (by omega), show 125 + (4 * a + 2) = 127 + 4 * a by omega]; exact w3 g
        · rw [show 1 + 4 * a + 3 = 1 + (4 * a + 3) by omega, hr (4 * a + 3) (by omega), show 125 + (4 * a + 3) = 128 + 4 * a by omega]; exact w4 g
      · rw [if_neg (by rw [nI_leN (by omega) (by omega)]; exact c), nI_add, nI_add, nI_add, cl_nI (by omega), cl_nI (by omega)]
        simp only [lt]
        refine ⟨by rw [inb_nI (by omega) (by omega)]; omega, by rw [inb_nI (by omega) (by omega)]; omega, ?_⟩
        have f3 : Fi (fun b j => b = 215 ∧ j ≤ 120) s5 (jh_setI s 215 (1 + i) (s.2.1 215 (125 + i))) := Fi_s f (by omega)
        refine hX (4 * ps.length - (i + 1)) _ _ (by omega) ⟨i + 1, by omega, rfl, rfl, f3, (rI_ne (by omega)).trans e0, fun j hj => ?_⟩
        by_cases d : j = i
        · rw [d, rI_eq]; exact f.2.2 _ _ (by omega)
        · rw [rI_ne (by omega)]; exact hr j (by omega)
  · refine Lp3_inv (I := fun m v12 _ s => Ly s ∧ Fg PmX σ s ∧ s.2.1 204 2 = nI 0 ∧ ((∃ e, evTo (tT Z) (tN Z) (tH Z) 1000 0 [] = .inl e ∧ mFt e s) ∨ (∃ g k ps, m = g + 1 ∧ v12 = nI ps.length ∧ mRd (tT Z) n k s ∧ mEh (tH Z) (tN Z) s ∧ ps.length ≤ 30 ∧ (∀ l ∈ ps, okP (tH Z) l) ∧ mPr ps s ∧ n ≤ k + g ∧ evTo (tT Z) (tN Z) (tH Z) g k ps = evTo (tT Z) (tN Z) (tH Z) 1000 0 []))) ?_ (m := 1001) ⟨l2, F2, e2, Or.inr ⟨1000, 0, [], rfl, rfl, q2, E2, Nat.zero_le _, fun l h => (by cases h), fun i q e => (by cases e), by omega, rfl⟩⟩
    rintro m v12 o13 s ⟨l, F, t2, ⟨e, he, zf⟩ | ⟨g, k, ps, rfl, rfl, qs, Es, h30, hop, mp, hg, hr⟩⟩ X hX
    · refine ⟨l, ?_⟩
      rw [if_neg (mFt_0 zf)]
      exact fin _ o13 s ⟨l, F, t2, Or.inl ⟨e, he, zf⟩⟩
    · refine ⟨l, ?_⟩
      obtain ⟨hin, hcl, ⟨a1, -⟩, hk⟩ := mRd_in qs
      have h4 := (tok_ok ok k).1.2.2.2.2.2.2
      rw [if_pos (mRd_0 qs), hcl, a1]
      refine ⟨hin, ?_⟩
      by_cases c0 : Tk (tok (tT Z) k) = 0
      · rw [if_pos (by rw [c0]; rfl)]
        have : evTo (tT Z) (tN Z) (tH Z) g k ps = .inr ps := by
          cases g with
          | zero => rfl
          | succ g => unfold evTo; rw [if_pos c0]
        exact fin _ o13 s ⟨l, F, t2, Or.inr ⟨ps, hr.symm.trans this, rfl, h30, mp, qs.2.2.2.1⟩⟩
      · rw [if_neg (by rw [nI_eq0 (by omega)]; exact c0)]
        have hk1 := tk_lt hn qs.2.2.2.2 c0
        obtain ⟨g, rfl⟩ : ∃ g', g = g' + 1 := ⟨g - 1, by omega⟩
        unfold evTo at hr
        rw [if_neg c0] at hr
        have hp := plE_ok (nm := tN Z) ok hn qs.2.2.2.2 h30 hop
        obtain ⟨wh1, wh2⟩ := whr_wts (T := tok (tT Z) k)
        have h3 := wts_3 (T := tok (tT Z) k)
        refine WE_i (m_wordHere qs ok (by omega)) ?_
        have flt' : ∀ f, 1 ≤ f ∧ f ≤ 5 → evTo (tT Z) (tN Z) (tH Z) 1000 0 [] = .inl (flt f (tok (tT Z) k)) → ∀ o, WM q_Md_wrong [.ref 204, .int (nI f)] s (kV fun s23 => Ly s23 ∧ WM q_Md_takeSign [.ref 204, .int (nI 59)] s23 (kV fun s24 => Ly s24 ∧ X (nI ps.length) o s24)) := by
          intro f hf he o
          refine m_wrong qs ok hf (fun t zt ft => ⟨zt.1, m_takeSign_f zt ?_⟩)
          exact hX 0 _ _ _ (by omega) ⟨zt.1, Fg_t F (Fg_m ft (fun b j h => PEs_x (Or.inl h))), (ft.2.1 _ _ (by unfold P78; omega)).trans t2, Or.inl ⟨_, he, zt⟩⟩
        unfold plE at hr hp
        by_cases cw : wts (tok (tT Z) k) = 0
        · rw [if_pos cw] at hr
          rw [if_neg (by rw [wh1]; exact fun h => h cw)]
          exact flt' 1 (by omega) hr.symm _
        · rw [if_neg cw] at hr hp
          rw [if_pos (by rw [wh1]; exact cw)]
          by_cases c30 : 30 ≤ ps.length
          · rw [if_pos c30] at hr
            rw [if_pos (by rw [show ps.length = 30 by omega])]
            exact flt' 5 (by omega) hr.symm _
          · rw [if_neg c30] at hr hp
            rw [if_neg (by rw [nI_eqN (by omega) (by omega)]; omega), wh2 cw, nI_mulN, nI_add, nI_add, cl_nI (by omega)]
            generalize hm : wts (tok (tT Z) k) = mm at *
            obtain ⟨q3, f3⟩ := m_nxt qs c0
            show lt (jh_setI s 204 7 (s.2.1 204 7 + nI 1)) _
            generalize jh_setI s 204 7 (s.2.1 204 7 + nI 1) = s3 at q3 f3
            simp only [lt]
            refine ⟨by rw [inb_nI (by omega) (by omega)]; omega, ?_⟩
            have f4 : Fi (fun b j => b = 215 ∧ j = 125 + 4 * ps.length) s3 (jh_setI s3 215 (125 + 4 * ps.length) (nI (wht mm))) := Fi_s (Fi_r _ _) ⟨rfl, rfl⟩
            have e4 : (jh_setI s3 215 (125 + 4 * ps.length) (nI (wht mm))).2.1 215 (125 + 4 * ps.length) = nI (wht mm) := rI_eq
            have l4 := Fi_ly f4 q3.1
            generalize jh_setI s3 215 (125 + 4 * ps.length) (nI (wht mm)) = s4 at f4 e4 l4 ⊢
            have q4 : mRd (tT Z) n (k + 1) s4 := mRd_g (Fi_g f4) l4 (fun b j h => by omega) q3
            have F4 : Fg PEs s s4 := Fg_t (Fg_m f3 (fun b j h => Or.inl h)) (Fg_m (Fi_g f4) (fun b j h => by unfold PEs; omega))
            have E4 := mEh_g n8 F4 (fun b j h => by unfold PEs P78; omega) Es
            refine WM_V (m_readEvening (m := mm) (i0 := 126 + 4 * ps.length) (by omega) (by omega) (by omega) q4 ok n8 hnm E4 rfl) (fun s5 v => ?_)
            obtain ⟨l5, f5, v⟩ := v
            refine ⟨l5, ?_⟩
            have F5 : Fg PEs s s5 := Fg_t F4 (Fg_m f5 (fun b j h => by
              rcases h with h | h
              · exact Or.inl h
              · unfold PEs; omega))
            have FX : Fg PmX σ s5 := Fg_t F (Fg_m F5 (fun b j => PEs_x))
            have t5 : s5.2.1 204 2 = nI 0 := (F5.2.1 _ _ (by unfold PEs P78; omega)).trans t2
            have e5 : s5.2.1 215 (125 + 4 * ps.length) = nI (wht mm) := (f5.2.1 _ _ (by unfold PEv P78; omega)).trans e4
            have hb := bdR_ok (H := tH Z) (nm := tN Z) (m := mm) ok hn mm (k + 1) [] hk1 (fun p h => by cases h)
            cases e : bdR (tT Z) (tN Z) (tH Z) mm mm (k + 1) [] with
            | inl x =>
              rw [e] at v hr
              exact m_takeSign_f v (hX 0 _ _ _ (by omega) ⟨l5, FX, t5, Or.inl ⟨x, hr.symm, v⟩⟩)
            | inr xs =>
              rw [e] at v hr hp hb
              obtain ⟨q5, hc5⟩ := v
              have hlen : xs.length = 0 + mm := hb.2.1
              have hr : (match (if isS 59 (tok (tT Z) (k + 1 + mm)) = true then (Sum.inr (k + 1 + mm + 1, ps ++ [lnE mm xs]) : PE) else .inl (flt 1 (tok (tT Z) (k + 1 + mm)))) with
                | .inl e => .inl e
                | .inr q => evTo (tT Z) (tN Z) (tH Z) g q.1 q.2) = evTo (tT Z) (tN Z) (tH Z) 1000 0 [] := hr
              have ln : (ps ++ [lnE mm xs]).length = ps.length + 1 := by rw [List.length_append]; rfl
              refine m_takeSign q5 ok (by omega) (fun c3 o qo fo => ?_) (fun c3 o zo fo => ?_)
              · rw [if_pos c3] at hr
                refine hX (g + 1) _ _ _ (by omega) ⟨qo.1, Fg_t FX (Fg_m fo (fun b j h => PEs_x (Or.inl h))), (fo.2.1 _ _ (by unfold P78; omega)).trans t5, Or.inr ⟨g, k + 1 + mm + 1, ps ++ [lnE mm xs], rfl, by rw [ln, nI_add], qo, mEh_g n8 (Fg_t F5 (Fg_m fo (fun b j h => Or.inl h))) (fun b j h => by unfold PEs P78; omega) Es, hp.2.2.1, hp.2.2.2, fun i p ei => ?_, by omega, hr⟩⟩
                have Eo : ∀ j, o.2.1 215 j = s5.2.1 215 j := fun j => fo.2.1 _ _ (by unfold P78; omega)
                rw [Eo, Eo, Eo, Eo]
                rcases app_get ei with ⟨g1, g2⟩ | ⟨g1, g2⟩
                · obtain ⟨w1, w2, w3, w4⟩ := mp i p g2
                  have old : ∀ j, j < 125 + 4 * ps.length → s5.2.1 215 j = s.2.1 215 j := fun j hj => (f5.2.1 _ _ (by unfold PEv P78; omega)).trans ((f4.2.2 _ _ (by omega)).trans (f3.2.1 _ _ (by unfold P78; omega)))
                  rw [old _ (by omega), old _ (by omega), old _ (by omega), old _ (by omega)]
                  exact ⟨w1, w2, w3, w4⟩
                · subst g1; subst g2
                  have gx : ∀ i, i < mm → s5.2.1 215 (126 + 4 * ps.length + i) = nI (xs.getD i 0) := fun i hi => by
                    have hi' : i < xs.length := by omega
                    rw [getD_app (List.getElem?_eq_getElem hi')]
                    exact hc5 i _ (List.getElem?_eq_getElem hi')
                  refine ⟨e5, gx 0 (by omega), fun g => ?_, fun g => ?_⟩
                  · have g : 2 ≤ mm := g
                    rw [show 127 + 4 * ps.length = 126 + 4 * ps.length + 1 by omega]; exact gx 1 (by omega)
                  · have g : 3 ≤ mm := g
                    rw [show 128 + 4 * ps.length = 126 + 4 * ps.length + 2 by omega]; exact gx 2 (by omega)
              · rw [c3, if_neg (by decide)] at hr
                exact hX 0 _ _ _ (by omega) ⟨zo.1, Fg_t FX (Fg_m fo (fun b j h => PEs_x (Or.inl h))), (fo.2.1 _ _ (by unfold P78; omega)).trans t5, Or.inl ⟨_, hr.symm, zo⟩⟩
theorem a_evening (hZ : WZ Z) : Agw q_Ct_evening [.ref 64] q_Md_evening [.ref 204] Z := by
  have ok := WZ_tp hZ
  obtain ⟨n, hn1, hn⟩ := tok_n ok
  have hok := evTo_ok (H := tH Z) (nm := tN Z) ok hn 1000 0 [] (Nat.zero_le _) (Nat.zero_le _) (fun l h => by cases h)
  cases e : evTo (tT Z) (tN Z) (tH Z) 1000 0 [] with
  | inl x =>
    refine ⟨nI x, zT Z [], WZ_T0 hZ, fun h pl σ W z => WM_I (c_evening hZ W z) (fun y s v => ?_), fun σ z => WM_I (m_evening hZ z) (fun y s v => ?_)⟩
    · rw [e] at v; exact ⟨v.1.1, v.1.2, v.2⟩
    · rw [e] at v; exact ⟨v.1.1, v.1.2, v.2⟩
  | inr ps =>
    rw [e] at hok
    refine ⟨nI 0, zE Z ps, WZ_E hZ hok.1 hok.2, fun h pl σ W z => WM_I (c_evening hZ W z) (fun y s v => ?_), fun σ z => WM_I (m_evening hZ z) (fun y s v => ?_)⟩
    · rw [e] at v; exact ⟨v.1.1, v.1.2, v.2⟩
    · rw [e] at v; exact ⟨v.1.1, v.1.2, v.2⟩
end EV4

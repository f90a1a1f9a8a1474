/-! ===== the model reads a law ===== -/
section ML
variable {s t σ : JH} {ts : List Nat} {n k u B : Nat} {a : Lws} {x : Int32} {P : Nat → Lws → PR} {T : Tok}
def mLw (a : Lws) (σ : JH) : Prop := σ.2.1 204 13 = nI a.length ∧ ∀ i q, a[i]? = some q → σ.2.1 211 (1100 + i) = nI q.1 ∧ σ.2.1 212 (1100 + i) = q.2
def PLm (b j : Nat) : Prop := (b = 204 ∧ (j = 7 ∨ j = 8 ∨ j = 13)) ∨ (b = 211 ∧ 1100 ≤ j) ∨ (b = 212 ∧ 1100 ≤ j)
def PEm (b j : Nat) : Prop := (b = 204 ∧ j = 13) ∨ (b = 211 ∧ 1100 ≤ j) ∨ (b = 212 ∧ 1100 ≤ j)
def mFl (u e : Nat) (s : JH) : Prop := mFt e s ∧ ∃ c, c ≤ 1000 + u ∧ s.2.1 204 13 = nI c
def MR (ts : List Nat) (n u : Nat) (r : PR) (s : JH) : Prop := match r with
  | .inl e => mFl u e s
  | .inr q => mRd ts n q.1 s ∧ mLw q.2 s
def MLs (ts : List Nat) (n u : Nat) (f : JF) (x : Int32) (P : Nat → Lws → PR) : Prop := ∀ σ k a, mRd ts n k σ → a.length ≤ k → mLw a σ → WM f [.ref 204, .int x] σ (kV fun s => Ly s ∧ Fg PLm σ s ∧ MR ts n u (P k a) s)
theorem PEm_l {b j : Nat} (h : PEm b j) : PLm b j := by unfold PEm at h; unfold PLm; omega
theorem P78_l {b j : Nat} (h : P78 b j) : PLm b j := by unfold P78 at h; unfold PLm; omega
theorem m_emit {K : JH → Prop} {c : Nat} {v : Int32} (hl : Ly σ) (ha : a.length < 1099) (hw : mLw a σ) (hK : ∀ s, Ly s → Fg PEm σ s → mLw (a ++ [(c, v)]) s → K s) : WM q_Md_emit [.ref 204, .int (nI c), .int v] σ (kV K) := by
  refine w_Md_emit _ _ hl ?_
  simp only [lt]
  rw [rI_ne (by omega), hw.1, nI_add, cl_nI (by omega)]
  refine ⟨by rw [inb_nI (by omega) (by omega)]; omega, by rw [inb_nI (by omega) (by omega)]; omega, ?_⟩
  rw [show (jh_setI (jh_setI σ 211 (1100 + a.length) (nI c)) 212 (1100 + a.length) v).2.1 204 13 = nI a.length from (rI_ne (by omega)).trans ((rI_ne (by omega)).trans hw.1), nI_add]
  have f : Fi PEm σ (jh_setI (jh_setI (jh_setI σ 211 (1100 + a.length) (nI c)) 212 (1100 + a.length) v) 204 13 (nI (a.length + 1))) := Fi_s (Fi_s (Fi_s (Fi_r _ _) (by unfold PEm; omega)) (by unfold PEm; omega)) (by unfold PEm; omega)
  refine hK _ (Fi_ly f hl) (Fi_g f) ⟨?_, fun i p e => ?_⟩
  · rw [rI_eq, List.length_append]; rfl
  · rcases app_get e with ⟨h1, h2⟩ | ⟨h1, h2⟩
    · exact ⟨(rI_ne (by omega)).trans ((rI_ne (by omega)).trans ((rI_ne (by omega)).trans (hw.2 i p h2).1)), (rI_ne (by omega)).trans ((rI_ne (by omega)).trans ((rI_ne (by omega)).trans (hw.2 i p h2).2))⟩
    · rw [h1, h2]; exact ⟨(rI_ne (by omega)).trans ((rI_ne (by omega)).trans rI_eq), (rI_ne (by omega)).trans rI_eq⟩
theorem m_emit_f {K : JH → Prop} {c e w : Nat} {v : Int32} (hw : w ≤ 50) (q : mFl w e σ) (hK : ∀ s, mFl (w + 1) e s → Fg PEm σ s → K s) : WM q_Md_emit [.ref 204, .int (nI c), .int v] σ (kV K) := by
  obtain ⟨⟨hl, h8, h1, h2⟩, d, hd, hd2⟩ := q
  refine w_Md_emit _ _ hl ?_
  simp only [lt]
  rw [rI_ne (by omega), hd2, nI_add, cl_nI (by omega)]
  refine ⟨by rw [inb_nI (by omega) (by omega)]; omega, by rw [inb_nI (by omega) (by omega)]; omega, ?_⟩
  rw [show (jh_setI (jh_setI σ 211 (1100 + d) (nI c)) 212 (1100 + d) v).2.1 204 13 = nI d from (rI_ne (by omega)).trans ((rI_ne (by omega)).trans hd2), nI_add]
  have f : Fi PEm σ (jh_setI (jh_setI (jh_setI σ 211 (1100 + d) (nI c)) 212 (1100 + d) v) 204 13 (nI (d + 1))) := Fi_s (Fi_s (Fi_s (Fi_r _ _) (by unfold PEm; omega)) (by unfold PEm; omega)) (by unfold PEm; omega)
  exact hK _ ⟨⟨Fi_ly f hl, (f.2.2 204 8 (by unfold PEm; omega)).trans h8, h1, h2⟩, d + 1, by omega, rI_eq⟩ (Fi_g f)
theorem mLw_78 (f : Fg P78 s t) (q : mLw a s) : mLw a t := ⟨(f.2.1 _ _ (by unfold P78; omega)).trans q.1, fun i p e => ⟨(f.2.1 _ _ (by unfold P78; omega)).trans (q.2 i p e).1, (f.2.1 _ _ (by unfold P78; omega)).trans (q.2 i p e).2⟩⟩
theorem mRd_E (f : Fg PEm s t) (hl : Ly t) (q : mRd ts n k s) : mRd ts n k t := mRd_g f hl (fun b j h => by unfold PEm; omega) q
theorem mFl_m {e w w' : Nat} (h : w ≤ w') (q : mFl w e s) : mFl w' e s := by
  obtain ⟨q1, c, hc, e⟩ := q
  exact ⟨q1, c, by omega, e⟩
theorem mFl_78 {e w : Nat} (f : Fg P78 s t) (z : mFt e t) (q : mFl w e s) : mFl w e t := by
  obtain ⟨q1, c, hc, h⟩ := q
  exact ⟨z, c, hc, (f.2.1 _ _ (by unfold P78; omega)).trans h⟩
theorem mFl_w {e : Nat} (ha : a.length ≤ 1000) (f : Fg P78 s t) (hw : mLw a s) (z : mFt e t) : mFl u e t := ⟨z, _, by omega, (f.2.1 _ _ (by unfold P78; omega)).trans hw.1⟩
theorem m_suf {F : JF} {c : Nat} (hu : u ≤ 50) (hn1 : n ≤ 1000) (hP : MLs ts n u F x P) (okP : okF n B P) (q : mRd ts n k s) (ha : a.length + 1 ≤ k) (hw : mLw a s) {Y : JH → Prop} (hY : ∀ t, Fg PLm s t → Ly t → MR ts n (u + 1) (sfx c (P k a)) t → Y t) : WM F [.ref 204, .int x] s (kV fun s6 => Ly s6 ∧ WM q_Md_emit [.ref 204, .int (nI c), .int (nI 0)] s6 (kV fun s7 => Ly s7 ∧ Y s7)) := by
  refine WM_V (hP s k a q (by omega) hw) (fun t z => ?_)
  obtain ⟨l, f, z⟩ := z
  refine ⟨l, ?_⟩
  have hp := okP k a q.2.2.2.2
  cases hq : P k a with
  | inl e =>
    rw [hq] at z hY
    exact m_emit_f hu z (fun w qw fw => ⟨qw.1.1, hY w (Fg_t f (Fg_m fw (fun b j => PEm_l))) qw.1.1 qw⟩)
  | inr r =>
    rw [hq] at z hY hp
    have hl := okR_l hp (by omega)
    exact m_emit l (by omega) z.2 (fun w lw fw hw => ⟨lw, hY w (Fg_t f (Fg_m fw (fun b j => PEm_l))) lw ⟨mRd_E fw lw z.1, hw⟩⟩)
theorem m_products (Ψ : Nat → JF) (hu : u ≤ 50) (hn : Tk (tok ts n) = 0) (hn1 : n ≤ 1000) (ok : okTp ts) (hP : MLs ts n u (Ψ 3) x P) (okP : okF n B P) : MLs ts n (u + 1) (jf_of (qp_Md_products Ψ) 2) x (lpS ts P opT) := by
  intro σ k a q ha hw
  refine w_Md_products Ψ x q.1 ?_
  have hp := okP k a q.2.2.2.2
  refine WM_V (hP σ k a q ha hw) (fun s z => ?_)
  obtain ⟨l, f, z⟩ := z
  refine ⟨l, ?_⟩
  refine Lp1_inv (I := fun m s => Ly s ∧ Fg PLm σ s ∧ ((∃ e, lpS ts P opT k a = .inl e ∧ mFl (u + 1) e s) ∨ (∃ g k1 a1, m = g + 1 ∧ mRd ts n k1 s ∧ mLw a1 s ∧ a1.length ≤ k1 ∧ n ≤ k1 + g ∧ lpR ts P opT g k1 a1 = lpS ts P opT k a))) ?_ (m := 1001) ⟨l, f, ?_⟩
  · rintro m s ⟨l, f, z⟩ X hX
    refine ⟨l, ?_⟩
    rcases z with ⟨e, he, z⟩ | ⟨g, k1, a1, rfl, q1, w1, ha1, hg, ht⟩
    · refine m_hasSign_f z.1 (fun t zt ft => ?_)
      rw [if_pos (by decide)]
      refine ⟨zt.1, Fg_t f (Fg_m ft (fun b j => P78_l)), ?_⟩
      show MR ts n (u + 1) (lpS ts P opT k a) t
      rw [he]
      exact mFl_78 ft zt z
    · have go : ∀ c t, opT (tok ts k1) = some c → Fg PLm s t → Ly t → MR ts n (u + 1) (sfx c (P (k1 + 1) a1)) t → X t := by
        intro c t hc ft lt' z
        have hkk := tk_lt hn q1.2.2.2.2 (okO_T _ _ hc).2.2
        have hp1 := okP (k1 + 1) a1 hkk
        obtain ⟨g, rfl⟩ : ∃ g', g = g' + 1 := ⟨g - 1, by omega⟩
        unfold lpR at ht
        rw [hc] at ht
        cases hq : P (k1 + 1) a1 with
        | inl e =>
          rw [hq] at z ht
          exact hX 0 _ (by omega) ⟨lt', Fg_t f ft, Or.inl ⟨e, ht.symm, z⟩⟩
        | inr r =>
          rw [hq] at z ht hp1
          have hl := okR_l hp1 (by omega)
          exact hX (g + 1) _ (by omega) ⟨lt', Fg_t f ft, Or.inr ⟨g, r.1, _, rfl, z.1, z.2, by rw [List.length_append]; show r.2.length + 1 ≤ r.1; omega, by omega, ht⟩⟩
      have stop : opT (tok ts k1) = none → MR ts n (u + 1) (lpS ts P opT k a) s := by
        intro hc
        have : lpR ts P opT g k1 a1 = .inr (k1, a1) := by
          cases g with
          | zero => rfl
          | succ g => unfold lpR; rw [hc]
        rw [← ht, this]
        exact ⟨q1, w1⟩
      refine m_hasSign q1 ok (by omega) (fun c1 t qt ft => ?_) (fun c1 t qt ft => ?_)
      · rw [if_neg (by decide)]
        exact m_suf (c := 6) hu hn1 hP okP qt (by omega) (mLw_78 ft w1) (fun v fv lv zv => go 6 v (if_pos c1) (Fg_t (Fg_m ft (fun b j => P78_l)) fv) lv zv)
      · rw [if_pos (by decide)]
        refine ⟨qt.1, Fg_t f (Fg_m ft (fun b j => P78_l)), ?_⟩
        have z := stop (by unfold opT; rw [c1, if_neg (by decide)])
        have : lpR ts P opT g k1 a1 = .inr (k1, a1) := by
          cases g with
          | zero => rfl
          | succ g => unfold lpR opT; rw [c1, if_neg (by decide)]
        show MR ts n (u + 1) (lpS ts P opT k a) t
        rw [← ht, this]
        exact ⟨qt, mLw_78 ft w1⟩
  · cases hq : P k a with
    | inl e =>
      rw [hq] at z
      exact Or.inl ⟨e, by unfold lpS; rw [hq], mFl_m (by omega) z⟩
    | inr r =>
      rw [hq] at z hp
      have hl := okR_l hp ha
      exact Or.inr ⟨1000, r.1, r.2, rfl, z.1, z.2, hl.2.1, by omega, by unfold lpS; rw [hq]⟩
theorem m_sums (Ψ : Nat → JF) (hu : u ≤ 50) (hn : Tk (tok ts n) = 0) (hn1 : n ≤ 1000) (ok : okTp ts) (hP : MLs ts n u (Ψ 1) x P) (okP : okF n B P) : MLs ts n (u + 1) (jf_of (qp_Md_sums Ψ) 3) x (lpS ts P opA) := by
  intro σ k a q ha hw
  refine w_Md_sums Ψ x q.1 ?_
  have hp := okP k a q.2.2.2.2
  refine WM_V (hP σ k a q ha hw) (fun s z => ?_)
  obtain ⟨l, f, z⟩ := z
  refine ⟨l, ?_⟩
  refine Lp2_inv (I := fun m _ s => Ly s ∧ Fg PLm σ s ∧ ((∃ e, lpS ts P opA k a = .inl e ∧ mFl (u + 1) e s) ∨ (∃ g k1 a1, m = g + 1 ∧ mRd ts n k1 s ∧ mLw a1 s ∧ a1.length ≤ k1 ∧ n ≤ k1 + g ∧ lpR ts P opA g k1 a1 = lpS ts P opA k a))) ?_ (m := 1001) ⟨l, f, ?_⟩
  · rintro m o2 s ⟨l, f, z⟩ X hX
    refine ⟨l, ?_⟩
    simp only [JJ1]
    rcases z with ⟨e, he, z⟩ | ⟨g, k1, a1, rfl, q1, w1, ha1, hg, ht⟩
    · refine WE_i (m_isSign_f z.1) ?_
      rw [if_pos (by decide)]
      refine WE_i (m_isSign_f z.1) ?_
      rw [if_pos (by decide)]
      refine ⟨l, f, ?_⟩
      show MR ts n (u + 1) (lpS ts P opA k a) s
      rw [he]
      exact z
    · have go : ∀ c o t, opA (tok ts k1) = some c → Fg PLm s t → Ly t → MR ts n (u + 1) (sfx c (P (k1 + 1) a1)) t → X o t := by
        intro c o t hc ft lt' z
        have hkk := tk_lt hn q1.2.2.2.2 (okO_A _ _ hc).2.2
        have hp1 := okP (k1 + 1) a1 hkk
        obtain ⟨g, rfl⟩ : ∃ g', g = g' + 1 := ⟨g - 1, by omega⟩
        unfold lpR at ht
        rw [hc] at ht
        cases hq : P (k1 + 1) a1 with
        | inl e =>
          rw [hq] at z ht
          exact hX 0 _ _ (by omega) ⟨lt', Fg_t f ft, Or.inl ⟨e, ht.symm, z⟩⟩
        | inr r =>
          rw [hq] at z ht hp1
          have hl := okR_l hp1 (by omega)
          exact hX (g + 1) _ _ (by omega) ⟨lt', Fg_t f ft, Or.inr ⟨g, r.1, _, rfl, z.1, z.2, by rw [List.length_append]; show r.2.length + 1 ≤ r.1; omega, by omega, ht⟩⟩
      have stop : opA (tok ts k1) = none → MR ts n (u + 1) (lpS ts P opA k a) s := by
        intro hc
        have : lpR ts P opA g k1 a1 = .inr (k1, a1) := by
          cases g with
          | zero => rfl
          | succ g => unfold lpR; rw [hc]
        rw [← ht, this]
        exact ⟨q1, w1⟩
      refine WE_i (m_isSign q1 ok (by omega)) ?_
      by_cases c1 : isS 43 (tok ts k1) = true
      · rw [c1, if_neg (by decide)]
        have e1 : opA (tok ts k1) = some 4 := if_pos c1
        refine WE_i (by rw [m_isSign q1 ok (by omega), c1]) ?_
        obtain ⟨qt, ft⟩ := m_nxt q1 (isS_k c1)
        simp only [lt, bI_0, Bool.true_eq_false, if_false]
        exact m_suf (c := 4) hu hn1 hP okP qt (by omega) (mLw_78 ft w1) (fun v fv lv zv => go 4 _ v e1 (Fg_t (Fg_m ft (fun b j => P78_l)) fv) lv zv)
      · rw [Bool.not_eq_true] at c1
        rw [c1, if_pos (by decide)]
        refine WE_i (m_isSign q1 ok (by omega)) ?_
        by_cases c2 : isS 45 (tok ts k1) = true
        · rw [c2, if_neg (by decide)]
          have e1 : opA (tok ts k1) = some 5 := by unfold opA; rw [c1, if_neg (by decide), if_pos c2]
          refine WE_i (by rw [m_isSign q1 ok (by omega), c1]) ?_
          obtain ⟨qt, ft⟩ := m_nxt q1 (isS_k c2)
          simp only [lt, bI_0, if_true]
          exact m_suf (c := 5) hu hn1 hP okP qt (by omega) (mLw_78 ft w1) (fun v fv lv zv => go 5 _ v e1 (Fg_t (Fg_m ft (fun b j => P78_l)) fv) lv zv)
        · rw [Bool.not_eq_true] at c2
          rw [c2, if_pos (by decide)]
          exact ⟨l, f, stop (by unfold opA; rw [c1, c2, if_neg (by decide), if_neg (by decide)])⟩
  · cases hq : P k a with
    | inl e =>
      rw [hq] at z
      exact Or.inl ⟨e, by unfold lpS; rw [hq], mFl_m (by omega) z⟩
    | inr r =>
      rw [hq] at z hp
      have hl := okR_l hp ha
      exact Or.inr ⟨1000, r.1, r.2, rfl, z.1, z.2, hl.2.1, by omega, by unfold lpS; rw [hq]⟩
theorem m_all (Ψ : Nat → JF) (hu : u ≤ 50) (hn : Tk (tok ts n) = 0) (hn1 : n ≤ 1000) (ok : okTp ts) (hP : MLs ts n u (Ψ 4) x P) (okP : okF n B P) : MLs ts n (u + 1) (jf_of (qp_Md_all Ψ) 3) x (lpS ts P opB) := by
  intro σ k a q ha hw
  refine w_Md_all Ψ x q.1 ?_
  have hp := okP k a q.2.2.2.2
  refine WM_V (hP σ k a q ha hw) (fun s z => ?_)
  obtain ⟨l, f, z⟩ := z
  refine ⟨l, ?_⟩
  refine Lp2_inv (I := fun m _ s => Ly s ∧ Fg PLm σ s ∧ ((∃ e, lpS ts P opB k a = .inl e ∧ mFl (u + 1) e s) ∨ (∃ g k1 a1, m = g + 1 ∧ mRd ts n k1 s ∧ mLw a1 s ∧ a1.length ≤ k1 ∧ n ≤ k1 + g ∧ lpR ts P opB g k1 a1 = lpS ts P opB k a))) ?_ (m := 1001) ⟨l, f, ?_⟩
  · rintro m o2 s ⟨l, f, z⟩ X hX
    refine ⟨l, ?_⟩
    simp only [JJ1]
    rcases z with ⟨e, he, z⟩ | ⟨g, k1, a1, rfl, q1, w1, ha1, hg, ht⟩
    · refine WE_i (m_isWord_f z.1) ?_
      rw [if_pos (by decide)]
      refine WE_i (m_isWord_f z.1) ?_
      rw [if_pos (by decide)]
      refine ⟨l, f, ?_⟩
      show MR ts n (u + 1) (lpS ts P opB k a) s
      rw [he]
      exact z
    · have go : ∀ c o t, opB (tok ts k1) = some c → Fg PLm s t → Ly t → MR ts n (u + 1) (sfx c (P (k1 + 1) a1)) t → X o t := by
        intro c o t hc ft lt' z
        have hkk := tk_lt hn q1.2.2.2.2 (okO_B _ _ hc).2.2
        have hp1 := okP (k1 + 1) a1 hkk
        obtain ⟨g, rfl⟩ : ∃ g', g = g' + 1 := ⟨g - 1, by omega⟩
        unfold lpR at ht
        rw [hc] at ht
        cases hq : P (k1 + 1) a1 with
        | inl e =>
          rw [hq] at z ht
          exact hX 0 _ _ (by omega) ⟨lt', Fg_t f ft, Or.inl ⟨e, ht.symm, z⟩⟩
        | inr r =>
          rw [hq] at z ht hp1
          have hl := okR_l hp1 (by omega)
          exact hX (g + 1) _ _ (by omega) ⟨lt', Fg_t f ft, Or.inr ⟨g, r.1, _, rfl, z.1, z.2, by rw [List.length_append]; show r.2.length + 1 ≤ r.1; omega, by omega, ht⟩⟩
      have stop : opB (tok ts k1) = none → MR ts n (u + 1) (lpS ts P opB k a) s := by
        intro hc
        have : lpR ts P opB g k1 a1 = .inr (k1, a1) := by
          cases g with
          | zero => rfl
          | succ g => unfold lpR; rw [hc]
        rw [← ht, this]
        exact ⟨q1, w1⟩
      refine WE_i (m_isWord q1 ok (by omega)) ?_
      by_cases c1 : isW 16 (tok ts k1) = true
      · rw [c1, if_neg (by decide)]
        have e1 : opB (tok ts k1) = some 9 := if_pos c1
        refine WE_i (by rw [m_isWord q1 ok (by omega), c1]) ?_
        obtain ⟨qt, ft⟩ := m_nxt q1 (isW_k c1)
        simp only [lt, bI_0, Bool.true_eq_false, if_false]
        exact m_suf (c := 9) hu hn1 hP okP qt (by omega) (mLw_78 ft w1) (fun v fv lv zv => go 9 _ v e1 (Fg_t (Fg_m ft (fun b j => P78_l)) fv) lv zv)
      · rw [Bool.not_eq_true] at c1
        rw [c1, if_pos (by decide)]
        refine WE_i (m_isWord q1 ok (by omega)) ?_
        by_cases c2 : isW 17 (tok ts k1) = true
        · rw [c2, if_neg (by decide)]
          have e1 : opB (tok ts k1) = some 10 := by unfold opB; rw [c1, if_neg (by decide), if_pos c2]
          refine WE_i (by rw [m_isWord q1 ok (by omega), c1]) ?_
          obtain ⟨qt, ft⟩ := m_nxt q1 (isW_k c2)
          simp only [lt, bI_0, if_true]
          exact m_suf (c := 10) hu hn1 hP okP qt (by omega) (mLw_78 ft w1) (fun v fv lv zv => go 10 _ v e1 (Fg_t (Fg_m ft (fun b j => P78_l)) fv) lv zv)
        · rw [Bool.not_eq_true] at c2
          rw [c2, if_pos (by decide)]
          exact ⟨l, f, stop (by unfold opB; rw [c1, c2, if_neg (by decide), if_neg (by decide)])⟩
  · cases hq : P k a with
    | inl e =>
      rw [hq] at z
      exact Or.inl ⟨e, by unfold lpS; rw [hq], mFl_m (by omega) z⟩
    | inr r =>
      rw [hq] at z hp
      have hl := okR_l hp ha
      exact Or.inr ⟨1000, r.1, r.2, rfl, z.1, z.2, hl.2.1, by omega, by unfold lpS; rw [hq]⟩
end ML

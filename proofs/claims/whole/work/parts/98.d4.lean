section MC4
variable {s t σ : JH} {ts : List Nat} {n k : Nat} {Q : Qs} {mm : Nat → Nat} {w : Bool}
theorem cnt_set {f g : Nat → Bool} {j : Nat} : ∀ {m : Nat}, j < m → f j = false → g j = true → (∀ i, i < m → i ≠ j → g i = f i) → cntB g m = cntB f m + 1 := by
  intro m
  induction m with
  | zero => intro h; exact absurd h (Nat.not_lt_zero _)
  | succ m ih =>
    intro hj h1 h2 h3
    rw [cntB_succ, cntB_succ]
    by_cases c : j = m
    · subst c
      rw [h1, h2, cntB_ext (g := f) (fun i hi => h3 i (by omega) (by omega))]
      simp
    · rw [ih (by omega) h1 h2 (fun i hi hij => h3 i (by omega) hij), h3 m (by omega) (by omega)]
      omega
theorem prs_st2 {F : Nat → Nat → Bool} {a b : Nat} (hab : a ≠ b) (h1 : F a b = false) (h2 : F b a = false) : ∀ m, prs (st2 F a b) m = prs F m + if a < m ∧ b < m then 1 else 0 := by
  intro m
  induction m with
  | zero => rfl
  | succ m ih =>
    show prs (st2 F a b) m + cntB (st2 F a b m) m = prs F m + cntB (F m) m + if a < m + 1 ∧ b < m + 1 then 1 else 0
    rw [ih]
    by_cases c : m = a ∧ b < a
    · rw [if_neg (by omega), if_pos (by omega), cnt_set (f := F m) (g := st2 F a b m) (j := b) (by omega) (by rw [c.1]; exact h1) (by unfold st2; rw [if_pos (by omega)]) (fun i hi hib => by unfold st2; rw [if_neg (by omega)])]
      omega
    · by_cases d : m = b ∧ a < b
      · rw [if_neg (by omega), if_pos (by omega), cnt_set (f := F m) (g := st2 F a b m) (j := a) (by omega) (by rw [d.1]; exact h2) (by unfold st2; rw [if_pos (by omega)]) (fun i hi hib => by unfold st2; rw [if_neg (by omega)])]
        omega
      · rw [cntB_ext (f := st2 F a b m) (g := F m) (fun i hi => by unfold st2; rw [if_neg (by omega)])]
        by_cases g : a < m ∧ b < m
        · rw [if_pos g, if_pos (by omega)]; omega
        · rw [if_neg g, if_neg (by omega)]; omega
/-- a pair is laid down -/
theorem m_pr {a b base : Nat} {x : Int32} (hl : Ly s) (hQ : WQ Q) (ha : a < Hn (qH Q)) (hb : b < Hn (qH Q)) (hab : a ≠ b) (hbase : base = if w = true then 284 else 220) (hF : (if w = true then Hx (qH Q) a b else Hb (qH Q) a b) = false) (hx : x = nI (prs (Hx (qH Q)) (Hn (qH Q)) + if w = true then 1 else 0)) (z : mHr Q s) : let u := jh_setI (jh_setI (jh_setI s 210 (base + 8 * a + b) (nI 1)) 210 (base + 8 * b + a) (nI 1)) 210 183 x
    mHr (prQ w Q a b) u ∧ Fg P21 s u ∧ Ly u := by
  intro u
  have n8 := WQ_8 hQ
  have hbb : base = 220 ∨ base = 284 := by cases w <;> simp at hbase <;> omega
  have fu : Fi (fun c j => c = 210 ∧ (j = base + 8 * a + b ∨ j = base + 8 * b + a ∨ j = 183)) s u := Fi_s (Fi_s (Fi_s (Fi_r _ _) (by omega)) (by omega)) (by omega)
  have u3 : u.2.1 210 183 = x := rI_eq
  have u2 : u.2.1 210 (base + 8 * b + a) = nI 1 := (rI_ne (by omega)).trans rI_eq
  have u1 : u.2.1 210 (base + 8 * a + b) = nI 1 := (rI_ne (by omega)).trans ((rI_ne (by omega)).trans rI_eq)
  clear_value u
  have e : ∀ c j, ¬ (c = 210 ∧ (j = base + 8 * a + b ∨ j = base + 8 * b + a ∨ j = 183)) → u.2.1 c j = s.2.1 c j := fu.2.2
  obtain ⟨⟨a1, a2, a3, a4, a5, a6, a7, a8⟩, b1, b2, b3, b4, b5, b6, b7, b8, b9, b10⟩ := z
  have lw : (qL Q = none → u.2.1 210 185 = mI 1 ∧ mLw [] u) ∧ (∀ M, qL Q = some M → u.2.1 210 185 = nI 0 ∧ mLw (M ++ [(0, nI 0)]) u) := ⟨fun h => ⟨(e _ _ (by omega)).trans (b9 h).1, mLw_e (e _ _ (by omega)) (fun j => e _ _ (by omega)) (fun j => e _ _ (by omega)) (b9 h).2⟩, fun M h => ⟨(e _ _ (by omega)).trans (b10 M h).1, mLw_e (e _ _ (by omega)) (fun j => e _ _ (by omega)) (fun j => e _ _ (by omega)) (b10 M h).2⟩⟩
  have row : ∀ (F : Nat → Nat → Bool), (∀ i, i < 8 → ∀ j, j < 8 → s.2.1 210 (base + 8 * i + j) = bI (F i j)) → ∀ i, i < 8 → ∀ j, j < 8 → u.2.1 210 (base + 8 * i + j) = bI (st2 F a b i j) := by
    intro F hF i hi j hj
    unfold st2
    by_cases c : i = a ∧ j = b
    · rw [if_pos (Or.inl c), c.1, c.2, u1]; rfl
    · by_cases d : i = b ∧ j = a
      · rw [if_pos (Or.inr d), d.1, d.2, u2]; rfl
      · rw [if_neg (by omega), e _ _ (by omega)]; exact hF i hi j hj
  refine ⟨⟨⟨(e _ _ (by omega)).trans a1, (e _ _ (by omega)).trans a2, (e _ _ (by omega)).trans a3, ?_, (e _ _ (by omega)).trans a5, (e _ _ (by omega)).trans a6, (e _ _ (by omega)).trans a7, (e _ _ (by omega)).trans a8⟩, fun k hk => (e _ _ (by have : k < Hn (qH Q) := hk; omega)).trans (b1 k hk), fun k hk => (e _ _ (by have : k < Hn (qH Q) := hk; omega)).trans (b2 k hk), fun k hk => (e _ _ (by have : k < Hn (qH Q) := hk; omega)).trans (b3 k hk), fun k hk => (e _ _ (by have : k < Hn (qH Q) := hk; omega)).trans (b4 k hk), fun k h1 h2 => ⟨(e _ _ (by omega)).trans (b5 k h1 h2).1, (e _ _ (by omega)).trans (b5 k h1 h2).2⟩, ?_, ?_, fun k hk => by rw [fu.2.1]; exact b8 k hk, lw.1, lw.2⟩, Fi_g (Fi_m fu (fun b j h => by unfold P21; omega)), Fi_ly fu hl⟩
  · rw [u3, hx]
    cases w
    · rfl
    · show nI (prs (Hx (qH Q)) (Hn (qH Q)) + 1) = nI (prs (st2 (Hx (qH Q)) a b) (Hn (qH Q)))
      have hF : Hx (qH Q) a b = false := hF
      rw [prs_st2 hab hF (by rw [hQ.1.2.2.2.2.2.2.2.1 b a]; exact hF), if_pos ⟨ha, hb⟩]
  · cases w
    · have : base = 220 := hbase
      subst this
      exact row _ b6
    · have : base = 284 := hbase
      subst this
      exact fun i hi j hj => (e _ _ (by omega)).trans (b6 i hi j hj)
  · cases w
    · have : base = 220 := hbase
      subst this
      exact fun i hi j hj => (e _ _ (by omega)).trans (b7 i hi j hj)
    · have : base = 284 := hbase
      subst this
      exact row _ b7
set_option maxHeartbeats 1000000 in
theorem m_readPair {wh : Nat} (hwh : wh = if w = true then 104 else 40) (q : mRd ts n k s) (hk : Tk (tok ts k) ≠ 0) (ok : okTp ts) (hQ : WQ Q) (z : mHr Q s) : WM q_Md_readPair [.ref 204, .int (nI wh)] s (kV fun t => Ly t ∧ Fg PMr s t ∧ MH ts n (plB ts w k Q) t) := by
  have n8 := WQ_8 hQ
  have hw2 : wh = 40 ∨ wh = 104 := by cases w <;> simp at hwh <;> omega
  refine w_Md_readPair _ q.1 ?_
  obtain ⟨q1, f1⟩ := m_nxt q hk
  have z1 : mHr Q (jh_setI s 204 7 (s.2.1 204 7 + nI 1)) := mHx_78 f1 z
  show lt (jh_setI s 204 7 (s.2.1 204 7 + nI 1)) _
  generalize jh_setI s 204 7 (s.2.1 204 7 + nI 1) = s1 at q1 f1 z1
  show WM q_Md_personHere [.ref 204] s1 _
  unfold plB
  refine m_person q1 ok hQ z1 (fun a ha => ⟨q1.1, ?_⟩) (fun x t e zt ft => ⟨zt.1, ?_⟩)
  · obtain ⟨v1, v2, v3, v4⟩ := (psn_ok (Q := Q) (k := k + 1) ok).2 a ha
    rw [ha, if_pos (mRd_le q1)]
    simp only [JJ2]
    obtain ⟨q2, f2⟩ := m_nxt q1 (nam_k v1)
    have z2 : mHr Q (jh_setI s1 204 7 (s1.2.1 204 7 + nI 1)) := mHx_78 f2 z1
    show lt (jh_setI s1 204 7 (s1.2.1 204 7 + nI 1)) _
    generalize jh_setI s1 204 7 (s1.2.1 204 7 + nI 1) = s2 at q2 f2 z2
    show WM q_Md_personHere [.ref 204] s2 _
    refine m_person q2 ok hQ z2 (fun b hb => ⟨q2.1, ?_⟩) (fun x t e zt ft => ⟨zt.1, ?_⟩)
    · have hb' : psn ts Q (k + 2) = .inr b := hb
      obtain ⟨u1, u2, u3, u4⟩ := (psn_ok (Q := Q) (k := k + 2) ok).2 b hb'
      rw [hb', if_pos (mRd_0 q2)]
      generalize hR : (if a = b ∨ (if w = true then Hx (qH Q) a b else Hb (qH Q) a b) = true then (Sum.inl (flt 3 (tok ts (k + 2))) : PQ) else .inr (k + 3, prQ w Q a b)) = R
      have hg : ∀ t, (Ly t ∧ Fg PMr s t ∧ MH ts n R t) = (Ly t ∧ Fg PMr s t ∧ MH ts n (match (Sum.inr b : Nat ⊕ Nat) with
        | .inl e => .inl e
        | .inr b => if a = b ∨ (if w = true then Hx (qH Q) a b else Hb (qH Q) a b) = true then .inl (flt 3 (tok ts (k + 2))) else .inr (k + 3, prQ w Q a b)) t) := fun t => by rw [← hR]
      have fault : R = .inl (flt 3 (tok ts (k + 2))) → ∀ t, mFt (flt 3 (tok ts (k + 2))) t → Fg P78 s2 t → Ly t ∧ Fg PMr s t ∧ MH ts n R t := fun h t zt ft => ⟨zt.1, Fg_t (Fg_7m f1) (Fg_t (Fg_7m f2) (Fg_7m ft)), by rw [h]; exact zt⟩
      by_cases cab : a = b
      · rw [if_pos (by rw [cab])]
        rw [if_pos (Or.inl cab)] at hR
        refine m_wrong q2 ok (by omega) (fun t zt ft => ⟨zt.1, ?_⟩)
        rw [if_neg (mFt_0 zt)]
        exact (hg t).mp (fault hR.symm t zt ft)
      · rw [if_neg (by rw [nI_eqN (by omega) (by omega)]; exact cab)]
        have ecell : cl (((nI 180 + nI wh) + (nI 8 * nI a)) + nI b) = (180 + wh) + 8 * a + b := by rw [nI_add, nI_mulN, nI_add, nI_add, cl_nI (by omega)]
        have ecell2 : cl (((nI 180 + nI wh) + (nI 8 * nI b)) + nI a) = (180 + wh) + 8 * b + a := by rw [nI_add, nI_mulN, nI_add, nI_add, cl_nI (by omega)]
        have ein : inb (((nI 180 + nI wh) + (nI 8 * nI a)) + nI b) 360 := by rw [nI_add, nI_mulN, nI_add, nI_add, inb_nI (by omega) (by omega)]; omega
        have ein2 : inb (((nI 180 + nI wh) + (nI 8 * nI b)) + nI a) 360 := by rw [nI_add, nI_mulN, nI_add, nI_add, inb_nI (by omega) (by omega)]; omega
        refine ⟨ein, ?_⟩
        rw [ecell, ecell2]
        have hbase : 180 + wh = if w = true then 284 else 220 := by rw [hwh]; cases w <;> rfl
        have eF : s2.2.1 210 (180 + wh + 8 * a + b) = bI (if w = true then Hx (qH Q) a b else Hb (qH Q) a b) := by
          rw [hbase]
          cases w
          · exact z2.2.2.2.2.2.2.1 a (by omega) b (by omega)
          · exact z2.2.2.2.2.2.2.2.1 a (by omega) b (by omega)
        rw [eF]
        by_cases cf : (if w = true then Hx (qH Q) a b else Hb (qH Q) a b) = true
        · rw [if_pos (by rw [cf]; rfl)]
          rw [if_pos (Or.inr cf)] at hR
          refine m_wrong q2 ok (by omega) (fun t zt ft => ⟨zt.1, ?_⟩)
          rw [if_neg (mFt_0 zt)]
          exact (hg t).mp (fault hR.symm t zt ft)
        · rw [if_neg (by rw [bI_1]; exact cf), if_pos (mRd_0 q2)]
          rw [if_neg (by rintro (g | g); exact cab g; exact cf g)] at hR
          rw [Bool.not_eq_true] at cf
          obtain ⟨q3, f3⟩ := m_nxt q2 (nam_k u1)
          have z3 : mHr Q (jh_setI s2 204 7 (s2.2.1 204 7 + nI 1)) := mHx_78 f3 z2
          show lt (jh_setI s2 204 7 (s2.2.1 204 7 + nI 1)) _
          generalize jh_setI s2 204 7 (s2.2.1 204 7 + nI 1) = s3 at q3 f3 z3
          simp only [lt]
          refine ⟨ein, ein2, ?_⟩
          have e83 : (jh_setI (jh_setI s3 210 (180 + wh + 8 * a + b) (nI 1)) 210 (180 + wh + 8 * b + a) (nI 1)).2.1 210 183 = nI (prs (Hx (qH Q)) (Hn (qH Q))) := (rI_ne (by omega)).trans ((rI_ne (by omega)).trans z3.1.2.2.2.1)
          rw [e83, nI_add, nI_add]
          have fin : ∀ x, x = nI (prs (Hx (qH Q)) (Hn (qH Q)) + if w = true then 1 else 0) → Ly (jh_setI (jh_setI (jh_setI s3 210 (180 + wh + 8 * a + b) (nI 1)) 210 (180 + wh + 8 * b + a) (nI 1)) 210 183 x) ∧ Fg PMr s (jh_setI (jh_setI (jh_setI s3 210 (180 + wh + 8 * a + b) (nI 1)) 210 (180 + wh + 8 * b + a) (nI 1)) 210 183 x) ∧ MH ts n R (jh_setI (jh_setI (jh_setI s3 210 (180 + wh + 8 * a + b) (nI 1)) 210 (180 + wh + 8 * b + a) (nI 1)) 210 183 x) := by
            intro x hx
            obtain ⟨y1, y2, y3⟩ := m_pr q3.1 hQ v2 u2 cab hbase cf hx z3
            refine ⟨y3, Fg_t (Fg_7m f1) (Fg_t (Fg_7m f2) (Fg_t (Fg_7m f3) (Fg_21 y2))), ?_⟩
            rw [← hR]
            exact ⟨mRd_21 y2 y3 q3, y1⟩
          by_cases c4 : wh = 104
          · rw [if_pos (by rw [c4])]
            exact (hg _).mp (fin _ (by cases w <;> simp at hwh <;> first | omega | rfl))
          · rw [if_neg (by rw [nI_eqN (by omega) (by omega)]; exact c4)]
            exact (hg _).mp (fin _ (by cases w <;> simp at hwh <;> first | omega | rfl))
    · have e' : psn ts Q (k + 2) = .inl x := e
      rw [e', if_neg (mFt_0 zt), if_neg (mFt_0 zt)]
      exact ⟨zt.1, Fg_t (Fg_7m f1) (Fg_t (Fg_7m f2) (Fg_7m ft)), zt⟩
  · rw [e, if_neg (mFt_le zt)]
    simp only [JJ2]
    have g : Fi P78 t (jh_setI t 204 7 (t.2.1 204 7 + nI 0)) := Fi_s (Fi_r _ _) (by unfold P78; omega)
    have zg : mFt x (jh_setI t 204 7 (t.2.1 204 7 + nI 0)) := ⟨Fi_ly g zt.1, (rI_ne (by omega)).trans zt.2.1, zt.2.2⟩
    show lt (jh_setI t 204 7 (t.2.1 204 7 + nI 0)) _
    generalize jh_setI t 204 7 (t.2.1 204 7 + nI 0) = u at g zg
    show WM q_Md_personHere [.ref 204] u _
    refine m_person_f zg ⟨zg.1, ?_⟩
    rw [if_neg (mFt_0 zg), if_neg (mFt_0 zg)]
    exact ⟨zg.1, Fg_t (Fg_7m f1) (Fg_t (Fg_7m ft) (Fg_7m (Fi_g g))), zg⟩
end MC4

/-! ===== reading: where both stand in the row of tokens ===== -/
section RD
variable {s t σ : JH} {ts : List Nat} {i c k n d f : Nat} {T : Tok} {P : Nat → Nat → Prop}
/-! the class -/
def cRd (ts : List Nat) (k : Nat) (σ : JH) : Prop := Ly σ ∧ Wd σ ∧ cTp ts σ ∧ cTk ts k σ ∧ σ.2.1 65 8 = nI 0
theorem cTo_g {q : Nat} (f : Fg P s t) (hP : ∀ j, ¬ P 65 j) (z : cTo T q s) : cTo T q t := by
  obtain ⟨h1, h2, h3, h4, h5, h6⟩ := z
  refine ⟨(f.2.1 _ _ (hP _)).trans h1, (f.2.1 _ _ (hP _)).trans h2, ?_, (f.2.2.1 _ _ (hP _)).trans h4, (f.2.1 _ _ (hP _)).trans h5, (f.2.1 _ _ (hP _)).trans h6⟩
  rw [← h3]
  show (t.2.2.2 65 4).getD 0 = (s.2.2.2 65 4).getD 0
  rw [f.2.2.2 65 4 (hP 4)]
theorem cRd_g (f : Fg P s t) (hl : Ly t) (hP : ∀ b j, b < 64 ∨ b = 65 ∨ b = 66 → ¬ P b j) (z : cRd ts k s) : cRd ts k t :=
  ⟨hl, Wd_g f (fun b j h => hP b j (Or.inl h)) z.2.1, cTp_g f (hP _ _ (by omega)) (fun j => hP _ _ (by omega)) z.2.2.1, cTo_g f (fun j => hP _ _ (by omega)) z.2.2.2.1, (f.2.1 _ _ (hP _ _ (by omega))).trans z.2.2.2.2⟩
theorem c_adv {K : JH → Prop} (q : cRd ts k σ) (ok : okTp ts) (hK : ∀ s, cRd ts (k + 1) s → Fg PT7 σ s → K s) : WM q_Tp_advance [.ref 65] σ (kV fun s => Ly s ∧ K s) := by
  obtain ⟨l, W, T, h, h8⟩ := q
  refine WM_V (c_advance l W T ok h) (fun s z => ?_)
  obtain ⟨l', f, h'⟩ := z
  exact ⟨l', hK s ⟨l', Wd_7 f W, cTp_7 f T, h', (f.2.1 65 8 (by unfold PT7; omega)).trans h8⟩ f⟩
theorem PT78 {b j : Nat} (h : PT7 b j) : PT8 b j := by unfold PT7 at h; unfold PT8; omega
theorem c_flt {K : Int32 → JH → Prop} (q : cRd ts k σ) (hK : ∀ s, Ly s → Fg PT8 σ s → s.2.1 65 8 = nI (flt f (tok ts k)) → K (nI 0) s) : WM q_Tp_faulty [.ref 65, .int (nI f)] σ (kI K) := by
  have g : Fi PT8 σ (jh_setI σ 65 8 (nI (flt f (tok ts k)))) := Fi_s (Fi_r _ _) (by unfold PT8; omega)
  exact c_faulty q.1 q.2.2.2.1 (hK _ (Fi_ly g q.1) (Fi_g g) rI_eq)
theorem c_pass {K : Int32 → JH → Prop} (q : cRd ts k σ) (ok : okTp ts) (hd : 1 ≤ d) (hd2 : d < 127) (h1 : isS d (tok ts k) = true → ∀ s, cRd ts (k + 1) s → Fg PT8 σ s → K (nI 1) s) (h0 : isS d (tok ts k) = false → ∀ s, Ly s → Fg PT8 σ s → s.2.1 65 8 = nI (flt 1 (tok ts k)) → K (nI 0) s) : WM q_Tp_pass [.ref 65, .int (nI d)] σ (kI K) := by
  refine w_Tp_pass _ q.1 ?_
  have e7 := q.2.2.2.1.2.2.2.2.2
  have es := sgn_is (T := tok ts k) (tok_ok ok k).1 hd hd2
  by_cases c : isS d (tok ts k) = true
  · rw [if_pos (by rw [e7, es]; exact c)]
    exact c_adv q ok (fun s z f => h1 c s z (Fg_m f (fun b j => PT78)))
  · rw [if_neg (by rw [e7, es]; exact c)]
    rw [Bool.not_eq_true] at c
    exact c_flt q (fun s l f e => ⟨l, Or.inl rfl, h0 c s l f e⟩)
theorem cRd_sg (q : cRd ts k σ) (ok : okTp ts) (hd : 1 ≤ d) (hd2 : d < 127) : (σ.2.1 65 7 = nI d) = (isS d (tok ts k) = true) := by rw [q.2.2.2.1.2.2.2.2.2]; exact sgn_is (tok_ok ok k).1 hd hd2
theorem cRd_w (q : cRd ts k σ) {j : Nat} (hj : j < 21) : (rf σ 65 4 = j) = (isW j (tok ts k) = true) := by rw [q.2.2.2.1.2.2.1]; exact wo_is hj
theorem cRd_n (q : cRd ts k σ) (ok : okTp ts) : q_Tp_isName [.ref 65] σ = some (some (.int (bI (nam (tok ts k)))), σ) := c_isName q.1 q.2.1 (tok_ok ok k).1 q.2.2.2.1
/-- a word's number in the switch's table -/
def swx (T : Tok) : Nat := (swm[wo T]?).getD 0
theorem c_swx (q : cRd ts k σ) : q_En_ordinal [.ref (rf σ 65 4)] σ = some (some (.int (nI (wo (tok ts k)))), σ) ∧ inb (nI (wo (tok ts k))) 22 ∧ σ.2.1 22 (cl (nI (wo (tok ts k)))) = nI (swx (tok ts k)) := by
  have h := wo_lt (T := tok ts k)
  have h' : wo (tok ts k) < swm.length := h
  refine ⟨?_, by rw [inb_nI (by omega) (by omega)]; exact h, ?_⟩
  · rw [q.2.2.2.1.2.2.1]
    exact WE_o (w_En_ordinal _ q.1 h (q.2.1.2.2.1 _ h))
  · rw [cl_nI (by omega)]
    unfold swx
    rw [List.getElem?_eq_getElem h']
    exact q.2.1.2.2.2.2.1 _ _ (List.getElem?_eq_getElem h')
/-! the model -/
def mWd (σ : JH) : Prop := ∀ j w, wdl[j]? = some w → σ.2.2.1 209 j = lN (wrd 37 w)
def mRd (ts : List Nat) (n k : Nat) (σ : JH) : Prop := Ly σ ∧ (mTs ts n σ ∧ mWd σ) ∧ σ.2.1 204 7 = nI k ∧ σ.2.1 204 8 = nI 0 ∧ k ≤ n
/-- a fault was found -/
def mFt (e : Nat) (σ : JH) : Prop := Ly σ ∧ σ.2.1 204 8 = nI e ∧ 1 ≤ e ∧ e < 20000
theorem mTo_g {j : Nat} (f : Fg P s t) (hP : ∀ b j, 206 ≤ b → b ≤ 209 → ¬ P b j) (z : mTo T j s) : mTo T j t := by
  obtain ⟨h1, h2, h3, h4, h5⟩ := z
  exact ⟨(f.2.1 _ _ (hP _ _ (by omega) (by omega))).trans h1, (f.2.1 _ _ (hP _ _ (by omega) (by omega))).trans h2, fun z => (f.2.2.1 _ _ (hP _ _ (by omega) (by omega))).trans (h3 z), fun z => (f.2.2.1 _ _ (hP _ _ (by omega) (by omega))).trans (h4 z), fun z => (f.2.2.1 _ _ (hP _ _ (by omega) (by omega))).trans (h5 z)⟩
theorem mSt_g (f : Fg P s t) (hP : ∀ b j, 206 ≤ b → b ≤ 209 → ¬ P b j) (z : mTs ts n s ∧ mWd s) : mTs ts n t ∧ mWd t :=
  ⟨⟨z.1.1, z.1.2.1, fun j hj => mTo_g f hP (z.1.2.2 j hj)⟩, fun j w e => (f.2.2.1 _ _ (hP _ _ (by omega) (by omega))).trans (z.2 j w e)⟩
theorem mRd_at {k' : Nat} (f : Fg P s t) (hl : Ly t) (hP : ∀ b j, 206 ≤ b → b ≤ 209 → ¬ P b j) (z : mRd ts n k s) (h7 : t.2.1 204 7 = nI k') (h8 : t.2.1 204 8 = nI 0) (hk : k' ≤ n) : mRd ts n k' t := ⟨hl, mSt_g f hP z.2.1, h7, h8, hk⟩
theorem mRd_g (f : Fg P s t) (hl : Ly t) (hP : ∀ b j, (206 ≤ b ∧ b ≤ 209) ∨ (b = 204 ∧ (j = 7 ∨ j = 8)) → ¬ P b j) (z : mRd ts n k s) : mRd ts n k t := mRd_at f hl (fun b j h1 h2 => hP b j (Or.inl ⟨h1, h2⟩)) z ((f.2.1 _ _ (hP _ _ (by omega))).trans z.2.2.1) ((f.2.1 _ _ (hP _ _ (by omega))).trans z.2.2.2.1) z.2.2.2.2
theorem mRd_in (q : mRd ts n k s) : inb (s.2.1 204 7) 1002 ∧ cl (s.2.1 204 7) = k ∧ mTo (tok ts k) k s ∧ k ≤ 1000 := by
  obtain ⟨l, ⟨⟨a, b, c⟩, w⟩, h7, h8, hk⟩ := q
  rw [h7]
  exact ⟨by rw [inb_nI (by omega) (by omega)]; omega, cl_nI (by omega), c k hk, by omega⟩
/-- behind a token that isn't the end there is another -/
theorem mRd_lt (q : mRd ts n k s) (h : Tk (tok ts k) ≠ 0) : k + 1 ≤ n := by
  obtain ⟨l, ⟨⟨a, b, c⟩, w⟩, h7, h8, hk⟩ := q
  rcases Nat.lt_or_eq_of_le hk with h1 | h1
  · omega
  · rw [h1] at h; exact absurd b h
theorem isS_k {d : Nat} (h : isS d T = true) : Tk T ≠ 0 := by unfold isS at h; simp at h; omega
theorem isW_k {d : Nat} (h : isW d T = true) : Tk T ≠ 0 := by unfold isW at h; simp at h; omega
theorem nam_k (h : nam T = true) : Tk T ≠ 0 := by unfold nam at h; simp at h; omega
theorem m_isSign (q : mRd ts n k s) (ok : okTp ts) (hd : d < 127) : q_Md_isSign [.ref 204, .int (nI d)] s = some (some (.int (bI (isS d (tok ts k)))), s) := by
  obtain ⟨hin, hcl, ⟨a1, a2, a3, a4, a5⟩, hk⟩ := mRd_in q
  have ok1 := (tok_ok ok k).1
  refine WE_o (w_Md_isSign _ q.1 ?_)
  rw [if_pos (by rw [q.2.2.2.1]; decide), hcl]
  refine ⟨hin, ?_⟩
  have h4 := ok1.2.2.2.2.2.2
  unfold isS
  by_cases c : Tk (tok ts k) = 3
  · rw [if_pos (by rw [a1, c]), a5 c, nI_l (by omega)]
    refine ⟨hin, ?_⟩
    have hv := (ok1.2.2.2.2.2.1 c).1
    rw [decide_eq_true c]
    by_cases e : Tv (tok ts k) = d
    · rw [if_pos (by rw [lg_cmp_eq, e]), decide_eq_true e]; rfl
    · rw [if_neg (by rw [lg_cmp_eq, lN_inj (by omega) (by omega)]; exact e), decide_eq_false e]; rfl
  · rw [if_neg (by rw [a1, nI_eqN (by omega) (by omega)]; exact c), decide_eq_false c]; rfl
theorem m_isWord (q : mRd ts n k s) (ok : okTp ts) {j : Nat} (hj : j < 21) : q_Md_isWord [.ref 204, .int (nI j)] s = some (some (.int (bI (isW j (tok ts k)))), s) := by
  obtain ⟨hin, hcl, ⟨a1, a2, a3, a4, a5⟩, hk⟩ := mRd_in q
  have ok1 := (tok_ok ok k).1
  refine WE_o (w_Md_isWord _ q.1 ?_)
  rw [if_pos (by rw [q.2.2.2.1]; decide), hcl]
  refine ⟨hin, ?_⟩
  have h4 := ok1.2.2.2.2.2.2
  unfold isW
  by_cases c : Tk (tok ts k) = 1
  · obtain ⟨w, ew, w1, w2⟩ := wdl_get hj
    rw [if_pos (by rw [a1, c]), a3 c, cl_nI (by omega), q.2.1.2 j w ew, decide_eq_true c]
    refine ⟨hin, by rw [inb_nI (by omega) (by omega)]; exact hj, ?_⟩
    by_cases e : Tl (tok ts k) = w
    · rw [if_pos (by rw [lg_cmp_eq, e]), decide_eq_true ((wix_iff hj).mp (by rw [ew, e]))]; rfl
    · rw [if_neg (by rw [lg_cmp_eq, wrd_eq37 ok1.1 w1 ok1.2.1 w2]; exact e), decide_eq_false (fun h => e (by have := (wix_iff hj).mpr h; rw [ew] at this; exact (Option.some.inj this).symm))]; rfl
  · rw [if_neg (by rw [a1, nI_eqN (by omega) (by omega)]; exact c), decide_eq_false c]; rfl
/-- which of the words from a on the token is -/
def whr (a m : Nat) (T : Tok) : Int32 := if Tk T = 1 ∧ a ≤ wix (Tl T) ∧ wix (Tl T) < a + m then nI (wix (Tl T) - a) else mI 1
theorem m_wordHere (q : mRd ts n k s) (ok : okTp ts) {a m : Nat} (hm : a + m ≤ 21) : q_Md_wordHere [.ref 204, .int (nI a), .int (nI m)] s = some (some (.int (whr a m (tok ts k))), s) := by
  refine WE_o (w_Md_wordHere _ _ q.1 ?_)
  refine Lp2_inv (I := fun r v1 v2 => ∃ i, i ≤ m ∧ r = m - i ∧ v2 = nI i ∧ v1 = whr a i (tok ts k)) ?_ (m := m) ⟨0, Nat.zero_le _, rfl, rfl, by unfold whr; rw [if_neg (by omega)]⟩
  rintro r v1 v2 ⟨i, hi, rfl, rfl, rfl⟩ X hX
  by_cases c : m ≤ i
  · rw [if_pos (by rw [nI_leN (by omega) (by omega)]; exact c), show m = i by omega]
  · rw [if_neg (by rw [nI_leN (by omega) (by omega)]; exact c), nI_add, nI_add]
    refine WE_i (m_isWord q ok (by omega)) ?_
    by_cases w : isW (a + i) (tok ts k) = true
    · rw [w, if_neg (by decide)]
      unfold isW at w
      simp at w
      exact hX (m - (i + 1)) _ _ (by omega) ⟨i + 1, by omega, rfl, rfl, by unfold whr; rw [if_pos (by omega), w.2, Nat.add_sub_cancel_left]⟩
    · rw [Bool.not_eq_true] at w
      rw [w, if_pos (by decide)]
      refine hX (m - (i + 1)) _ _ (by omega) ⟨i + 1, by omega, rfl, rfl, ?_⟩
      unfold isW at w
      simp at w
      unfold whr
      by_cases e : Tk (tok ts k) = 1 ∧ a ≤ wix (Tl (tok ts k)) ∧ wix (Tl (tok ts k)) < a + i
      · rw [if_pos e, if_pos (by omega)]
      · rw [if_neg e, if_neg (fun z => e ⟨z.1, z.2.1, by have := w z.1; omega⟩)]
theorem whr_neg {a m : Nat} (hm : a + m ≤ 21) : (0 ≤ whr a m T) = (Tk T = 1 ∧ a ≤ wix (Tl T) ∧ wix (Tl T) < a + m) := by
  unfold whr
  have := wix_le (Tl T)
  by_cases c : Tk T = 1 ∧ a ≤ wix (Tl T) ∧ wix (Tl T) < a + m
  · rw [if_pos c, nI_0le (by omega), eq_iff_iff]
    exact ⟨fun _ => c, fun _ => trivial⟩
  · rw [if_neg c, eq_iff_iff]
    exact ⟨fun h => absurd h (by decide), fun h => absurd h c⟩
theorem m_isName (q : mRd ts n k s) (ok : okTp ts) : q_Md_isName [.ref 204] s = some (some (.int (bI (nam (tok ts k)))), s) := by
  obtain ⟨hin, hcl, ⟨a1, a2, a3, a4, a5⟩, hk⟩ := mRd_in q
  have h4 := (tok_ok ok k).1.2.2.2.2.2.2
  refine WE_o (w_Md_isName q.1 ?_)
  rw [if_pos (by rw [q.2.2.2.1]; decide), hcl]
  refine ⟨hin, ?_⟩
  unfold nam
  by_cases c : Tk (tok ts k) = 1
  · rw [if_pos (by rw [a1, c]), decide_eq_true c]
    refine WE_i (m_wordHere q ok (by omega)) ?_
    have e := whr_neg (T := tok ts k) (a := 0) (m := 18) (by omega)
    by_cases d : 18 ≤ wix (Tl (tok ts k))
    · rw [if_neg (by rw [e]; omega), decide_eq_true d]; rfl
    · rw [if_pos (by rw [e]; exact ⟨c, by omega, by omega⟩), decide_eq_false d]; rfl
  · rw [if_neg (by rw [a1, nI_eqN (by omega) (by omega)]; exact c), decide_eq_false c]; rfl
def P78 (b j : Nat) : Prop := b = 204 ∧ (j = 7 ∨ j = 8)
theorem m_wrong {K : JH → Prop} (q : mRd ts n k s) (ok : okTp ts) (hf : 1 ≤ f ∧ f ≤ 5) (hK : ∀ t, mFt (flt f (tok ts k)) t → Fg P78 s t → K t) : WM q_Md_wrong [.ref 204, .int (nI f)] s (kV K) := by
  obtain ⟨hin, hcl, ⟨a1, a2, a3, a4, a5⟩, hk⟩ := mRd_in q
  refine w_Md_wrong _ q.1 ?_
  rw [if_pos (by rw [q.2.2.2.1]; decide), hcl, a2, nI_mulN, nI_add]
  refine ⟨hin, ?_⟩
  have g : Fi P78 s (jh_setI s 204 8 (nI (f + 16 * Tp (tok ts k)))) := Fi_s (Fi_r _ _) (by unfold P78; omega)
  exact hK _ ⟨Fi_ly g q.1, rI_eq, flt_pos hf.1, flt_lt ok hf.2⟩ (Fi_g g)
theorem mFt_0 {e : Nat} (q : mFt e s) : ¬ s.2.1 204 8 = 0 := by
  obtain ⟨l, h, h1, h2⟩ := q
  rw [h, nI_eq0 (by omega)]
  omega
theorem mFt_le {e : Nat} (q : mFt e s) : ¬ s.2.1 204 8 ≤ 0 := by
  obtain ⟨l, h, h1, h2⟩ := q
  rw [h, nI_le0 (by omega)]
  omega
theorem mRd_0 (q : mRd ts n k s) : s.2.1 204 8 = 0 := q.2.2.2.1
theorem mRd_le (q : mRd ts n k s) : s.2.1 204 8 ≤ 0 := by rw [q.2.2.2.1]; decide
theorem m_wrong_f {e : Nat} {x : Int32} {K : JH → Prop} (q : mFt e s) (hK : K s) : WM q_Md_wrong [.ref 204, .int x] s (kV K) := by
  refine w_Md_wrong _ q.1 ?_
  rw [if_neg (mFt_0 q)]
  exact hK
theorem m_isSign_f {e : Nat} {x : Int32} (q : mFt e s) : q_Md_isSign [.ref 204, .int x] s = some (some (.int (nI 0)), s) := by
  refine WE_o (w_Md_isSign _ q.1 ?_)
  rw [if_neg (mFt_0 q)]
theorem m_isWord_f {e : Nat} {x : Int32} (q : mFt e s) : q_Md_isWord [.ref 204, .int x] s = some (some (.int (nI 0)), s) := by
  refine WE_o (w_Md_isWord _ q.1 ?_)
  rw [if_neg (mFt_0 q)]
theorem m_takeSign_f {e : Nat} {x : Int32} {K : JH → Prop} (q : mFt e s) (hK : K s) : WM q_Md_takeSign [.ref 204, .int x] s (kV fun s => Ly s ∧ K s) := by
  refine w_Md_takeSign _ q.1 (WE_i (m_isSign_f q) ?_)
  rw [if_pos (by decide)]
  exact m_wrong_f q ⟨q.1, q.1, hK⟩
theorem m_hasSign_f {e : Nat} {x : Int32} {K : Int32 → JH → Prop} (q : mFt e s) (hK : ∀ t, mFt e t → Fg P78 s t → K (nI 0) t) : WM q_Md_hasSign [.ref 204, .int x] s (kI fun x s => Ly s ∧ K x s) := by
  refine w_Md_hasSign _ q.1 (WE_i (m_isSign_f q) ?_)
  rw [if_pos (by decide)]
  have g : Fi P78 s (jh_setI s 204 7 (s.2.1 204 7 + nI 0)) := Fi_s (Fi_r _ _) (by unfold P78; omega)
  exact ⟨Or.inl rfl, Fi_ly g q.1, hK _ ⟨Fi_ly g q.1, (rI_ne (by omega)).trans q.2.1, q.2.2⟩ (Fi_g g)⟩
theorem m_hasWord_f {e : Nat} {x : Int32} {K : Int32 → JH → Prop} (q : mFt e s) (hK : ∀ t, mFt e t → Fg P78 s t → K (nI 0) t) : WM q_Md_hasWord [.ref 204, .int x] s (kI fun x s => Ly s ∧ K x s) := by
  refine w_Md_hasWord _ q.1 (WE_i (m_isWord_f q) ?_)
  rw [if_pos (by decide)]
  have g : Fi P78 s (jh_setI s 204 7 (s.2.1 204 7 + nI 0)) := Fi_s (Fi_r _ _) (by unfold P78; omega)
  exact ⟨Or.inl rfl, Fi_ly g q.1, hK _ ⟨Fi_ly g q.1, (rI_ne (by omega)).trans q.2.1, q.2.2⟩ (Fi_g g)⟩
/-- one token on -/
theorem m_nxt (q : mRd ts n k s) (h : Tk (tok ts k) ≠ 0) : mRd ts n (k + 1) (jh_setI s 204 7 (s.2.1 204 7 + nI 1)) ∧ Fg P78 s (jh_setI s 204 7 (s.2.1 204 7 + nI 1)) := by
  have g : Fi P78 s (jh_setI s 204 7 (s.2.1 204 7 + nI 1)) := Fi_s (Fi_r _ _) (by unfold P78; omega)
  exact ⟨mRd_at (Fi_g g) (Fi_ly g q.1) (fun b j h1 h2 => by unfold P78; omega) q (by rw [rI_eq, q.2.2.1, nI_add]) ((rI_ne (by omega)).trans q.2.2.2.1) (mRd_lt q h), Fi_g g⟩
theorem m_same (q : mRd ts n k s) : mRd ts n k (jh_setI s 204 7 (s.2.1 204 7 + nI 0)) ∧ Fg P78 s (jh_setI s 204 7 (s.2.1 204 7 + nI 0)) := by
  have g : Fi P78 s (jh_setI s 204 7 (s.2.1 204 7 + nI 0)) := Fi_s (Fi_r _ _) (by unfold P78; omega)
  exact ⟨mRd_at (Fi_g g) (Fi_ly g q.1) (fun b j h1 h2 => by unfold P78; omega) q (by rw [rI_eq, q.2.2.1, nI_add]; rfl) ((rI_ne (by omega)).trans q.2.2.2.1) q.2.2.2.2, Fi_g g⟩
theorem m_takeSign {K : JH → Prop} (q : mRd ts n k s) (ok : okTp ts) (hd : d < 127) (h1 : isS d (tok ts k) = true → ∀ t, mRd ts n (k + 1) t → Fg P78 s t → K t) (h0 : isS d (tok ts k) = false → ∀ t, mFt (flt 1 (tok ts k)) t → Fg P78 s t → K t) : WM q_Md_takeSign [.ref 204, .int (nI d)] s (kV fun s => Ly s ∧ K s) := by
  refine w_Md_takeSign _ q.1 (WE_i (m_isSign q ok hd) ?_)
  by_cases c : isS d (tok ts k) = true
  · rw [c, if_neg (by decide)]
    have z := m_nxt q (isS_k c)
    exact ⟨z.1.1, h1 c _ z.1 z.2⟩
  · rw [Bool.not_eq_true] at c
    rw [c, if_pos (by decide)]
    exact m_wrong q ok (by omega) (fun t z f => ⟨z.1, z.1, h0 c t z f⟩)
theorem m_hasSign {K : Int32 → JH → Prop} (q : mRd ts n k s) (ok : okTp ts) (hd : d < 127) (h1 : isS d (tok ts k) = true → ∀ t, mRd ts n (k + 1) t → Fg P78 s t → K (nI 1) t) (h0 : isS d (tok ts k) = false → ∀ t, mRd ts n k t → Fg P78 s t → K (nI 0) t) : WM q_Md_hasSign [.ref 204, .int (nI d)] s (kI fun x s => Ly s ∧ K x s) := by
  refine w_Md_hasSign _ q.1 (WE_i (m_isSign q ok hd) ?_)
  by_cases c : isS d (tok ts k) = true
  · rw [c, if_neg (by decide)]
    have z := m_nxt q (isS_k c)
    exact ⟨Or.inr rfl, z.1.1, h1 c _ z.1 z.2⟩
  · rw [Bool.not_eq_true] at c
    rw [c, if_pos (by decide)]
    have z := m_same q
    exact ⟨Or.inl rfl, z.1.1, h0 c _ z.1 z.2⟩
theorem m_hasWord {j : Nat} {K : Int32 → JH → Prop} (q : mRd ts n k s) (ok : okTp ts) (hd : j < 21) (h1 : isW j (tok ts k) = true → ∀ t, mRd ts n (k + 1) t → Fg P78 s t → K (nI 1) t) (h0 : isW j (tok ts k) = false → ∀ t, mRd ts n k t → Fg P78 s t → K (nI 0) t) : WM q_Md_hasWord [.ref 204, .int (nI j)] s (kI fun x s => Ly s ∧ K x s) := by
  refine w_Md_hasWord _ q.1 (WE_i (m_isWord q ok hd) ?_)
  by_cases c : isW j (tok ts k) = true
  · rw [c, if_neg (by decide)]
    have z := m_nxt q (isW_k c)
    exact ⟨Or.inr rfl, z.1.1, h1 c _ z.1 z.2⟩
  · rw [Bool.not_eq_true] at c
    rw [c, if_pos (by decide)]
    have z := m_same q
    exact ⟨Or.inl rfl, z.1.1, h0 c _ z.1 z.2⟩
end RD

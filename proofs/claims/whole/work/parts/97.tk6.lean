section TK6
variable {s t σ : JH} {ts : List Nat} {i c k p : Nat} {T : Tok}
theorem rI_J {σ : JH} {a k : Nat} {x : Int32} : (jh_setI σ a k x).2.2.1 = σ.2.2.1 := rfl
theorem isSp_no {c : Nat} (h1 : ¬ c = 10) (h2 : ¬ c = 32) : isSp c = false := by unfold isSp; simp [h1, h2]
set_option maxHeartbeats 1000000 in
theorem c_advance0 (hl : Ly σ) (W : Wd σ) (hT : cTp ts σ) (ok : okTp ts) (h2 : σ.2.1 65 2 = nI p) (hp : p ≤ ts.length) : WM q_Tp_advance [.ref 65] σ (kV fun s => Ly s ∧ Fg PT7 σ s ∧ cTo (nxt ts p).1 (nxt ts p).2 s) := by
  have ok1 := ok.1
  refine w_Tp_advance hl ?_
  simp only [JJ1]
  have hsk := skp_le (ts := ts) hp
  have en : nxt ts p = tkn ts (skp ts p) := rfl
  rw [en]
  generalize hi : skp ts p = i at hsk
  have fin : ∀ s1, Ly s1 → Fi (fun b j => b = 65 ∧ j = 2) σ s1 → s1.2.1 65 2 = nI i → lt (jh_setI s1 65 3 (s1.2.1 65 2)) (fun s3 => lt (jh_setR s3 65 4 (some 21)) (fun s4 => lt (jh_setJ s4 65 5 0) (fun s5 => lt (jh_setI s5 65 6 (mI 1)) (fun s6 => lt (jh_setI s6 65 7 (nI 0)) (fun s7 => (if s7.2.1 65 2 < s7.2.1 65 1 then WE q_Tp_isLetter [.ref 65, .int (s7.2.1 65 2)] s7 (fun x8 => (if x8 = 0 then WE q_Tp_isDigit [.ref 65, .int (s7.2.1 65 2)] s7 (fun x9 => (if x9 = 0 then WM q_Tp_takeSign [.ref 65] s7 (kV fun s10 => Ly s10 ∧ (fun s => Ly s ∧ Fg PT7 σ s ∧ cTo (tkn ts i).1 (tkn ts i).2 s) s10) else WM q_Tp_takeNumber [.ref 65] s7 (kV fun s11 => Ly s11 ∧ (fun s => Ly s ∧ Fg PT7 σ s ∧ cTo (tkn ts i).1 (tkn ts i).2 s) s11))) else WM q_Tp_takeWord [.ref 65] s7 (kV fun s12 => Ly s12 ∧ (fun s => Ly s ∧ Fg PT7 σ s ∧ cTo (tkn ts i).1 (tkn ts i).2 s) s12))) else (fun s => Ly s ∧ Fg PT7 σ s ∧ cTo (tkn ts i).1 (tkn ts i).2 s) s7)))))) := by
    intro s1 l1 f1 e1
    simp only [lt]
    have l7 : Ly (jh_setI (jh_setI (jh_setJ (jh_setR (jh_setI s1 65 3 (s1.2.1 65 2)) 65 4 (some 21)) 65 5 0) 65 6 (mI 1)) 65 7 (nI 0)) := ly_setI (ly_setI (ly_setJ (ly_put_65_4 (ly_setI l1) (by omega))))
    have f7 : Fg PT7 σ (jh_setI (jh_setI (jh_setJ (jh_setR (jh_setI s1 65 3 (s1.2.1 65 2)) 65 4 (some 21)) 65 5 0) 65 6 (mI 1)) 65 7 (nI 0)) := Fg_sI (Fg_sI (Fg_sJ (Fg_sR (Fg_sI (Fi_g (Fi_m f1 (fun b j h => by unfold PT7; omega))) (by unfold PT7; omega)) (by unfold PT7; omega)) (by unfold PT7; omega)) (by unfold PT7; omega)) (by unfold PT7; omega)
    have e2 : (jh_setI (jh_setI (jh_setJ (jh_setR (jh_setI s1 65 3 (s1.2.1 65 2)) 65 4 (some 21)) 65 5 0) 65 6 (mI 1)) 65 7 (nI 0)).2.1 65 2 = nI i := (rI_ne (by omega)).trans ((rI_ne (by omega)).trans ((rI_ne (by omega) : (jh_setI s1 65 3 (s1.2.1 65 2)).2.1 65 2 = s1.2.1 65 2).trans e1))
    have e3 : (jh_setI (jh_setI (jh_setJ (jh_setR (jh_setI s1 65 3 (s1.2.1 65 2)) 65 4 (some 21)) 65 5 0) 65 6 (mI 1)) 65 7 (nI 0)).2.1 65 3 = nI i := (rI_ne (by omega)).trans ((rI_ne (by omega)).trans ((rI_eq : (jh_setI s1 65 3 (s1.2.1 65 2)).2.1 65 3 = s1.2.1 65 2).trans e1))
    have e4 : rf (jh_setI (jh_setI (jh_setJ (jh_setR (jh_setI s1 65 3 (s1.2.1 65 2)) 65 4 (some 21)) 65 5 0) 65 6 (mI 1)) 65 7 (nI 0)) 65 4 = 21 := by
      show rf (jh_setR (jh_setI s1 65 3 (s1.2.1 65 2)) 65 4 (some 21)) 65 4 = 21
      rw [rR_f, if_pos ⟨rfl, rfl⟩]
    have e5 : (jh_setI (jh_setI (jh_setJ (jh_setR (jh_setI s1 65 3 (s1.2.1 65 2)) 65 4 (some 21)) 65 5 0) 65 6 (mI 1)) 65 7 (nI 0)).2.2.1 65 5 = 0 := by
      show (jh_setJ (jh_setR (jh_setI s1 65 3 (s1.2.1 65 2)) 65 4 (some 21)) 65 5 0).2.2.1 65 5 = 0
      exact rJ_eq
    have e6 : (jh_setI (jh_setI (jh_setJ (jh_setR (jh_setI s1 65 3 (s1.2.1 65 2)) 65 4 (some 21)) 65 5 0) 65 6 (mI 1)) 65 7 (nI 0)).2.1 65 6 = mI 1 := (rI_ne (by omega)).trans rI_eq
    have e7 : (jh_setI (jh_setI (jh_setJ (jh_setR (jh_setI s1 65 3 (s1.2.1 65 2)) 65 4 (some 21)) 65 5 0) 65 6 (mI 1)) 65 7 (nI 0)).2.1 65 7 = nI 0 := rI_eq
    generalize jh_setI (jh_setI (jh_setJ (jh_setR (jh_setI s1 65 3 (s1.2.1 65 2)) 65 4 (some 21)) 65 5 0) 65 6 (mI 1)) 65 7 (nI 0) = s7 at l7 f7 e2 e3 e4 e5 e6 e7 ⊢
    have T7 := cTp_7 f7 hT
    have W7 := Wd_7 f7 W
    cases e : ts[i]? with
    | none =>
      have hn := List.getElem?_eq_none_iff.mp e
      rw [if_neg (by rw [e2, T7.1, nI_ltN (by omega) (by omega)]; omega), tkn_none e]
      exact ⟨l7, f7, e2, e3, e4, e5, e6, e7⟩
    | some c =>
      have hn := (List.getElem?_eq_some_iff.mp e).1
      obtain ⟨hi9, hc⟩ := tp_i ok e
      rw [if_pos (by rw [e2, T7.1, nI_ltN (by omega) (by omega)]; omega), e2]
      refine WE_i (c_isLetter l7 T7 ok e) ?_
      rw [tkn_some e]
      by_cases c1 : isLt c = true
      · rw [if_pos c1, c1, if_neg (by decide)]
        refine c_takeWord l7 W7 T7 ok e2 e3 e c1 (fun s l f g2 gj g4 g5 => ⟨l, l, Fg_t f7 f, ?_⟩)
        by_cases c8 : spn isLt ts i ≤ 8
        · rw [if_pos c8] at g4 g5 ⊢
          exact ⟨g2, (gj 3 (by omega)).trans e3, g4, g5, (gj 6 (by omega)).trans e6, (gj 7 (by omega)).trans e7⟩
        · rw [if_neg c8] at g4 g5 ⊢
          exact ⟨g2, (gj 3 (by omega)).trans e3, g4.trans e4, g5.trans e5, (gj 6 (by omega)).trans e6, (gj 7 (by omega)).trans e7⟩
      · rw [if_neg c1]
        rw [Bool.not_eq_true] at c1
        rw [c1, if_pos (by decide)]
        refine WE_i (c_isDigit l7 T7 ok e) ?_
        by_cases c2 : isDg c = true
        · rw [if_pos c2, c2, if_neg (by decide)]
          refine c_takeNumber l7 T7 ok e2 e3 (by omega) (fun s l f g2 gj g4 g5 => ⟨l, l, Fg_t f7 f, ?_⟩)
          have g4r : rf s 65 4 = rf s7 65 4 := by unfold rf; rw [g4]
          have g4l : s.2.2.1 65 5 = s7.2.2.1 65 5 := by rw [g4]
          by_cases c8 : spn isDg ts i ≤ 4
          · rw [if_pos c8] at g5 ⊢
            exact ⟨g2, (gj 3 (by omega) (by omega)).trans e3, g4r.trans e4, g4l.trans e5, g5, (gj 7 (by omega) (by omega)).trans e7⟩
          · rw [if_neg c8] at g5 ⊢
            exact ⟨g2, (gj 3 (by omega) (by omega)).trans e3, g4r.trans e4, g4l.trans e5, g5.trans e6, (gj 7 (by omega) (by omega)).trans e7⟩
        · rw [if_neg c2]
          rw [Bool.not_eq_true] at c2
          rw [c2, if_pos (by decide)]
          refine c_takeSign l7 W7 T7 ok e2 e (fun s l f g2 gj g4 g5 => ⟨l, l, Fg_t f7 f, ?_⟩)
          have g4r : rf s 65 4 = rf s7 65 4 := by unfold rf; rw [g4]
          have g4l : s.2.2.1 65 5 = s7.2.2.1 65 5 := by rw [g4]
          by_cases c8 : isSn c = true
          · rw [if_pos c8] at g5 ⊢
            exact ⟨g2, (gj 3 (by omega) (by omega)).trans e3, g4r.trans e4, g4l.trans e5, (gj 6 (by omega) (by omega)).trans e6, g5⟩
          · rw [if_neg c8] at g5 ⊢
            exact ⟨g2, (gj 3 (by omega) (by omega)).trans e3, g4r.trans e4, g4l.trans e5, (gj 6 (by omega) (by omega)).trans e6, g5.trans e7⟩
  refine Lp1_inv (I := fun m s => ∃ j, j ≤ ts.length ∧ m = ts.length - j ∧ s.2.1 65 2 = nI j ∧ Ly s ∧ Fi (fun b j => b = 65 ∧ j = 2) σ s ∧ skp ts j = i) ?_ (m := ts.length - p) ⟨p, hp, rfl, h2, hl, Fi_r _ _, hi⟩
  rintro m s ⟨j, hj, rfl, e2, l, f, hs⟩ X hX
  have T' := cTp_2 f hT
  refine ⟨l, ?_⟩
  by_cases cj : ts.length ≤ j
  · rw [if_pos (by rw [T'.1, e2, nI_leN (by omega) (by omega)]; exact cj)]
    unfold skp at hs
    rw [spn_end cj] at hs
    exact fin s l f (by rw [e2, ← hs]; rfl)
  · rw [if_neg (by rw [T'.1, e2, nI_leN (by omega) (by omega)]; exact cj)]
    have ed : ts[j]? = some ts[j] := List.getElem?_eq_getElem (by omega)
    generalize ts[j] = d at ed
    obtain ⟨hj9, hd⟩ := tp_i ok ed
    have hin : inb (s.2.1 65 2) 1000 := by rw [e2, inb_nI (by omega) (by omega)]; exact hj9
    have ec : s.2.1 66 (cl (s.2.1 65 2)) = nI d := by rw [e2, cl_nI (by omega)]; exact T'.2 j d ed
    refine ⟨hin, ?_⟩
    have step : isSp d = true → X (jh_setI s 65 2 (s.2.1 65 2 + nI 1)) := fun q => by
      have f2 : Fi (fun b j => b = 65 ∧ j = 2) σ (jh_setI s 65 2 (s.2.1 65 2 + nI 1)) := Fi_s f ⟨rfl, rfl⟩
      refine hX (ts.length - (j + 1)) _ (by omega) ⟨j + 1, by omega, rfl, by rw [rI_eq, e2, nI_add], Fi_ly f2 hl, f2, ?_⟩
      rw [← hs]
      unfold skp
      rw [spn_yes ed q]
      omega
    rw [ec]
    simp only [lt]
    by_cases c1 : d = 10
    · rw [if_pos (by rw [c1])]
      exact step (by rw [c1]; rfl)
    · rw [if_neg (by rw [nI_eqN (by omega) (by omega)]; exact c1)]
      refine ⟨hin, ?_⟩
      by_cases c2 : d = 32
      · rw [if_pos (by rw [c2])]
        exact step (by rw [c2]; rfl)
      · rw [if_neg (by rw [nI_eqN (by omega) (by omega)]; exact c2)]
        unfold skp at hs
        rw [spn_no ed (isSp_no c1 c2)] at hs
        exact fin s l f (by rw [e2, ← hs]; rfl)
def cTk (ts : List Nat) (k : Nat) (σ : JH) : Prop := cTo (tok ts k) (psq ts (k + 1)) σ
theorem c_advance (hl : Ly σ) (W : Wd σ) (hT : cTp ts σ) (ok : okTp ts) (h : cTk ts k σ) : WM q_Tp_advance [.ref 65] σ (kV fun s => Ly s ∧ Fg PT7 σ s ∧ cTk ts (k + 1) s) := c_advance0 hl W hT ok h.1 (psq_le ok (k + 1))
def PT8 (b j : Nat) : Prop := b = 65 ∧ 2 ≤ j
theorem c_rewind (hl : Ly σ) (W : Wd σ) (hT : cTp ts σ) (ok : okTp ts) : WM q_Tp_rewind [.ref 65] σ (kV fun s => Ly s ∧ Fg PT8 σ s ∧ cTk ts 0 s ∧ s.2.1 65 8 = nI 0) := by
  refine w_Tp_rewind hl ?_
  simp only [lt]
  have f : Fi PT8 σ (jh_setI (jh_setI σ 65 2 (nI 0)) 65 8 (nI 0)) := Fi_s (Fi_s (Fi_r _ _) (by unfold PT8; omega)) (by unfold PT8; omega)
  have e2 : (jh_setI (jh_setI σ 65 2 (nI 0)) 65 8 (nI 0)).2.1 65 2 = nI 0 := (rI_ne (by omega)).trans rI_eq
  have e8 : (jh_setI (jh_setI σ 65 2 (nI 0)) 65 8 (nI 0)).2.1 65 8 = nI 0 := rI_eq
  generalize jh_setI (jh_setI σ 65 2 (nI 0)) 65 8 (nI 0) = s at f e2 e8
  refine WM_V (c_advance0 (Fi_ly f hl) (Wd_g (Fi_g f) (fun b j h => by unfold PT8; omega) W) (cTp_g (Fi_g f) (by unfold PT8; omega) (fun j => by unfold PT8; omega) hT) ok e2 (Nat.zero_le _)) (fun t q => ?_)
  obtain ⟨l, ft, ht⟩ := q
  exact ⟨l, l, Fg_t (Fi_g f) (Fg_m ft (fun b j h => by unfold PT7 at h; unfold PT8; omega)), ht, (ft.2.1 65 8 (by unfold PT7; omega)).trans e8⟩
/-! what a token is -/
def isS (d : Nat) (T : Tok) : Bool := decide (Tk T = 3) && decide (Tv T = d)
def isW (j : Nat) (T : Tok) : Bool := decide (Tk T = 1) && decide (wix (Tl T) = j)
def nam (T : Tok) : Bool := decide (Tk T = 1) && decide (18 ≤ wix (Tl T))
theorem wo_is {j : Nat} (hj : j < 21) : (wo T = j) = (isW j T = true) := by
  unfold wo isW
  by_cases c : Tk T = 1
  · rw [if_pos c]; simp [c]
  · rw [if_neg c, eq_iff_iff]
    simp [c]
    omega
theorem wo_lt : wo T < 22 := by
  unfold wo
  split
  · have := wix_le (Tl T); omega
  · omega
theorem sgn_is {d : Nat} (h : okK T) (hd : 1 ≤ d) (hd2 : d < 127) : (nI (sgn T) = nI d) = (isS d T = true) := by
  unfold sgn isS
  by_cases c : Tk T = 3
  · have := (h.2.2.2.2.2.1 c).1
    rw [if_pos c, nI_eqN (by omega) (by omega)]
    simp [c]
  · rw [if_neg c, nI_eqN (by omega) (by omega), eq_iff_iff]
    simp [c]
    omega
theorem c_isName (hl : Ly σ) (W : Wd σ) (h : okK T) {q : Nat} (hT : cTo T q σ) : q_Tp_isName [.ref 65] σ = some (some (.int (bI (nam T))), σ) := by
  refine WE_o (w_Tp_isName hl ?_)
  obtain ⟨h1, h2, h3, h4, h5, h6⟩ := hT
  obtain ⟨k1, k2, k3, k4, -⟩ := h
  rw [h4, h3]
  unfold nam wo
  by_cases c : Tk T = 1
  · rw [if_neg (by
      rw [lg_cmp_eq, show (0 : Int64) = lN (wrd 27 []) from rfl, wrd_eq27 k1 (fun c hc => by cases hc) k2 (by decide)]
      exact k4 c), if_pos c, decide_eq_true c, Bool.true_and]
    have := wix_le (Tl T)
    rw [W.2.2.2.1 (wix (Tl T)) (by omega)]
    by_cases d : 18 ≤ wix (Tl T)
    · rw [decide_eq_false (show ¬ wix (Tl T) < 18 by omega), if_pos (by decide), decide_eq_true d]; rfl
    · rw [decide_eq_true (show wix (Tl T) < 18 by omega), if_neg (by decide), decide_eq_false d]; rfl
  · rw [if_pos (by rw [lg_cmp_eq, k3 c]; rfl), decide_eq_false c]
    rfl
theorem c_atEnd (hl : Ly σ) (hT : cTp ts σ) (ok : okTp ts) (h : cTk ts k σ) : q_Tp_atEnd [.ref 65] σ = some (some (.int (bI (decide (Tk (tok ts k) = 0)))), σ) := by
  have ok1 := ok.1
  refine WE_o (w_Tp_atEnd hl ?_)
  obtain ⟨-, -, t1, t2, -⟩ := tok_ok ok k
  rw [h.2.1, hT.1]
  by_cases c : Tk (tok ts k) = 0
  · have := t2.mp c
    rw [if_neg (by rw [nI_ltN (by omega) (by omega)]; omega), decide_eq_true c]; rfl
  · have : ¬ Tp (tok ts k) = ts.length := fun q => c (t2.mpr q)
    rw [if_pos (by rw [nI_ltN (by omega) (by omega)]; omega), decide_eq_false c]; rfl
/-- the fault at token T of kind f -/
def flt (f : Nat) (T : Tok) : Nat := f + 16 * Tp T
theorem c_faulty {q f : Nat} {K : Int32 → JH → Prop} (hl : Ly σ) (hT : cTo T q σ) (hK : K (nI 0) (jh_setI σ 65 8 (nI (flt f T)))) : WM q_Tp_faulty [.ref 65, .int (nI f)] σ (kI K) := by
  refine w_Tp_faulty _ hl ?_
  rw [hT.2.1, nI_mulN, nI_add]
  exact hK
theorem flt_pos {f : Nat} (h : 1 ≤ f) : 1 ≤ flt f T := by unfold flt; omega
theorem flt_lt {f : Nat} (ok : okTp ts) (h : f ≤ 5) : flt f (tok ts k) < 20000 := by
  have := (tok_ok ok k).2.2.1
  have := ok.1
  unfold flt
  omega
end TK6

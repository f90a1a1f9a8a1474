/-! ===== evening of the model ===== -/
section EV3
variable {s t σ : JH} {ts : List Nat} {n k : Nat} {H : Hou} {nm : Nat → List Nat} {ps : List Lin} {T : Tok} {Z : Ste}
def evB (p2 v1 : Int32) (X5 : Int32 → Option Value → Option Value → JH → Prop) (x : Int32) (s : JH) : Prop := (if v1 ≤ 0 then (if v1 ≤ nI 1 then JJ1 (fun (u8 : Unit) => (if s.2.1 204 8 = 0 then inb (p2 + v1) 250 ∧ lt (jh_setI s 215 (cl (p2 + v1)) x) (fun s10 => lt (jh_setI s10 204 7 ((s10.2.1 204 7) + nI 1)) (fun s11 => X5 (v1 + nI 1) (some (.int x)) (some (.int (nI 0))) s11)) else X5 (v1 + nI 1) (some (.int x)) (some (.int (nI 0))) s)) (fun J9 => (if s.2.1 204 8 = 0 then J9 (()) else J9 (()))) else inb (p2 + nI 1) 250 ∧ (if s.2.1 215 (cl (p2 + nI 1)) = x then JJ1 (fun (s12 : JH) => (if s12.2.1 204 8 = 0 then inb (p2 + v1) 250 ∧ lt (jh_setI s12 215 (cl (p2 + v1)) x) (fun s14 => lt (jh_setI s14 204 7 ((s14.2.1 204 7) + nI 1)) (fun s15 => X5 (v1 + nI 1) (some (.int x)) (some (.int (nI 1))) s15)) else X5 (v1 + nI 1) (some (.int x)) (some (.int (nI 1))) s12)) (fun J13 => (if s.2.1 204 8 = 0 then WM q_Md_wrong [.ref 204, .int (nI 3)] s (kV fun s16 => Ly s16 ∧ J13 s16) else J13 s)) else JJ1 (fun (u17 : Unit) => (if s.2.1 204 8 = 0 then inb (p2 + v1) 250 ∧ lt (jh_setI s 215 (cl (p2 + v1)) x) (fun s19 => lt (jh_setI s19 204 7 ((s19.2.1 204 7) + nI 1)) (fun s20 => X5 (v1 + nI 1) (some (.int x)) (some (.int (nI 0))) s20)) else X5 (v1 + nI 1) (some (.int x)) (some (.int (nI 0))) s)) (fun J18 => (if s.2.1 204 8 = 0 then J18 (()) else J18 (()))))) else inb p2 250 ∧ (if s.2.1 215 (cl p2) = x then JJ1 (fun (s21 : JH) => (if s21.2.1 204 8 = 0 then inb (p2 + v1) 250 ∧ lt (jh_setI s21 215 (cl (p2 + v1)) x) (fun s23 => lt (jh_setI s23 204 7 ((s23.2.1 204 7) + nI 1)) (fun s24 => X5 (v1 + nI 1) (some (.int x)) (some (.int (nI 1))) s24)) else X5 (v1 + nI 1) (some (.int x)) (some (.int (nI 1))) s21)) (fun J22 => (if s.2.1 204 8 = 0 then WM q_Md_wrong [.ref 204, .int (nI 3)] s (kV fun s25 => Ly s25 ∧ J22 s25) else J22 s)) else (if v1 ≤ nI 1 then JJ1 (fun (u26 : Unit) => (if s.2.1 204 8 = 0 then inb (p2 + v1) 250 ∧ lt (jh_setI s 215 (cl (p2 + v1)) x) (fun s28 => lt (jh_setI s28 204 7 ((s28.2.1 204 7) + nI 1)) (fun s29 => X5 (v1 + nI 1) (some (.int x)) (some (.int (nI 0))) s29)) else X5 (v1 + nI 1) (some (.int x)) (some (.int (nI 0))) s)) (fun J27 => (if s.2.1 204 8 = 0 then J27 (()) else J27 (()))) else inb (p2 + nI 1) 250 ∧ (if s.2.1 215 (cl (p2 + nI 1)) = x then JJ1 (fun (s30 : JH) => (if s30.2.1 204 8 = 0 then inb (p2 + v1) 250 ∧ lt (jh_setI s30 215 (cl (p2 + v1)) x) (fun s32 => lt (jh_setI s32 204 7 ((s32.2.1 204 7) + nI 1)) (fun s33 => X5 (v1 + nI 1) (some (.int x)) (some (.int (nI 1))) s33)) else X5 (v1 + nI 1) (some (.int x)) (some (.int (nI 1))) s30)) (fun J31 => (if s.2.1 204 8 = 0 then WM q_Md_wrong [.ref 204, .int (nI 3)] s (kV fun s34 => Ly s34 ∧ J31 s34) else J31 s)) else JJ1 (fun (u35 : Unit) => (if s.2.1 204 8 = 0 then inb (p2 + v1) 250 ∧ lt (jh_setI s 215 (cl (p2 + v1)) x) (fun s37 => lt (jh_setI s37 204 7 ((s37.2.1 204 7) + nI 1)) (fun s38 => X5 (v1 + nI 1) (some (.int x)) (some (.int (nI 0))) s38)) else X5 (v1 + nI 1) (some (.int x)) (some (.int (nI 0))) s)) (fun J36 => (if s.2.1 204 8 = 0 then J36 (()) else J36 (())))))))
def PEv (i0 b j : Nat) : Prop := P78 b j ∨ (b = 215 ∧ i0 ≤ j ∧ j < i0 + 3)
theorem m_evb_f {i0 j e : Nat} {x : Int32} {X : Int32 → Option Value → Option Value → JH → Prop} (hi : i0 + 3 ≤ 250) (hj : j ≤ 2) (z : mFt e s) (hX : ∀ o2 o3, X (nI (j + 1)) o2 o3 s) : evB (nI i0) (nI j) X x s := by
  unfold evB
  simp only [JJ1]
  have h0 : inb (nI i0) 250 := by rw [inb_nI (by omega) (by omega)]; omega
  have h1 : inb (nI i0 + nI 1) 250 := by rw [nI_add, inb_nI (by omega) (by omega)]; omega
  have hX' : ∀ o2 o3, X (nI j + nI 1) o2 o3 s := fun o2 o3 => by rw [nI_add]; exact hX o2 o3
  simp only [if_neg (mFt_0 z)]
  by_cases c0 : nI j ≤ 0
  · rw [if_pos c0]
    by_cases c1 : nI j ≤ nI 1
    · rw [if_pos c1]; exact hX' _ _
    · rw [if_neg c1]
      refine ⟨h1, ?_⟩
      split
      · exact hX' _ _
      · exact hX' _ _
  · rw [if_neg c0]
    refine ⟨h0, ?_⟩
    split
    · exact hX' _ _
    · by_cases c1 : nI j ≤ nI 1
      · rw [if_pos c1]; exact hX' _ _
      · rw [if_neg c1]
        refine ⟨h1, ?_⟩
        split
        · exact hX' _ _
        · exact hX' _ _
theorem m_evb {i0 p : Nat} {xs : List Nat} {X : Int32 → Option Value → Option Value → JH → Prop} (hi : i0 + 3 ≤ 250) (h125 : 125 ≤ i0) (hj : xs.length ≤ 2) (hx8 : ∀ x ∈ xs, x < 8) (hp8 : p < 8) (q : mRd ts n k s) (h0 : Tk (tok ts k) ≠ 0) (ok : okTp ts) (hc : ∀ i x, xs[i]? = some x → s.2.1 215 (i0 + i) = nI x) (h1 : p ∉ xs → ∀ o2 o3 t, mRd ts n (k + 1) t → Fg (PEv i0) s t → (∀ i x, (xs ++ [p])[i]? = some x → t.2.1 215 (i0 + i) = nI x) → X (nI (xs.length + 1)) o2 o3 t) (h3 : p ∈ xs → ∀ o2 o3 t, mFt (flt 3 (tok ts k)) t → Fg P78 s t → X (nI (xs.length + 1)) o2 o3 t) : evB (nI i0) (nI xs.length) X (nI p) s := by
  unfold evB
  simp only [JJ1]
  have hin : inb (nI i0) 250 := by rw [inb_nI (by omega) (by omega)]; omega
  have hin1 : inb (nI i0 + nI 1) 250 := by rw [nI_add, inb_nI (by omega) (by omega)]; omega
  have ec1 : cl (nI i0 + nI 1) = i0 + 1 := by rw [nI_add, cl_nI (by omega)]
  have ec0 : cl (nI i0) = i0 := cl_nI (by omega)
  simp only [if_pos (mRd_0 q), ec0, ec1]
  have good : p ∉ xs → ∀ o2 o3, inb (nI i0 + nI xs.length) 250 ∧ lt (jh_setI s 215 (cl (nI i0 + nI xs.length)) (nI p)) (fun s28 => lt (jh_setI s28 204 7 ((s28.2.1 204 7) + nI 1)) (fun s29 => X (nI xs.length + nI 1) o2 o3 s29)) := by
    intro hp o2 o3
    rw [nI_add, nI_add, cl_nI (by omega)]
    refine ⟨by rw [inb_nI (by omega) (by omega)]; omega, ?_⟩
    simp only [lt]
    have f2 : Fi (fun b j => b = 215 ∧ j = i0 + xs.length) s (jh_setI s 215 (i0 + xs.length) (nI p)) := Fi_s (Fi_r _ _) ⟨rfl, rfl⟩
    have e2 : (jh_setI s 215 (i0 + xs.length) (nI p)).2.1 215 (i0 + xs.length) = nI p := rI_eq
    have l2 := Fi_ly f2 q.1
    generalize jh_setI s 215 (i0 + xs.length) (nI p) = s2 at f2 e2 l2 ⊢
    have q2 : mRd ts n k s2 := mRd_g (Fi_g f2) l2 (fun b j h => by omega) q
    obtain ⟨q3, f3⟩ := m_nxt q2 h0
    refine h1 hp _ _ _ q3 (Fg_t (Fg_m (Fi_g f2) (fun b j h => by unfold PEv; omega)) (Fg_m f3 (fun b j h => Or.inl h))) (fun i x e => ?_)
    rw [f3.2.1 _ _ (by unfold P78; omega)]
    rcases app_get e with ⟨g1, g2⟩ | ⟨g1, g2⟩
    · rw [f2.2.2 _ _ (by omega)]; exact hc i x g2
    · rw [g1, g2]; exact e2
  have bad : p ∈ xs → ∀ o2 o3, WM q_Md_wrong [.ref 204, .int (nI 3)] s (kV fun s25 => Ly s25 ∧ (if s25.2.1 204 8 = 0 then inb (nI i0 + nI xs.length) 250 ∧ lt (jh_setI s25 215 (cl (nI i0 + nI xs.length)) (nI p)) (fun s23 => lt (jh_setI s23 204 7 ((s23.2.1 204 7) + nI 1)) (fun s24 => X (nI xs.length + nI 1) o2 o3 s24)) else X (nI xs.length + nI 1) o2 o3 s25)) := by
    intro hp o2 o3
    refine m_wrong q ok (by omega) (fun t zt ft => ⟨zt.1, ?_⟩)
    rw [if_neg (mFt_0 zt), nI_add]
    exact h3 hp _ _ t zt ft
  rcases xs with _ | ⟨x0, _ | ⟨x1, _ | ⟨x2, xs⟩⟩⟩
  · rw [if_pos (by decide), if_pos (by decide)]
    exact good (by simp) _ _
  · rw [if_neg (show ¬ nI [x0].length ≤ 0 from (by decide : ¬ nI 1 ≤ 0))]
    refine ⟨hin, ?_⟩
    have e0 : s.2.1 215 i0 = nI x0 := hc 0 x0 rfl
    have b0 := hx8 x0 (by simp)
    rw [e0]
    by_cases c0 : x0 = p
    · rw [if_pos (by rw [c0])]
      exact bad (by rw [c0]; simp) _ _
    · rw [if_neg (by rw [nI_eqN (by omega) (by omega)]; exact c0), if_pos (show nI [x0].length ≤ nI 1 from (by decide : nI 1 ≤ nI 1))]
      exact good (by simp; exact fun h => c0 h.symm) _ _
  · rw [if_neg (show ¬ nI [x0, x1].length ≤ 0 from (by decide : ¬ nI 2 ≤ 0))]
    refine ⟨hin, ?_⟩
    have e0 : s.2.1 215 i0 = nI x0 := hc 0 x0 rfl
    have e1 : s.2.1 215 (i0 + 1) = nI x1 := hc 1 x1 rfl
    have b0 := hx8 x0 (by simp)
    have b1 := hx8 x1 (by simp)
    rw [e0]
    by_cases c0 : x0 = p
    · rw [if_pos (by rw [c0])]
      exact bad (by rw [c0]; simp) _ _
    · rw [if_neg (by rw [nI_eqN (by omega) (by omega)]; exact c0), if_neg (show ¬ nI [x0, x1].length ≤ nI 1 from (by decide : ¬ nI 2 ≤ nI 1)), e1]
      refine ⟨hin1, ?_⟩
      by_cases c1 : x1 = p
      · rw [if_pos (by rw [c1])]
        exact bad (by rw [c1]; simp) _ _
      · rw [if_neg (by rw [nI_eqN (by omega) (by omega)]; exact c1)]
        exact good (by simp; exact ⟨fun h => c0 h.symm, fun h => c1 h.symm⟩) _ _
  · exact absurd hj (by simp)
/-- the model's cellar and names that stay -/
def mEh (H : Hou) (nm : Nat → List Nat) (s : JH) : Prop := mH H s ∧ s.2.1 204 16 = nI (Hn H) ∧ ∀ k, k < Hn H → s.2.2.1 213 k = lN (wrd 37 (nm k))
theorem mEh_g {P : Nat → Nat → Prop} (n8 : Hn H ≤ 8) (f : Fg P s t) (hP : ∀ b j, (b = 210 ∧ j < 180) ∨ b = 213 ∨ (b = 204 ∧ j = 16) → ¬ P b j) (z : mEh H nm s) : mEh H nm t := ⟨mH_x n8 f (fun j hj => hP _ _ (by omega)) z.1, (f.2.1 _ _ (hP _ _ (by omega))).trans z.2.1, fun k hk => (f.2.2.1 _ _ (hP _ _ (by omega))).trans (z.2.2 k hk)⟩
theorem m_body {m : Nat} {fr : Bool} {K : Int32 → JH → Prop} (q : mRd ts n k s) (ok : okTp ts) (n8 : Hn H ≤ 8) (hnm : ∀ k, k < Hn H → okN (nm k) ∧ ∀ e, e < k → nm e ≠ nm k) (z : mEh H nm s) (hfr : fr = decide (m = 1)) (h1 : ∀ p, tld ts nm (Hn H) (evF H m) k = .inr p → K (nI p) s) (h0 : ∀ e t, tld ts nm (Hn H) (evF H m) k = .inl e → mFt e t → Fg P78 s t → K (nI 0) t) : WM q_Md_bodyHere [.ref 204, .int (bI fr)] s (kI K) := by
  refine w_Md_bodyHere _ q.1 ?_
  simp only [JJ1]
  rw [if_pos (mRd_0 q)]
  refine WE_i (m_isName q ok) ?_
  unfold tld at h1 h0
  by_cases c : nam (tok ts k) = false
  · rw [if_pos c] at h1 h0
    rw [c, if_pos (by decide)]
    refine m_wrong q ok (by omega) (fun t zt ft => ⟨zt.1, ?_⟩)
    rw [if_neg (mFt_le zt), if_neg (mFt_0 zt), if_neg (mFt_le zt)]
    exact h0 _ t rfl zt ft
  · rw [if_neg c] at h1 h0
    rw [Bool.not_eq_false] at c
    rw [c, if_neg (by decide), if_pos (mRd_le q)]
    refine WE_i (m_find (w := false) q ok (nam_1 c) n8 rfl z.2.1 z.2.2 hnm) ?_
    rw [if_pos (mRd_0 q)]
    cases e : fnd nm (Tl (tok ts k)) (Hn H) with
    | none =>
      rw [e] at h1 h0
      rw [if_pos (show fnI none < 0 by decide)]
      refine m_wrong q ok (by omega) (fun t zt ft => ⟨zt.1, ?_⟩)
      rw [if_neg (mFt_le zt)]
      exact h0 _ t rfl zt ft
    | some p =>
      rw [e] at h1 h0
      have hp := (fnd_some e).1
      rw [show fnI (some p) = nI p from rfl, if_neg (by rw [nI_lt0 (by omega)]; exact id)]
      by_cases cm : m = 1
      · rw [hfr, decide_eq_true cm, if_neg (show ¬ bI true = 0 by decide), nI_mulN, nI_add, nI_add, cl_nI (by omega), z.1.2.2.2.1 p hp]
        refine ⟨by rw [inb_nI (by omega) (by omega)]; omega, ?_⟩
        by_cases d : Hw H p = true
        · rw [if_neg (by rw [bI_0, d]; decide), if_pos (mRd_le q)]
          exact h1 p (if_pos (by unfold evF; rw [if_pos cm]; exact d))
        · rw [if_pos (by rw [bI_0]; simpa using d)]
          refine m_wrong q ok (by omega) (fun t zt ft => ⟨zt.1, ?_⟩)
          rw [if_neg (mFt_le zt)]
          exact h0 _ t (if_neg (by unfold evF; rw [if_pos cm]; exact d)) zt ft
      · rw [hfr, decide_eq_false cm, if_pos (show bI false = 0 by decide), if_pos (mRd_le q)]
        exact h1 p (if_pos (by unfold evF; rw [if_neg cm]))
theorem m_body_f {e : Nat} {x : Int32} {K : Int32 → JH → Prop} (q : mFt e s) (h : K (nI 0) s) : WM q_Md_bodyHere [.ref 204, .int x] s (kI K) := by
  refine w_Md_bodyHere _ q.1 ?_
  simp only [JJ1]
  rw [if_neg (mFt_0 q), if_neg (mFt_le q), if_neg (mFt_0 q), if_neg (mFt_le q)]
  exact h
/-- one turn of readEvening's loop -/
theorem ev_body {m i0 : Nat} {v1 : Int32} {K : JH → Prop} {X : Int32 → Option Value → Option Value → JH → Prop} (hm : m = 1 ∨ m = 2 ∨ m = 3) (h : if nI m ≤ v1 then K s else WM q_Md_bodyHere [.ref 204, .int (bI (decide (m = 1)))] s (kI fun x t => Ly t ∧ evB (nI i0) v1 X x t)) : (if nI (wht m) = 0 then (if nI 2 ≤ v1 then K s else (if nI (wht m) = nI 2 then WM q_Md_bodyHere [.ref 204, .int (nI 1)] s (kI fun x t => Ly t ∧ evB (nI i0) v1 X x t) else WM q_Md_bodyHere [.ref 204, .int (nI 0)] s (kI fun x t => Ly t ∧ evB (nI i0) v1 X x t))) else (if nI (wht m) = nI 1 then (if nI 3 ≤ v1 then K s else (if nI (wht m) = nI 2 then WM q_Md_bodyHere [.ref 204, .int (nI 1)] s (kI fun x t => Ly t ∧ evB (nI i0) v1 X x t) else WM q_Md_bodyHere [.ref 204, .int (nI 0)] s (kI fun x t => Ly t ∧ evB (nI i0) v1 X x t))) else (if nI 1 ≤ v1 then K s else (if nI (wht m) = nI 2 then WM q_Md_bodyHere [.ref 204, .int (nI 1)] s (kI fun x t => Ly t ∧ evB (nI i0) v1 X x t) else WM q_Md_bodyHere [.ref 204, .int (nI 0)] s (kI fun x t => Ly t ∧ evB (nI i0) v1 X x t))))) := by
  rcases hm with rfl | rfl | rfl
  · rw [if_neg (by decide), if_neg (by decide), if_pos (show nI (wht 1) = nI 2 by decide)]; exact h
  · rw [if_pos (by decide), if_neg (show ¬ nI (wht 2) = nI 2 by decide)]; exact h
  · rw [if_neg (by decide), if_pos (by decide), if_neg (show ¬ nI (wht 3) = nI 2 by decide)]; exact h
end EV3

/-! ===== the questions: class and model answer alike ===== -/
def Agr (fC : JF) (vC : List Value) (fM : JF) (vM : List Value) (Z : Ste) : Prop := ∃ x Z', WZ Z' ∧ (∀ h pl σ, Rc Z h pl σ → WM fC vC σ (kI fun y s => y = x ∧ (∃ h' pl', Rc Z' h' pl' s) ∧ Fg (fun b _ => 64 ≤ b ∧ b < 204) σ s)) ∧ (∀ σ, Rm Z σ → WM fM vM σ (kI fun y s => y = x ∧ Rm Z' s ∧ Fg (fun b _ => 204 ≤ b ∧ b < 229) σ s))
section OB
variable {Z : Ste} {x y w : Int32} {fC fM : JF} {vC vM : List Value}
theorem Agr_q (x : Int32) (hZ : WZ Z) (h1 : ∀ h pl σ, Rc Z h pl σ → OkC fC vC Z h pl x σ) (h2 : ∀ σ, Rm Z σ → OkM fM vM Z x σ) : Agr fC vC fM vM Z := ⟨x, Z, hZ, fun h pl σ z => WM_I (h1 h pl σ z) (fun _ _ q => ⟨q.1, ⟨h, pl, q.2.1⟩, q.2.2⟩), fun σ z => h2 σ z⟩
theorem lt_thr {σ : JH} (hZ : WZ Z) (z : Rm Z σ) {B : JH → Prop} (h : ∀ s, Rm Z s → Fg (fun b _ => 204 ≤ b ∧ b < 229) σ s → B s) : lt (jh_setI σ 204 0 (nI 0)) B := h _ (Rm_thr hZ z).1 (Rm_thr hZ z).2
theorem Rm_H {s : JH} (z : Rm Z s) : mH (tH Z) s := z.2.1.1
theorem Rm_M {s : JH} (z : Rm Z s) : mM (tH Z) (tF Z).1 0 s := z.2.2.2.2.1.1
theorem Rc_H {h pl : Nat} {s : JH} (z : Rc Z h pl s) : cH (tH Z) h s := z.2.1
theorem Rc_M {h pl : Nat} {s : JH} (z : Rc Z h pl s) : cM (tH Z) (tF Z).1 114 h s := z.2.2.2.2.1.1
theorem bI_go (b : Bool) {K : Int32 → Prop} (h : K (bI b)) : if bI b = 0 then K (nI 0) else K (nI 1) := by cases b <;> exact h
theorem a_may (hZ : WZ Z) : Agr q_Ct_may [.ref 64, .int x, .int y] q_Md_may [.ref 204, .int x, .int y] Z := by
  have hW := hZ.1
  by_cases c : isB (Hn (tH Z)) x = true ∧ isB (Hn (tH Z)) y = true
  · obtain ⟨k, hk, rfl⟩ := isB_t hW.1 c.1
    obtain ⟨e, he, rfl⟩ := isB_t hW.1 c.2
    refine Agr_q (bI (mayT (tH Z) (tF Z).1 k e)) hZ (fun h pl σ z => OkC_e z (WE_o (w_Ct_may _ _ z.1.1 (WE_i (c_allows z.1.1 mu_114 z.1.2.1 hW (Rc_H z) (Rc_M z) hk he) ⟨bI_bit _, rfl⟩)))) (fun σ z => w_Md_may _ _ z.1 (lt_thr hZ z fun s z' f' => ?_))
    refine WE_i (m_isBody z'.1 (Rm_H z')) ?_
    rw [c.1, if_neg (by decide)]
    refine WE_i (m_isBody z'.1 (Rm_H z')) ?_
    rw [c.2, if_neg (by decide)]
    refine WE_i (m_mayTurn z'.1 hW hZ.2.1 (Rm_H z') (Rm_M z') (by omega) hk he) ?_
    exact bI_go _ (K := fun v => v = bI (mayT (tH Z) (tF Z).1 k e) ∧ Rm Z s ∧ Fg (fun b _ => 204 ≤ b ∧ b < 229) σ s) ⟨rfl, z', f'⟩
  · have c' : isB (Hn (tH Z)) x = false ∨ isB (Hn (tH Z)) y = false := by
      cases h1 : isB (Hn (tH Z)) x
      · exact Or.inl rfl
      · cases h2 : isB (Hn (tH Z)) y
        · exact Or.inr rfl
        · exact absurd ⟨h1, h2⟩ c
    refine Agr_q (nI 0) hZ (fun h pl σ z => OkC_e z (WE_o (w_Ct_may _ _ z.1.1 (WE_i (c_allows_no z.1.1 mu_114 z.1.2.1 hW (Rc_H z) (Rc_M z) c') ⟨Or.inl rfl, rfl⟩)))) (fun σ z => w_Md_may _ _ z.1 (lt_thr hZ z fun s z' f' => ?_))
    refine WE_i (m_isBody z'.1 (Rm_H z')) ?_
    cases h1 : isB (Hn (tH Z)) x
    · exact ⟨rfl, z', f'⟩
    · rw [if_neg (by decide)]
      refine WE_i (m_isBody z'.1 (Rm_H z')) ?_
      cases h2 : isB (Hn (tH Z)) y
      · exact ⟨rfl, z', f'⟩
      · exact absurd ⟨h1, h2⟩ c
theorem a_ready (hZ : WZ Z) : Agr q_Ct_ready [.ref 64, .int x, .int y, .int w] q_Md_ready [.ref 204, .int x, .int y, .int w] Z := by
  have hW := hZ.1
  by_cases c : isB (Hn (tH Z)) x = true ∧ isB (Hn (tH Z)) y = true ∧ isB (Hn (tH Z)) w = true
  · obtain ⟨k, hk, rfl⟩ := isB_t hW.1 c.1
    obtain ⟨e, he, rfl⟩ := isB_t hW.1 c.2.1
    obtain ⟨i, hi, rfl⟩ := isB_t hW.1 c.2.2
    refine Agr_q (bI (mayR (tH Z) (tF Z).1 k e i)) hZ (fun h pl σ z => OkC_e z (WE_o (w_Ct_ready _ _ _ z.1.1 (WE_i (c_allowsRound z.1.1 mu_114 z.1.2.1 hW hZ.2.1 (Rc_H z) (Rc_M z) hk he hi) ⟨bI_bit _, rfl⟩)))) (fun σ z => w_Md_ready _ _ _ z.1 (lt_thr hZ z fun s z' f' => ?_))
    refine WE_i (m_isBody z'.1 (Rm_H z')) ?_
    rw [c.1, if_neg (by decide)]
    refine WE_i (m_isBody z'.1 (Rm_H z')) ?_
    rw [c.2.1, if_neg (by decide)]
    refine WE_i (m_isBody z'.1 (Rm_H z')) ?_
    rw [c.2.2, if_neg (by decide)]
    refine WE_i (m_mayRound z'.1 hW hZ.2.1 (Rm_H z') (Rm_M z') (by omega) hk he hi) ?_
    exact bI_go _ (K := fun v => v = bI (mayR (tH Z) (tF Z).1 k e i) ∧ Rm Z s ∧ Fg (fun b _ => 204 ≤ b ∧ b < 229) σ s) ⟨rfl, z', f'⟩
  · have c' : isB (Hn (tH Z)) x = false ∨ isB (Hn (tH Z)) y = false ∨ isB (Hn (tH Z)) w = false := by
      cases h1 : isB (Hn (tH Z)) x
      · exact Or.inl rfl
      · cases h2 : isB (Hn (tH Z)) y
        · exact Or.inr (Or.inl rfl)
        · cases h3 : isB (Hn (tH Z)) w
          · exact Or.inr (Or.inr rfl)
          · exact absurd ⟨h1, h2, h3⟩ c
    refine Agr_q (nI 0) hZ (fun h pl σ z => OkC_e z (WE_o (w_Ct_ready _ _ _ z.1.1 (WE_i (c_allowsRound_no z.1.1 mu_114 z.1.2.1 hW (Rc_H z) (Rc_M z) c') ⟨Or.inl rfl, rfl⟩)))) (fun σ z => w_Md_ready _ _ _ z.1 (lt_thr hZ z fun s z' f' => ?_))
    refine WE_i (m_isBody z'.1 (Rm_H z')) ?_
    cases h1 : isB (Hn (tH Z)) x
    · exact ⟨rfl, z', f'⟩
    · rw [if_neg (by decide)]
      refine WE_i (m_isBody z'.1 (Rm_H z')) ?_
      cases h2 : isB (Hn (tH Z)) y
      · exact ⟨rfl, z', f'⟩
      · rw [if_neg (by decide)]
        refine WE_i (m_isBody z'.1 (Rm_H z')) ?_
        cases h3 : isB (Hn (tH Z)) w
        · exact ⟨rfl, z', f'⟩
        · exact absurd ⟨h1, h2, h3⟩ c
theorem a_left (hZ : WZ Z) : Agr q_Ct_left [.ref 64] q_Md_left [.ref 204] Z := by
  have hW := hZ.1
  refine Agr_q (nI (opl (tH Z) (tF Z).1).length) hZ (fun h pl σ z => OkC_e z (WE_o (w_Ct_left z.1.1 ?_))) (fun σ z => w_Md_left z.1 (lt_thr hZ z fun s z' f' => WE_i (m_pairsLeft z'.1 hW hZ.2.1 (Rm_H z') (Rm_M z') (by omega)) ⟨rfl, z', f'⟩))
  obtain ⟨X, e1, e2⟩ := c_openX z.1.1 mu_114 hW hZ.2.1 (Rc_H z) (Rc_M z)
  exact WJ_i e1 (WE_i (isX_bc z.1.1 e2) rfl)
theorem msk_up {f : Nat → Bool} {i : Nat} (hi : i < 8) : nI (msk f (i + 1)) = if f i = true then nI (msk f i) ||| ((nI 1) <<< (nI i &&& 31)) else nI (msk f i) ||| nI 0 := by
  have e : ∀ g, msk f i = msk (up1 f i g) (i + 1) ∨ g = true := by
    intro g
    cases g
    · refine Or.inl ?_
      show _ = msk (up1 f i false) i ||| (if up1 f i false i = true then 2 ^ i else 0)
      rw [up1_eq, if_neg (by decide), Nat.or_zero]
      exact msk_ext (fun k hk => (up1_ne (by omega)).symm)
    · exact Or.inr rfl
  have e1 : msk f i = msk (up1 f i false) (i + 1) := (e false).resolve_right (by decide)
  split
  · rename_i c
    rw [e1, bk_set (by omega) (by omega)]
    refine congrArg nI (msk_ext (fun k hk => ?_))
    by_cases d : k = i
    · rw [d, up1_eq, c]
    · rw [up1_ne d, up1_ne d]
  · rename_i c
    show nI (msk f i ||| (if f i = true then 2 ^ i else 0)) = _
    rw [if_neg c, Nat.or_zero, nI_z, Int32.or_zero]
theorem a_met (hZ : WZ Z) : Agr q_Ct_met [.ref 64, .int x] q_Md_met [.ref 204, .int x] Z := by
  have hW := hZ.1
  have n8 := hW.1
  by_cases c : isB (Hn (tH Z)) x = true
  · obtain ⟨k, hk, rfl⟩ := isB_t hW.1 c
    refine Agr_q (nI (msk (me (tF Z).1 k) (Hn (tH Z)))) hZ (fun h pl σ z => OkC_e z (WE_o (w_Ct_met _ z.1.1 ?_))) (fun σ z => w_Md_met _ z.1 (lt_thr hZ z fun s z' f' => ?_))
    · rw [z.1.2.2.2.1]
      refine WE_i (c_has z.1.1 z.1.2.1 (Rc_H z)) ?_
      rw [c, if_neg (by decide)]
      simp (disch := omega) only [(Rc_M z).2.2.1 k hk, and_true, nI_add, nI_mulN, nI_subN, mI_add, inb_nI, cl_nI, nI_eqN, nI_leN, nI_ltN, nI_eq0, nI_le0, nI_lt0, nI_0le, nI_0lt, nI_m1, mI_lt0, mI_eq0, bI_0, bI_n0, bI_1]
      omega
    · refine WE_i (m_isBody z'.1 (Rm_H z')) ?_
      rw [c, if_neg (by decide)]
      refine Lp2_inv (I := fun m v3 v4 => ∃ i, i ≤ Hn (tH Z) ∧ m = Hn (tH Z) - i ∧ v4 = nI i ∧ v3 = nI (msk (me (tF Z).1 k) i)) ?_ (m := Hn (tH Z)) ⟨0, by omega, by omega, rfl, rfl⟩
      rintro m v3 v4 ⟨i, hi, rfl, rfl, rfl⟩ X hX
      refine WE_i (m_bodies z'.1 (Rm_H z')) ?_
      by_cases d : Hn (tH Z) ≤ i
      · rw [if_pos (by rw [nI_leN (by omega) (by omega)]; exact d)]
        rw [show i = Hn (tH Z) by omega]
        exact ⟨rfl, z', f'⟩
      · rw [if_neg (by rw [nI_leN (by omega) (by omega)]; exact d)]
        have g := hX (Hn (tH Z) - (i + 1)) (nI (msk (me (tF Z).1 k) (i + 1))) (nI (i + 1)) (by omega) ⟨i + 1, by omega, rfl, rfl, rfl⟩
        rw [msk_up (by omega)] at g
        have e := (Rm_M z').2.2.2.2.2 k hk i (by omega)
        rw [Nat.zero_add] at e
        simp (disch := omega) only [e, bI_1, nI_add, nI_mulN, nI_subN, mI_add, inb_nI, cl_nI, nI_eqN, nI_leN, nI_ltN, nI_eq0, nI_le0, nI_lt0, nI_0le, nI_0lt, nI_m1, mI_lt0, mI_eq0, bI_0, bI_n0, bI_1]
        refine ⟨by omega, ?_⟩
        by_cases c2 : me (tF Z).1 k i = true
        · rw [if_pos c2] at g ⊢; exact g
        · rw [if_neg c2] at g ⊢; exact g
  · have c' : isB (Hn (tH Z)) x = false := by cases h1 : isB (Hn (tH Z)) x; rfl; exact absurd h1 c
    refine Agr_q (mI 1) hZ (fun h pl σ z => OkC_e z (WE_o (w_Ct_met _ z.1.1 ?_))) (fun σ z => w_Md_met _ z.1 (lt_thr hZ z fun s z' f' => ?_))
    · rw [z.1.2.2.2.1]
      refine WE_i (c_has z.1.1 z.1.2.1 (Rc_H z)) ?_
      rw [c']
      exact rfl
    · refine WE_i (m_isBody z'.1 (Rm_H z')) ?_
      rw [c']
      exact ⟨rfl, z', f'⟩
end OB

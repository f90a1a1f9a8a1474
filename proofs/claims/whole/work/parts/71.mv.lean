/-! ===== turn, round, fetch ===== -/
section MV
variable {Z : Ste} {x y w : Int32} {h pl : Nat} {s t σ : JH} {P : Nat → Nat → Prop} {S' : Mud} {c : Int32}
theorem Rc_play (z : Rc Z h pl s) (f : Fi P s t) (hP : ∀ b j, P b j → (b = 114 ∧ j ≤ 9) ∨ (114 < b ∧ b < 118) ∨ b = 79 ∨ b = 90) (C : Cs (tH Z) S' 114 h t) (e : t.2.1 114 9 = s.2.1 114 9 + c) : Rc (zF Z (S', (tF Z).2.1 + c, (tF Z).2.2) (tU Z) (tK Z)) h pl t ∧ Fg (fun b _ => 64 ≤ b ∧ b < 204) s t := by
  have g := Fi_g (Fi_m f hP)
  refine ⟨Rc_up z g C.1 (fun b j _ _ q => by unfold PcT PcU; omega) ⟨C.2.2.2, by rw [e, z.2.2.2.2.1.2.1], (g.2.2.1 _ _ (by omega)).trans z.2.2.2.2.1.2.2.1, (g.2.1 _ _ (by omega)).trans z.2.2.2.2.1.2.2.2.1, z.2.2.2.2.1.2.2.2.2⟩ (cPa_g g ⟨by omega, by omega⟩ (fun b j _ _ => by omega) z.2.2.2.2.2.1) (cMk_g g (by omega) (fun b j _ _ => by omega) z.2.2.2.2.2.2.1), Fg_m g (fun b j q => by omega)⟩
theorem Rm_play (hZ : WZ Z) (z : Rm Z s) (f : Fi (PT 0) s t) (hl : Ly t) (M : mM (tH Z) S' 0 t) (e : t.2.1 218 (0 + 1) = s.2.1 218 (0 + 1) + c) : Rm (zF Z (S', (tF Z).2.1 + c, (tF Z).2.2) (tU Z) (tK Z)) t ∧ Fg (fun b _ => 204 ≤ b ∧ b < 229) s t := by
  have g := Fi_g f
  have n8 := hZ.1.1
  obtain ⟨s1, s2, s3⟩ := z.2.2.2.2.1.2.2
  refine ⟨Rm_up hZ z g hl (fun b j _ _ q => by unfold PT at q; unfold PmT PmU; omega) ⟨M, by rw [e, z.2.2.2.2.1.2.1], (f.2.2 _ _ (by unfold PT; omega)).trans s1, s2, fun i q e => ?_⟩ (mPa_g n8 hZ.2.2.2.2.2.2.2.1 g (by unfold PT; omega) (fun j _ _ => by unfold PT; omega) z.2.2.2.2.2.1) (mMk_g n8 g (fun j => by unfold PT; omega) (fun j _ _ => by unfold PT; omega) z.2.2.2.2.2.2.1), Fg_m g (fun b j q => by unfold PT at q; omega)⟩
  obtain ⟨a, b, d⟩ := s3 i q e
  exact ⟨(f.2.2 _ _ (by unfold PT; omega)).trans a, (f.2.2 _ _ (by unfold PT; omega)).trans b, d⟩
abbrev rmb (Z : Ste) : Ste := zF Z (tF Z) (rem (tU Z) ((tF Z).1, (tF Z).2.1)) (tK Z)
theorem WZ_rmb (hZ : WZ Z) : WZ (rmb Z) := WZ_up hZ hZ.2.1 (fun q hq => (rem_mem hq).elim (fun g => hZ.2.2.1 q g) (fun g => by rw [g]; exact hZ.2.1)) (by rw [rem_len hZ.2.2.2.2.2.2.2.1]; omega) hZ.2.2.2.1
theorem mayT_k {H : Hou} {S : Mud} {k e : Nat} (q : mayT H S k e = true) : k ≠ e := by
  intro z
  subst z
  unfold mayT at q
  simp at q
theorem no2 {a b : Bool} (c : ¬ (a = true ∧ b = true)) : a = false ∨ b = false := by revert c; cases a <;> cases b <;> decide
theorem no3 {a b d : Bool} (c : ¬ (a = true ∧ b = true ∧ d = true)) : a = false ∨ b = false ∨ d = false := by revert c; cases a <;> cases b <;> cases d <;> decide
set_option maxHeartbeats 1000000 in
theorem a_turn (hZ : WZ Z) : Agr q_Ct_turn [.ref 64, .int x, .int y] q_Md_turn [.ref 204, .int x, .int y] Z := by
  have hW := hZ.1
  by_cases c : isB (Hn (tH Z)) x = true ∧ isB (Hn (tH Z)) y = true
  · obtain ⟨k, hk, rfl⟩ := isB_t hW.1 c.1
    obtain ⟨e, he, rfl⟩ := isB_t hW.1 c.2
    by_cases hm : mayT (tH Z) (tF Z).1 k e = true
    · have hne := mayT_k hm
      refine ⟨nI (wrs (tH Z) (trn (tF Z).1 k e)), zF Z (trn (tF Z).1 k e, (tF Z).2.1 + nI (ctn (tH Z) (tL Z) (tF Z).1 k e), (tF Z).2.2) (rem (tU Z) ((tF Z).1, (tF Z).2.1)) (tK Z), ?_, fun h pl σ z => ?_, fun σ z => ?_⟩
      · have hR := WZ_rmb hZ
        exact WZ_up (Z := rmb Z) hR (WS_trn hZ.2.1 hk he hm hW) hR.2.2.1 hR.2.2.2.2.2.2.2.1 hR.2.2.2.1
      · refine w_Ct_turn _ _ z.1.1 (WE_i (c_allows z.1.1 mu_114 z.1.2.1 hW (Rc_H z) (Rc_M z) hk he) ?_)
        rw [hm, if_neg (by decide)]
        refine WM_V (c_remember hZ z) fun s1 ⟨z1, f1⟩ => ⟨z1.1.1, ?_⟩
        have C1 : Cs (tH Z) (tF Z).1 114 h s1 := Rc_Cs (Z := rmb Z) z1
        have L1 : cL (lwl (tL Z)) (h + 8) s1 := z1.2.2.1
        refine WM_V (c_playTurn mu_114 hW hZ.2.1 C1 L1 hk he hne) fun s2 ⟨C2, f2, _, e2⟩ => ⟨C2.1, ?_⟩
        obtain ⟨z2, g2⟩ := Rc_play (Z := rmb Z) z1 f2 (fun b j q => by have := ho_is z.1.2.1; unfold PPl PMc at q; omega) C2 e2
        exact WE_i (c_wrongOnes C2.1 mu_114 hW C2.2.2.2) ⟨rfl, ⟨h, pl, z2⟩, Fg_t f1 g2⟩
      · refine w_Md_turn _ _ z.1 (lt_thr hZ z fun s z' f' => ?_)
        refine WE_i (m_isBody z'.1 (Rm_H z')) ?_
        rw [c.1, if_neg (by decide)]
        refine WE_i (m_isBody z'.1 (Rm_H z')) ?_
        rw [c.2, if_neg (by decide)]
        refine WE_i (m_mayTurn z'.1 hW hZ.2.1 (Rm_H z') (Rm_M z') (by omega) hk he) ?_
        rw [hm, if_neg (by decide)]
        refine WM_V (m_keeps hZ z') fun s1 ⟨z1, f1⟩ => ⟨z1.1, ?_⟩
        have M1 : mM (tH Z) (tF Z).1 0 s1 := Rm_M (Z := rmb Z) z1
        have H1 : mHL (tH Z) (tL Z) s1 := z1.2.1
        refine WM_I (m_turns z1.1 hW hZ.2.1 H1 M1 (by omega) hk he hm) fun _ s2 ⟨_, l2, f2, M2, e2⟩ => ⟨l2, ?_⟩
        obtain ⟨z2, g2⟩ := Rm_play (Z := rmb Z) (WZ_rmb hZ) z1 f2 l2 M2 e2
        have H2 : mH (tH Z) s2 := z2.2.1.1
        exact WE_i (m_wrongs l2 hW (WS_trn hZ.2.1 hk he hm hW) H2 M2 (by omega)) ⟨rfl, z2, Fg_t f' (Fg_t f1 g2)⟩
    · have hm : mayT (tH Z) (tF Z).1 k e = false := Bool.eq_false_iff.mpr hm
      refine Agr_q (mI 1) hZ (fun h pl σ z => ?_) (fun σ z => w_Md_turn _ _ z.1 (lt_thr hZ z fun s z' f' => ?_))
      · refine w_Ct_turn _ _ z.1.1 (WE_i (c_allows z.1.1 mu_114 z.1.2.1 hW (Rc_H z) (Rc_M z) hk he) ?_)
        rw [hm]
        exact ⟨rfl, z, Fg_r _ _⟩
      · refine WE_i (m_isBody z'.1 (Rm_H z')) ?_
        rw [c.1, if_neg (by decide)]
        refine WE_i (m_isBody z'.1 (Rm_H z')) ?_
        rw [c.2, if_neg (by decide)]
        refine WE_i (m_mayTurn z'.1 hW hZ.2.1 (Rm_H z') (Rm_M z') (by omega) hk he) ?_
        rw [hm]
        exact ⟨rfl, z', f'⟩
  · refine Agr_q (mI 1) hZ (fun h pl σ z => ?_) (fun σ z => w_Md_turn _ _ z.1 (lt_thr hZ z fun s z' f' => ?_))
    · exact w_Ct_turn _ _ z.1.1 (WE_i (c_allows_no z.1.1 mu_114 z.1.2.1 hW (Rc_H z) (Rc_M z) (no2 c)) ⟨rfl, z, Fg_r _ _⟩)
    · refine WE_i (m_isBody z'.1 (Rm_H z')) ?_
      cases h1 : isB (Hn (tH Z)) x
      · exact ⟨rfl, z', f'⟩
      · rw [if_neg (by decide)]
        refine WE_i (m_isBody z'.1 (Rm_H z')) ?_
        cases h2 : isB (Hn (tH Z)) y
        · exact ⟨rfl, z', f'⟩
        · exact absurd ⟨h1, h2⟩ c
set_option maxHeartbeats 1000000 in
theorem a_round (hZ : WZ Z) : Agr q_Ct_round [.ref 64, .int x, .int y, .int w] q_Md_round [.ref 204, .int x, .int y, .int w] Z := by
  have hW := hZ.1
  by_cases c : isB (Hn (tH Z)) x = true ∧ isB (Hn (tH Z)) y = true ∧ isB (Hn (tH Z)) w = true
  · obtain ⟨k, hk, rfl⟩ := isB_t hW.1 c.1
    obtain ⟨e, he, rfl⟩ := isB_t hW.1 c.2.1
    obtain ⟨i, hi, rfl⟩ := isB_t hW.1 c.2.2
    by_cases hm : mayR (tH Z) (tF Z).1 k e i = true
    · refine ⟨nI (wrs (tH Z) (rnd (tF Z).1 k e i)), zF Z (rnd (tF Z).1 k e i, (tF Z).2.1 + nI (crn (tH Z) (tL Z) (tF Z).1 k e i), (tF Z).2.2) (rem (tU Z) ((tF Z).1, (tF Z).2.1)) (tK Z), ?_, fun h pl σ z => ?_, fun σ z => ?_⟩
      · have hR := WZ_rmb hZ
        exact WZ_up (Z := rmb Z) hR (WS_rnd hW hZ.2.1 hk he hi hm) hR.2.2.1 hR.2.2.2.2.2.2.2.1 hR.2.2.2.1
      · refine w_Ct_round _ _ _ z.1.1 (WE_i (c_allowsRound z.1.1 mu_114 z.1.2.1 hW hZ.2.1 (Rc_H z) (Rc_M z) hk he hi) ?_)
        rw [hm, if_neg (by decide)]
        refine WM_V (c_remember hZ z) fun s1 ⟨z1, f1⟩ => ⟨z1.1.1, ?_⟩
        have C1 : Cs (tH Z) (tF Z).1 114 h s1 := Rc_Cs (Z := rmb Z) z1
        have L1 : cL (lwl (tL Z)) (h + 8) s1 := z1.2.2.1
        refine WM_V (c_playRound mu_114 hW hZ.2.1 C1 L1 hk he hi hm) fun s2 ⟨C2, f2, _, e2⟩ => ⟨C2.1, ?_⟩
        obtain ⟨z2, g2⟩ := Rc_play (Z := rmb Z) z1 f2 (fun b j q => by have := ho_is z.1.2.1; unfold PPl PMc at q; omega) C2 e2
        exact WE_i (c_wrongOnes C2.1 mu_114 hW C2.2.2.2) ⟨rfl, ⟨h, pl, z2⟩, Fg_t f1 g2⟩
      · refine w_Md_round _ _ _ z.1 (lt_thr hZ z fun s z' f' => ?_)
        refine WE_i (m_isBody z'.1 (Rm_H z')) ?_
        rw [c.1, if_neg (by decide)]
        refine WE_i (m_isBody z'.1 (Rm_H z')) ?_
        rw [c.2.1, if_neg (by decide)]
        refine WE_i (m_isBody z'.1 (Rm_H z')) ?_
        rw [c.2.2, if_neg (by decide)]
        refine WE_i (m_mayRound z'.1 hW hZ.2.1 (Rm_H z') (Rm_M z') (by omega) hk he hi) ?_
        rw [hm, if_neg (by decide)]
        refine WM_V (m_keeps hZ z') fun s1 ⟨z1, f1⟩ => ⟨z1.1, ?_⟩
        have M1 : mM (tH Z) (tF Z).1 0 s1 := Rm_M (Z := rmb Z) z1
        have H1 : mHL (tH Z) (tL Z) s1 := z1.2.1
        refine WM_V (m_rounds z1.1 hW hZ.2.1 H1 M1 (by omega) hk he hi hm) fun s2 ⟨l2, f2, M2, e2⟩ => ⟨l2, ?_⟩
        obtain ⟨z2, g2⟩ := Rm_play (Z := rmb Z) (WZ_rmb hZ) z1 f2 l2 M2 e2
        have H2 : mH (tH Z) s2 := z2.2.1.1
        exact WE_i (m_wrongs l2 hW (WS_rnd hW hZ.2.1 hk he hi hm) H2 M2 (by omega)) ⟨rfl, z2, Fg_t f' (Fg_t f1 g2)⟩
    · have hm : mayR (tH Z) (tF Z).1 k e i = false := Bool.eq_false_iff.mpr hm
      refine Agr_q (mI 1) hZ (fun h pl σ z => ?_) (fun σ z => w_Md_round _ _ _ z.1 (lt_thr hZ z fun s z' f' => ?_))
      · refine w_Ct_round _ _ _ z.1.1 (WE_i (c_allowsRound z.1.1 mu_114 z.1.2.1 hW hZ.2.1 (Rc_H z) (Rc_M z) hk he hi) ?_)
        rw [hm]
        exact ⟨rfl, z, Fg_r _ _⟩
      · refine WE_i (m_isBody z'.1 (Rm_H z')) ?_
        rw [c.1, if_neg (by decide)]
        refine WE_i (m_isBody z'.1 (Rm_H z')) ?_
        rw [c.2.1, if_neg (by decide)]
        refine WE_i (m_isBody z'.1 (Rm_H z')) ?_
        rw [c.2.2, if_neg (by decide)]
        refine WE_i (m_mayRound z'.1 hW hZ.2.1 (Rm_H z') (Rm_M z') (by omega) hk he hi) ?_
        rw [hm]
        exact ⟨rfl, z', f'⟩
  · refine Agr_q (mI 1) hZ (fun h pl σ z => ?_) (fun σ z => w_Md_round _ _ _ z.1 (lt_thr hZ z fun s z' f' => ?_))
    · exact w_Ct_round _ _ _ z.1.1 (WE_i (c_allowsRound_no z.1.1 mu_114 z.1.2.1 hW (Rc_H z) (Rc_M z) (no3 c)) ⟨rfl, z, Fg_r _ _⟩)
    · refine WE_i (m_isBody z'.1 (Rm_H z')) ?_
      cases h1 : isB (Hn (tH Z)) x
      · exact ⟨rfl, z', f'⟩
      · rw [if_neg (by decide)]
        refine WE_i (m_isBody z'.1 (Rm_H z')) ?_
        cases h2 : isB (Hn (tH Z)) y
        · exact ⟨rfl, z', f'⟩
        · rw [if_neg (by decide)]
          refine WE_i (m_isBody z'.1 (Rm_H z')) ?_
          cases h3 : isB (Hn (tH Z)) w
          · exact ⟨rfl, z', f'⟩
          · exact absurd ⟨h1, h2, h3⟩ c
set_option maxHeartbeats 1000000 in
theorem a_fetch (hZ : WZ Z) : Agr q_Ct_fetch [.ref 64, .int x] q_Md_fetch [.ref 204, .int x] Z := by
  have hW := hZ.1
  by_cases c : isB (Hn (tH Z)) x = true
  · obtain ⟨k, hk, rfl⟩ := isB_t hW.1 c
    by_cases hm : mayF (tH Z) (tF Z).1 k = true
    · refine ⟨nI 1, zF Z (ftc (tF Z).1 k, (tF Z).2.1 + nI (Hp (tH Z) k), (tF Z).2.2) (rem (tU Z) ((tF Z).1, (tF Z).2.1)) (tK Z), ?_, fun h pl σ z => ?_, fun σ z => ?_⟩
      · have hR := WZ_rmb hZ
        exact WZ_up (Z := rmb Z) hR (WS_ftc hZ.2.1) hR.2.2.1 hR.2.2.2.2.2.2.2.1 hR.2.2.2.1
      · refine w_Ct_fetch _ z.1.1 (WE_i (c_allowsFetch z.1.1 mu_114 z.1.2.1 hW (Rc_H z) (Rc_M z) hk) ?_)
        rw [hm, if_neg (by decide)]
        refine WM_V (c_remember hZ z) fun s1 ⟨z1, f1⟩ => ⟨z1.1.1, ?_⟩
        have C1 : Cs (tH Z) (tF Z).1 114 h s1 := Rc_Cs (Z := rmb Z) z1
        have L1 : cL (lwl (tL Z)) (h + 8) s1 := z1.2.2.1
        refine WM_V (c_playFetch mu_114 hW hZ.2.1 C1 hk) fun s2 ⟨C2, f2, e2⟩ => ⟨C2.1, ?_⟩
        obtain ⟨z2, g2⟩ := Rc_play (Z := rmb Z) z1 f2 (fun b j q => by unfold PMc at q; omega) C2 e2
        exact ⟨rfl, ⟨h, pl, z2⟩, Fg_t f1 g2⟩
      · refine w_Md_fetch _ z.1 (lt_thr hZ z fun s z' f' => ?_)
        refine WE_i (m_isBody z'.1 (Rm_H z')) ?_
        rw [c, if_neg (by decide)]
        refine WE_i (m_mayFetch z'.1 hW (Rm_H z') (Rm_M z') (by omega) hk) ?_
        rw [hm, if_neg (by decide)]
        refine WM_V (m_keeps hZ z') fun s1 ⟨z1, f1⟩ => ⟨z1.1, ?_⟩
        have M1 : mM (tH Z) (tF Z).1 0 s1 := Rm_M (Z := rmb Z) z1
        have H1 : mHL (tH Z) (tL Z) s1 := z1.2.1
        refine WM_V (m_fetches z1.1 hW H1.1 M1 (by omega) hk) fun s2 ⟨l2, f2, M2, e2⟩ => ⟨l2, ?_⟩
        obtain ⟨z2, g2⟩ := Rm_play (Z := rmb Z) (WZ_rmb hZ) z1 f2 l2 M2 e2
        have H2 : mH (tH Z) s2 := z2.2.1.1
        exact ⟨rfl, z2, Fg_t f' (Fg_t f1 g2)⟩
    · have hm : mayF (tH Z) (tF Z).1 k = false := Bool.eq_false_iff.mpr hm
      refine Agr_q (nI 0) hZ (fun h pl σ z => ?_) (fun σ z => w_Md_fetch _ z.1 (lt_thr hZ z fun s z' f' => ?_))
      · refine w_Ct_fetch _ z.1.1 (WE_i (c_allowsFetch z.1.1 mu_114 z.1.2.1 hW (Rc_H z) (Rc_M z) hk) ?_)
        rw [hm]
        exact ⟨rfl, z, Fg_r _ _⟩
      · refine WE_i (m_isBody z'.1 (Rm_H z')) ?_
        rw [c, if_neg (by decide)]
        refine WE_i (m_mayFetch z'.1 hW (Rm_H z') (Rm_M z') (by omega) hk) ?_
        rw [hm]
        exact ⟨rfl, z', f'⟩
  · refine Agr_q (nI 0) hZ (fun h pl σ z => ?_) (fun σ z => w_Md_fetch _ z.1 (lt_thr hZ z fun s z' f' => ?_))
    · exact w_Ct_fetch _ z.1.1 (WE_i (c_allowsFetch_no z.1.1 mu_114 z.1.2.1 (Rc_H z) (Rc_M z) (isB_f c)) ⟨rfl, z, Fg_r _ _⟩)
    · refine WE_i (m_isBody z'.1 (Rm_H z')) ?_
      rw [isB_f c]
      exact ⟨rfl, z', f'⟩
end MV

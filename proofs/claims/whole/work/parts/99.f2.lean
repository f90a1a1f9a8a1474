/-! ===== pair: the model ===== -/
section PM
variable {Z : Ste} {s t σ : JH}
theorem mp_tail {X Y K : JH → Prop} (h : K (jh_setI (jh_setI σ 204 41 (nI 0)) 204 0 (nI 1))) : lt (jh_setI σ 204 41 (nI 0)) (fun s2 => if s2.2.1 204 41 = 0 then lt (jh_setI s2 204 0 (nI 1)) (fun s3 => if s3.2.1 204 0 ≤ 0 then X s3 else K s3) else Y s2) := by
  simp only [lt]
  rw [if_pos (by rw [rI_eq]; rfl), if_neg (by rw [rI_eq]; decide)]
  exact h
theorem Rm_41 {x : Int32} (hZ : WZ Z) (z : Rm Z s) : Rm Z (jh_setI s 204 41 x) ∧ Fg (fun b _ => 204 ≤ b ∧ b < 229) s (jh_setI s 204 41 x) := by
  have f : Fi (fun b j => b = 204 ∧ j = 41) s (jh_setI s 204 41 x) := Fi_s (Fi_r _ _) ⟨rfl, rfl⟩
  exact ⟨Rm_f hZ z (Fi_g f) (Fi_ly f z.1) (fun b j _ _ q => by unfold PmT; omega), Fg_m (Fi_g f) (fun b j q => by omega)⟩
theorem m_pairNo {p1 p2 p3 : Int32} (hZ : WZ Z) (z : Rm Z σ) (hb : pBad Z p1 p2 p3) : WM q_Md_pair [.ref 204, .int p1, .int p2, .int p3] σ (kI fun x s => x = nI 0 ∧ Rm Z s ∧ Fg (fun b _ => 204 ≤ b ∧ b < 229) σ s ∧ s.2.1 204 0 = nI 1) := by
  obtain ⟨z1, f1⟩ := Rm_41 (x := nI 0) hZ z
  obtain ⟨z2, f2⟩ := Rm_thr (x := nI 1) hZ z1
  have fin : (nI 0 : Int32) = nI 0 ∧ Rm Z (jh_setI (jh_setI σ 204 41 (nI 0)) 204 0 (nI 1)) ∧ Fg (fun b _ => 204 ≤ b ∧ b < 229) σ (jh_setI (jh_setI σ 204 41 (nI 0)) 204 0 (nI 1)) ∧ (jh_setI (jh_setI σ 204 41 (nI 0)) 204 0 (nI 1)).2.1 204 0 = nI 1 := ⟨rfl, z2, Fg_t f1 f2, rI_eq⟩
  refine w_Md_pair p1 p2 p3 z.1 (WE_i (m_within z.1) ?_)
  cases hd : decide (¬ p1 < nI 1 ∧ ¬ nI 3 < p1)
  · rw [if_pos (by decide)]
    exact mp_tail fin
  · rw [if_neg (by decide)]
    refine WE_i (m_isBody z.1 (Rm_H z)) ?_
    cases hi : isB (Hn (tH Z)) p2
    · rw [if_pos (by decide)]
      exact mp_tail fin
    · rw [if_neg (by decide)]
      refine WE_i (m_isBody z.1 (Rm_H z)) ?_
      cases hj : isB (Hn (tH Z)) p3
      · rw [if_pos (by decide)]
        exact mp_tail fin
      · rw [if_neg (by decide)]
        rcases hb with q | q | q | q
        · rw [hd] at q; cases q
        · rw [hi] at q; cases q
        · rw [hj] at q; cases q
        · rw [if_pos q]
          exact mp_tail fin
theorem m_pairYes {d i j : Nat} (hZ : WZ Z) (z : Rm Z σ) (h1 : 1 ≤ d) (h3 : d ≤ 3) (hi : i < Hn (tH Z)) (hj : j < Hn (tH Z)) (hij : i ≠ j) :
    WM q_Md_pair [.ref 204, .int (nI d), .int (nI i), .int (nI j)] σ (kI fun x s => Rm Z s ∧ Fg (fun b _ => 204 ≤ b ∧ b < 229) σ s ∧ (((rwT Z d).1 = 0 ∧ s.2.1 204 0 = nI 1) ∨ (¬ (rwT Z d).1 = 0 ∧ s.2.1 204 0 = nI 0 ∧ x = prA (rwT Z d) (prP i j)))) := by
  have n8 := hZ.1.1
  have hle := rwT_le hZ h3
  obtain ⟨-, q2, -, -, -⟩ := rw_rel hZ false d
  obtain ⟨z1, f1⟩ := Rm_41 (x := nI 0) hZ z
  refine w_Md_pair (nI d) (nI i) (nI j) z.1 (WE_i (yes_1 z.1 h1 h3 (by omega)) ?_)
  rw [if_neg (by decide)]
  refine WE_i (m_isBody z.1 (Rm_H z)) ?_
  rw [isB_n n8 hi, if_neg (by decide)]
  refine WE_i (m_isBody z.1 (Rm_H z)) ?_
  rw [isB_n n8 hj, if_neg (by decide), if_neg (by rw [nI_eqN (by omega) (by omega)]; exact hij)]
  refine WM_V (m_rowsOf hZ z1 h3) fun s3 ⟨z3, f3, R3⟩ => ⟨z3.1, ?_⟩
  obtain ⟨t1, t2, -⟩ := R3
  have hp : prP i j < 64 := by unfold prP; omega
  obtain ⟨-, -, e⟩ := q2 (prP i j)
  by_cases c : (rwT Z d).1 = 0
  · rw [if_pos (by rw [t1, c]; rfl)]
    obtain ⟨z4, f4⟩ := Rm_thr (x := nI 1) hZ z3
    simp only [lt]
    rw [if_neg (by rw [rI_eq]; decide)]
    exact ⟨z4, Fg_t f1 (Fg_t f3 f4), Or.inl ⟨c, rI_eq⟩⟩
  · rw [if_neg (by rw [t1, nI_eq0 (by omega)]; exact c)]
    obtain ⟨z4, f4⟩ := Rm_thr (x := nI 0) hZ z3
    simp only [lt, JJ1]
    rw [if_pos (by rw [rI_eq]; decide)]
    have h227 : (jh_setI s3 204 0 (nI 0)).2.1 227 (prP i j) = nI ((rwT Z d).2.1 (prP i j)) := (rI_ne (by omega)).trans (t2 _ hp)
    have h41 : (jh_setI s3 204 0 (nI 0)).2.1 204 41 = nI (rwT Z d).1 := (rI_ne (by omega)).trans t1
    have hv : ∀ v, v = prA (rwT Z d) (prP i j) → Rm Z (jh_setI s3 204 0 (nI 0)) ∧ Fg (fun b _ => 204 ≤ b ∧ b < 229) σ (jh_setI s3 204 0 (nI 0)) ∧ (((rwT Z d).1 = 0 ∧ (jh_setI s3 204 0 (nI 0)).2.1 204 0 = nI 1) ∨ (¬ (rwT Z d).1 = 0 ∧ (jh_setI s3 204 0 (nI 0)).2.1 204 0 = nI 0 ∧ v = prA (rwT Z d) (prP i j))) := fun v hv => ⟨z4, Fg_t f1 (Fg_t f3 f4), Or.inr ⟨c, rI_eq, hv⟩⟩
    unfold prA at hv
    have fin : ∀ w, w = nI (prP i j) → (inb w 64 ∧ (if (jh_setI s3 204 0 (nI 0)).2.1 227 (cl w) = (jh_setI s3 204 0 (nI 0)).2.1 204 41 then (fun x s => Rm Z s ∧ Fg (fun b _ => 204 ≤ b ∧ b < 229) σ s ∧ (((rwT Z d).1 = 0 ∧ s.2.1 204 0 = nI 1) ∨ (¬ (rwT Z d).1 = 0 ∧ s.2.1 204 0 = nI 0 ∧ x = prA (rwT Z d) (prP i j)))) (nI 2) (jh_setI s3 204 0 (nI 0)) else (if (jh_setI s3 204 0 (nI 0)).2.1 227 (cl w) ≤ 0 then (fun x s => Rm Z s ∧ Fg (fun b _ => 204 ≤ b ∧ b < 229) σ s ∧ (((rwT Z d).1 = 0 ∧ s.2.1 204 0 = nI 1) ∨ (¬ (rwT Z d).1 = 0 ∧ s.2.1 204 0 = nI 0 ∧ x = prA (rwT Z d) (prP i j)))) (nI 0) (jh_setI s3 204 0 (nI 0)) else (fun x s => Rm Z s ∧ Fg (fun b _ => 204 ≤ b ∧ b < 229) σ s ∧ (((rwT Z d).1 = 0 ∧ s.2.1 204 0 = nI 1) ∨ (¬ (rwT Z d).1 = 0 ∧ s.2.1 204 0 = nI 0 ∧ x = prA (rwT Z d) (prP i j)))) (nI 1) (jh_setI s3 204 0 (nI 0))))) := by
      rintro w rfl
      refine ⟨by rw [inb_nI (by omega) (by omega)]; exact hp, ?_⟩
      rw [cl_nI (by omega), h227, h41]
      by_cases c1 : (rwT Z d).2.1 (prP i j) = (rwT Z d).1
      · rw [if_pos (by rw [c1])]
        exact hv _ (by rw [if_pos c1])
      · rw [if_neg (by rw [nI_eqN (by omega) (by omega)]; exact c1)]
        by_cases c2 : 0 < (rwT Z d).2.1 (prP i j)
        · rw [if_neg (by rw [nI_le0 (by omega)]; omega)]
          exact hv _ (by rw [if_neg c1, if_pos c2])
        · rw [if_pos (by rw [nI_le0 (by omega)]; omega)]
          exact hv _ (by rw [if_neg c1, if_neg c2])
    by_cases c3 : j ≤ i
    · rw [if_pos (by rw [nI_leN (by omega) (by omega)]; exact c3)]
      exact fin _ (by rw [nI_mulN, nI_add]; unfold prP; congr 1; omega)
    · rw [if_neg (by rw [nI_leN (by omega) (by omega)]; exact c3)]
      exact fin _ (by rw [nI_mulN, nI_add]; unfold prP; congr 1; omega)
end PM

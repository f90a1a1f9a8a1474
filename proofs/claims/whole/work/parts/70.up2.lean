section UP2
variable {Z : Ste} {F : Ful} {U : List (Mud × Int32)} {K : Nat → Option Ful} {h pl : Nat} {s t σ : JH} {P : Nat → Nat → Prop}
set_option maxHeartbeats 1000000 in
theorem c_remember (hZ : WZ Z) (z : Rc Z h pl σ) : WM q_Ct_remember [.ref 64] σ (kV fun s => Rc (zF Z (tF Z) (rem (tU Z) ((tF Z).1, (tF Z).2.1)) (tK Z)) h pl s ∧ Fg (fun b _ => 64 ≤ b ∧ b < 204) σ s) := by
  have hW := hZ.1
  have h16 := hZ.2.2.2.2.2.2.2.1
  obtain ⟨pe, p1, p2, p3, p4⟩ := z.2.2.2.2.2.1
  refine w_Ct_remember z.1.1 ?_
  rw [p2, cl_nI (by omega)]
  have hin : inb (nI pe) 16 := by rw [inb_nI (by omega) (by omega)]; exact p1
  have hmp := mu_past hin
  rw [cl_nI (by omega)] at hmp
  refine ⟨hin, ?_⟩
  refine WM_V (c_copy hmp mu_114 (by omega) hW (Rc_Cs z)) fun s1 ⟨C1, f1, e1⟩ => ⟨C1.1, ?_⟩
  have q2 : s1.2.1 64 13 = nI pe := (f1.2.1 _ _ (by unfold PMc; omega)).trans p2
  have q3 : s1.2.1 64 14 = nI (tU Z).length := (f1.2.1 _ _ (by unfold PMc; omega)).trans p3
  rw [q2, nI_add]
  refine WE_i (j_floorMod C1.1 (by omega) (by omega) (by omega)) ?_
  simp only [lt]
  have q4 : ∀ x, (jh_setI s1 64 13 x).2.1 64 14 = nI (tU Z).length := fun x => (rI_ne (by omega)).trans q3
  rw [q4, nI_add]
  have f2 : Fi (fun b j => b = 64 ∧ j = 13) s1 (jh_setI s1 64 13 (nI ((pe + 1) % 16))) := Fi_s (Fi_r _ _) ⟨rfl, rfl⟩
  refine WE_i (j_min (Fi_ly f2 C1.1) (by omega) (by omega)) ?_
  have f3 : Fi (fun b j => b = 64 ∧ (j = 13 ∨ j = 14)) s1 (jh_setI (jh_setI s1 64 13 (nI ((pe + 1) % 16))) 64 14 (nI (min ((tU Z).length + 1) 16))) := Fi_s (Fi_s (Fi_r _ _) ⟨rfl, by omega⟩) ⟨rfl, by omega⟩
  have g13 : (jh_setI (jh_setI s1 64 13 (nI ((pe + 1) % 16))) 64 14 (nI (min ((tU Z).length + 1) 16))).2.1 64 13 = nI ((pe + 1) % 16) := (rI_ne (by omega)).trans rI_eq
  have g14 : (jh_setI (jh_setI s1 64 13 (nI ((pe + 1) % 16))) 64 14 (nI (min ((tU Z).length + 1) 16))).2.1 64 14 = nI (min ((tU Z).length + 1) 16) := rI_eq
  have hl := Fi_ly f3 C1.1
  generalize jh_setI (jh_setI s1 64 13 (nI ((pe + 1) % 16))) 64 14 (nI (min ((tU Z).length + 1) 16)) = s at f3 g13 g14 hl ⊢
  have f : Fg (fun b j => PMc (123 + 4 * pe) b j ∨ (b = 64 ∧ (j = 13 ∨ j = 14))) σ s := Fg_t (Fg_m f1 (fun b j q => Or.inl q)) (Fg_m (Fi_g f3) (fun b j q => Or.inr q))
  have hl2 := rem_len (q := ((tF Z).1, (tF Z).2.1)) h16
  refine ⟨Rc_up z f hl (fun b j _ _ q => by unfold PMc at q; unfold PcU; omega) (cFu_g f (fun b j _ _ => by unfold PMc; omega) z.2.2.2.2.1) ⟨(pe + 1) % 16, by omega, g13, by rw [hl2]; exact g14, fun i q e => ?_⟩ (cMk_g f (by unfold PMc; omega) (fun b j _ _ => by unfold PMc; omega) z.2.2.2.2.2.2.1), Fg_m f (fun b j q => by unfold PMc at q; omega)⟩
  rcases rem_get h16 e with ⟨c1, rfl⟩ | ⟨c1, c2⟩
  · rw [show ((pe + 1) % 16 + 16 - (rem (tU Z) ((tF Z).1, (tF Z).2.1)).length + i) % 16 = pe by omega]
    exact ⟨cM_g (Fi_g f3) (fun b j _ _ => by omega) C1.2.2.2, (f3.2.2 _ _ (by omega)).trans (e1.trans z.2.2.2.2.1.2.1)⟩
  · obtain ⟨a, b⟩ := p4 _ q c2
    have hi2 := (List.getElem?_eq_some_iff.mp c2).1
    rw [show (pe + 16 - (tU Z).length + (i + ((tU Z).length + 1 - (rem (tU Z) ((tF Z).1, (tF Z).2.1)).length))) % 16 = ((pe + 1) % 16 + 16 - (rem (tU Z) ((tF Z).1, (tF Z).2.1)).length + i) % 16 by omega] at a b
    have hne : ((pe + 1) % 16 + 16 - (rem (tU Z) ((tF Z).1, (tF Z).2.1)).length + i) % 16 ≠ pe := by omega
    generalize ((pe + 1) % 16 + 16 - (rem (tU Z) ((tF Z).1, (tF Z).2.1)).length + i) % 16 = r at a b hne ⊢
    exact ⟨cM_g f (fun b j _ _ => by unfold PMc; omega) a, (f.2.1 _ _ (by unfold PMc; omega)).trans b⟩
set_option maxHeartbeats 1000000 in
theorem m_keeps (hZ : WZ Z) (z : Rm Z σ) : WM q_Md_keeps [.ref 204] σ (kV fun s => Rm (zF Z (tF Z) (rem (tU Z) ((tF Z).1, (tF Z).2.1)) (tK Z)) s ∧ Fg (fun b _ => 204 ≤ b ∧ b < 229) σ s) := by
  have hW := hZ.1
  have n8 := hW.1
  have h16 := hZ.2.2.2.2.2.2.2.1
  have hl2 := rem_len (q := ((tF Z).1, (tF Z).2.1)) h16
  obtain ⟨u1, u2⟩ := z.2.2.2.2.2.1
  refine w_Md_keeps z.1 ?_
  have fin : ∀ (o1 : Option Value) s m, m < 16 → Ly s → s.2.1 204 24 = nI m → Fi (fun b j => (b = 218 ∧ 540 ≤ j ∧ j < 2268) ∨ (b = 204 ∧ j = 24)) σ s → (rem (tU Z) ((tF Z).1, (tF Z).2.1)).length = m + 1 → (∀ i q, i < m → (rem (tU Z) ((tF Z).1, (tF Z).2.1))[i]? = some q → mM (tH Z) q.1 (108 * (5 + i)) s ∧ s.2.1 218 (108 * (5 + i) + 1) = q.2) →
      WM q_Md_copies [.ref 204, .int (nI 0), .int (nI 108 * (nI 5 + (s.2.1 204 24))), .int (nI 91)] s (kV fun s4 => Ly s4 ∧ lt (jh_setI s4 204 24 ((s4.2.1 204 24) + nI 1)) (fun s5 => Rm (zF Z (tF Z) (rem (tU Z) ((tF Z).1, (tF Z).2.1)) (tK Z)) s5 ∧ Fg (fun b _ => 204 ≤ b ∧ b < 229) σ s5)) := by
    intro o1 s m hm hl e24 f hlen hq
    rw [e24, nI_add, nI_mulN]
    refine WM_V (m_copies hl (by omega) (by omega) (Or.inl (by omega))) fun s4 ⟨l4, f4, q4⟩ => ⟨l4, ?_⟩
    have e4 : s4.2.1 204 24 = nI m := (f4.2.2 _ _ (by unfold PC; omega)).trans e24
    simp only [lt]
    rw [e4, nI_add]
    have f5 : Fi (fun b j => b = 204 ∧ j = 24) s4 (jh_setI s4 204 24 (nI (m + 1))) := Fi_s (Fi_r _ _) ⟨rfl, rfl⟩
    have e5 : (jh_setI s4 204 24 (nI (m + 1))).2.1 204 24 = nI (m + 1) := rI_eq
    have l5 := Fi_ly f5 l4
    generalize jh_setI s4 204 24 (nI (m + 1)) = s5 at f5 e5 l5 ⊢
    have g : Fi (fun b j => (b = 218 ∧ 540 ≤ j ∧ j < 2268) ∨ (b = 204 ∧ j = 24)) σ s5 := Fi_t f (Fi_t (Fi_m f4 (fun b j q => by unfold PC at q; omega)) (Fi_m f5 (fun b j q => by omega)))
    refine ⟨Rm_up hZ z (Fi_g g) l5 (fun b j _ _ q => by unfold PmU; omega) (mFu_g n8 (Fi_g g) (fun j _ _ => by omega) z.2.2.2.2.1) ⟨by rw [hlen]; exact e5, fun i q e => ?_⟩ (mMk_g n8 (Fi_g g) (fun j => by omega) (fun j _ _ => by omega) z.2.2.2.2.2.2.1), Fg_m (Fi_g g) (fun b j q => by omega)⟩
    by_cases c : i < m
    · obtain ⟨a, b⟩ := hq i q c e
      have f6 : Fi (fun b j => PC (108 * (5 + m)) 91 b j ∨ (b = 204 ∧ j = 24)) s s5 := Fi_t (Fi_m f4 (fun b j q => Or.inl q)) (Fi_m f5 (fun b j q => Or.inr q))
      exact ⟨mM_g n8 (Fi_g f6) (fun j _ _ => by unfold PC; omega) a, (f6.2.2 _ _ (by unfold PC; omega)).trans b⟩
    · have hi := (List.getElem?_eq_some_iff.mp e).1
      have hi : i = m := by omega
      subst hi
      have hq2 : q = ((tF Z).1, (tF Z).2.1) := by
        rcases rem_get h16 e with ⟨_, c2⟩ | ⟨c1, _⟩
        · exact c2
        · omega
      subst hq2
      have M : mM (tH Z) (tF Z).1 0 s := mM_g n8 (Fi_g f) (fun j _ _ => by omega) (Rm_M z)
      refine ⟨mM_g n8 (Fi_g f5) (fun j _ _ => by omega) (mM_copy n8 q4 M), (f5.2.2 _ _ (by omega)).trans ((q4 1 (by omega)).trans ?_)⟩
      rw [f.2.2 _ _ (by omega)]
      exact z.2.2.2.2.1.2.1
  simp only [JJ2]
  by_cases c : (tU Z).length = 16
  · rw [if_pos (by rw [u1, c])]
    refine Lp2_inv (I := fun m v6 s7 => ∃ i, 1 ≤ i ∧ i ≤ 16 ∧ m = 16 - i ∧ v6 = nI i ∧ Ly s7 ∧ Fi (fun b j => b = 218 ∧ 540 ≤ j ∧ j < 2268) σ s7 ∧ (∀ r q, (tU Z)[r]? = some q → i ≤ r → mM (tH Z) q.1 (108 * (5 + r)) s7 ∧ s7.2.1 218 (108 * (5 + r) + 1) = q.2) ∧ (∀ r q, (tU Z)[r + 1]? = some q → r + 1 < i → mM (tH Z) q.1 (108 * (5 + r)) s7 ∧ s7.2.1 218 (108 * (5 + r) + 1) = q.2)) ?_ (m := 15) ⟨1, by omega, by omega, by omega, rfl, z.1, Fi_r _ _, fun r q e _ => u2 r q e, fun r q e w => by omega⟩
    rintro m v6 s7 ⟨i, h1, h2, rfl, rfl, hl, hf, ha, hb⟩ X hX
    refine ⟨hl, ?_⟩
    by_cases d : 16 ≤ i
    · rw [if_pos (by rw [nI_leN (by omega) (by omega)]; exact d)]
      simp only [lt]
      rw [hf.2.2 _ _ (by omega), u1, c, nI_subN (by omega)]
      have f5 : Fi (fun b j => b = 204 ∧ j = 24) s7 (jh_setI s7 204 24 (nI (16 - 1))) := Fi_s (Fi_r _ _) ⟨rfl, rfl⟩
      refine fin none _ 15 (by omega) (Fi_ly f5 hl) rI_eq (Fi_t (Fi_m hf (fun b j q => by omega)) (Fi_m f5 (fun b j q => by omega))) (by omega) (fun r q hr e => ?_)
      rcases rem_get h16 e with ⟨c1, _⟩ | ⟨c1, c2⟩
      · omega
      · rw [show r + ((tU Z).length + 1 - (rem (tU Z) ((tF Z).1, (tF Z).2.1)).length) = r + 1 by omega] at c2
        obtain ⟨a, b⟩ := hb r q c2 (by omega)
        exact ⟨mM_g n8 (Fi_g f5) (fun j _ _ => by omega) a, (f5.2.2 _ _ (by omega)).trans b⟩
    · rw [if_neg (by rw [nI_leN (by omega) (by omega)]; exact d)]
      rw [nI_add, nI_mulN, nI_subN (by omega), nI_mulN]
      refine WM_V (m_copies hl (by omega) (by omega) (Or.inr (by omega))) fun s4 ⟨l4, f4, q4⟩ => ⟨l4, ?_⟩
      rw [nI_add]
      refine hX (16 - (i + 1)) _ _ (by omega) ⟨i + 1, by omega, by omega, rfl, rfl, l4, Fi_t hf (Fi_m f4 (fun b j q => by unfold PC at q; omega)), fun r q e w => ?_, fun r q e w => ?_⟩
      · have hr := (List.getElem?_eq_some_iff.mp e).1
        obtain ⟨a, b⟩ := ha r q e (by omega)
        exact ⟨mM_g n8 (Fi_g f4) (fun j _ _ => by unfold PC; omega) a, (f4.2.2 _ _ (by unfold PC; omega)).trans b⟩
      · by_cases w2 : r + 1 < i
        · obtain ⟨a, b⟩ := hb r q e w2
          exact ⟨mM_g n8 (Fi_g f4) (fun j _ _ => by unfold PC; omega) a, (f4.2.2 _ _ (by unfold PC; omega)).trans b⟩
        · have hr : r = i - 1 := by omega
          obtain ⟨a, b⟩ := ha (r + 1) q e (by omega)
          rw [show 5 + i - 1 = 5 + r by omega, show 5 + i = 5 + (r + 1) by omega] at q4
          exact ⟨mM_copy n8 q4 a, (q4 1 (by omega)).trans b⟩
  · rw [if_neg (by rw [u1, nI_eqN (by omega) (by omega)]; exact c)]
    refine fin none σ (tU Z).length (by omega) z.1 u1 (Fi_r _ _) (by omega) (fun r q hr e => ?_)
    rcases rem_get h16 e with ⟨c1, _⟩ | ⟨c1, c2⟩
    · omega
    · rw [show r + ((tU Z).length + 1 - (rem (tU Z) ((tF Z).1, (tF Z).2.1)).length) = r by omega] at c2
      exact u2 r q c2
end UP2

section ZB
variable {s t σ : JH} {a h : Nat} {D : DD}
theorem Fi_lj {P : Nat → Nat → Prop} (f : Fi P σ s) (hl : Lj D σ) : Lj D s := by
  obtain ⟨s1, s2, s3⟩ := s
  obtain ⟨e1, e2, -⟩ := f
  have e1 : s1 = σ.1 := e1
  have e2 : s3 = σ.2.2 := e2
  subst e1 e2
  exact hl
theorem z_people (hl : Lj D σ) (hh : Kho D h) (h8 : σ.2.1 h 8 = nI 0) (h9 : σ.2.1 h 9 = nI 0) : q_Ho_peopleBits [.ref h] σ = some (some (.int (nI 0)), σ) := by
  refine WE_o (wz_Ho_peopleBits h hl hh ?_)
  have e : q_Ho_allBits [.ref h] σ = some (some (.int (nI 0)), σ) := by
    refine WE_o (wz_Ho_allBits h hl hh ?_)
    rw [h8]; decide
  refine WE_i e ?_
  rw [h9]; decide
theorem z_pairs (hl : Lj D σ) (hh : Kho D h) (h8 : σ.2.1 h 8 = nI 0) : q_Ho_pairsIn [.ref h, .ref (h + 5)] σ = some (some (.int (nI 0)), σ) := by
  have hq : Ka8 D (h + 5) := by unfold Kho at hh; subst hh; rfl
  refine WE_o (wz_Ho_pairsIn h (h + 5) hl hh hq ?_)
  refine Lp2_inv (I := fun _ v1 v2 => v1 = nI 0 ∧ v2 = nI 0) ?_ (m := 0) ⟨rfl, rfl⟩
  rintro m v1 v2 ⟨rfl, rfl⟩ X hX
  rw [h8, if_pos (by decide)]
  decide
theorem z_clear (hl : Lj D σ) (hh : Kho D h) : WM q_Ho_clear [.ref h] σ (kV fun s => Lj D s ∧ Fi (PHo h) σ s ∧ s.2.1 h 8 = nI 0 ∧ s.2.1 h 9 = nI 0 ∧ s.2.1 h 10 = nI 0 ∧ s.2.1 h 12 = nI 9 ∧ s.2.1 h 14 = nI 0 ∧ s.2.1 (h + 8) 2 = nI 0) := by
  refine wz_Ho_clear h hl hh ?_
  refine Lp2_inv (I := fun m v s => ∃ i, i ≤ 8 ∧ m = 8 - i ∧ v = nI i ∧ Lj D s ∧ Fi (PHo h) σ s) ?_ (m := 8) ⟨0, by omega, rfl, rfl, hl, Fi_r _ _⟩
  rintro m v s ⟨i, hi, rfl, rfl, l, f⟩ X hX
  refine ⟨l, ?_⟩
  by_cases c : i = 8
  · rw [if_pos (by rw [c, nI_leN (by omega) (by omega)]; exact Nat.le_refl _)]
    refine wz_La_clear (h + 8) l (zla_Ho hh) ?_
    simp only [lt]
    have g : Fi (fun b j => (b = h + 8 ∧ j = 2) ∨ (b = h ∧ 8 ≤ j)) s (jh_setI (jh_setI (jh_setI (jh_setI (jh_setI (jh_setI (jh_setI (jh_setI s (h + 8) 2 (nI 0)) h 8 (nI 0)) h 9 (nI 0)) h 10 (nI 0)) h 11 (nI 0)) h 12 (nI 9)) h 13 (nI 0)) h 14 (nI 0)) := Fi_s (Fi_s (Fi_s (Fi_s (Fi_s (Fi_s (Fi_s (Fi_s (Fi_r _ _) (by omega)) (by omega)) (by omega)) (by omega)) (by omega)) (by omega)) (by omega)) (by omega)
    refine ⟨l, Fi_lj g l, Fi_t f (Fi_m g (fun b j q => by unfold PHo; omega)), ?_, ?_, ?_, ?_, ?_, ?_⟩ <;> simp (disch := omega) only [rI_eq, rI_ne]
  · rw [if_neg (by rw [nI_leN (by omega) (by omega)]; omega)]
    have hin : inb (nI i) 8 := by rw [inb_nI (by omega) (by omega)]; omega
    refine ⟨hin, ?_⟩
    simp only [lt]
    refine ⟨hin, hin, ?_⟩
    rw [nI_add]
    have f2 : Fi (PHo h) σ (jh_setI (jh_setI (jh_setI s (h + 4) (cl (nI i)) (nI i)) (h + 5) (cl (nI i)) (nI 0)) (h + 6) (cl (nI i)) (nI 0)) := Fi_s (Fi_s (Fi_s f (by unfold PHo; omega)) (by unfold PHo; omega)) (by unfold PHo; omega)
    exact hX (8 - (i + 1)) _ _ (by omega) ⟨i + 1, by omega, rfl, rfl, Fi_lj f2 hl, f2⟩
theorem z_close (hl : Lj D σ) (hh : Kho D h) (h8 : σ.2.1 h 8 = nI 0) (h14 : σ.2.1 h 14 = nI 0) (h2 : σ.2.1 (h + 8) 2 = nI 0) : WM q_Ho_close [.ref h] σ (kV fun s => Lj D s ∧ Fi (fun b j => (b = h + 8 ∧ j = 2) ∨ b = h + 9) σ s ∧ s.2.1 (h + 8) 2 = nI 1 ∧ s.2.1 (h + 9) 0 = mI 1) := by
  refine wz_Ho_close h hl hh ?_
  refine Lp2_inv (I := fun _ v s => v = nI 0 ∧ s = σ) ?_ (m := 0) ⟨rfl, rfl⟩
  rintro m v s ⟨rfl, rfl⟩ X hX
  refine ⟨hl, ?_⟩
  rw [h8, if_pos (by decide), h14, if_pos (by decide)]
  refine wz_La_add (h + 8) _ hl (zla_Ho hh) ?_
  rw [h2, if_neg (by decide)]
  refine ⟨by rw [inb_nI (by omega) (by omega)]; omega, ?_⟩
  simp only [lt]
  have e : cl (nI 0) = 0 := by decide
  have f : Fi (fun b j => (b = h + 8 ∧ j = 2) ∨ b = h + 9) s (jh_setI (jh_setI s (h + 8 + 1) (cl (nI 0)) (mI 1)) (h + 8) 2 ((jh_setI s (h + 8 + 1) (cl (nI 0)) (mI 1)).2.1 (h + 8) 2 + nI 1)) := Fi_s (Fi_s (Fi_r _ _) (by omega)) (by omega)
  refine ⟨Fi_lj f hl, Fi_lj f hl, f, ?_, ?_⟩
  · rw [rI_eq, rI_ne (by omega), h2]; decide
  · rw [rI_ne (by omega), e]; exact rI_eq
theorem z_begin (hl : Lj D σ) (ha : Kmu D a) (hh : Kho D h) (h8 : σ.2.1 h 8 = nI 0) (h9 : σ.2.1 h 9 = nI 0) : WM q_Mu_begin [.ref a, .ref h] σ (kV fun s => Lj D s ∧ Fg (PMb a) σ s ∧ s.2.2.2 a 3 = some h ∧ (∀ j, 4 ≤ j → j ≤ 9 → s.2.1 a j = nI 0) ∧ s.2.1 a 11 = nI 0 ∧ s.2.2.1 a 10 = 0) := by
  have hha : h + 11 ≤ a := by
    obtain ⟨e1, e2, e3⟩ := ha
    unfold Kho at hh
    omega
  refine wz_Mu_begin a h hl ha hh ?_
  simp only [lt]
  have l1 : Lj D (jh_setR σ a 3 (some h)) := zly_put_Mu_3 hl ha hh
  have g1 : Fg (PMb a) σ (jh_setR σ a 3 (some h)) := Fg_sR (Fg_r _ _) (by unfold PMb; omega)
  have r1 : (jh_setR σ a 3 (some h)).2.2.2 a 3 = some h := if_pos ⟨rfl, rfl⟩
  generalize jh_setR σ a 3 (some h) = s1 at l1 g1 r1
  have n8 : s1.2.1 h 8 = nI 0 := (g1.2.1 _ _ (by unfold PMb; omega)).trans h8
  have n9 : s1.2.1 h 9 = nI 0 := (g1.2.1 _ _ (by unfold PMb; omega)).trans h9
  refine WE_i (z_people l1 hh n8 n9) ?_
  have f2 : Fi (fun b j => b = a ∧ 4 ≤ j ∧ j ≤ 7) s1 (jh_setI (jh_setI (jh_setI (jh_setI s1 a 4 (nI 0)) a 5 (nI 0)) a 6 (nI 0)) a 7 (nI 0)) := Fi_s (Fi_s (Fi_s (Fi_s (Fi_r _ _) (by omega)) (by omega)) (by omega)) (by omega)
  have v2 : ∀ j, 4 ≤ j → j ≤ 7 → (jh_setI (jh_setI (jh_setI (jh_setI s1 a 4 (nI 0)) a 5 (nI 0)) a 6 (nI 0)) a 7 (nI 0)).2.1 a j = nI 0 := by
    intro j h1 h2
    rcases (show j = 4 ∨ j = 5 ∨ j = 6 ∨ j = 7 by omega) with rfl | rfl | rfl | rfl <;> simp (disch := omega) only [rI_ne, rI_eq]
  generalize jh_setI (jh_setI (jh_setI (jh_setI s1 a 4 (nI 0)) a 5 (nI 0)) a 6 (nI 0)) a 7 (nI 0) = s2 at f2 v2
  have l2 := Fi_lj f2 l1
  refine WE_i (z_pairs l2 hh ((f2.2.2 _ _ (by omega)).trans n8)) ?_
  have g3 : Fg (PMb a) σ (jh_setI (jh_setJ (jh_setI (jh_setI s2 a 8 (nI 0)) a 9 (nI 0)) a 10 0) a 11 (nI 0)) := Fg_sI (Fg_sJ (Fg_sI (Fg_sI (Fg_t g1 (Fg_m (Fi_g f2) (fun b j q => by unfold PMb; omega))) (by unfold PMb; omega)) (by unfold PMb; omega)) (by unfold PMb; omega)) (by unfold PMb; omega)
  have l3 : Lj D (jh_setI (jh_setJ (jh_setI (jh_setI s2 a 8 (nI 0)) a 9 (nI 0)) a 10 0) a 11 (nI 0)) := l2
  have r3 : (jh_setI (jh_setJ (jh_setI (jh_setI s2 a 8 (nI 0)) a 9 (nI 0)) a 10 0) a 11 (nI 0)).2.2.2 a 3 = some h := by
    show s2.2.2.2 a 3 = _
    rw [f2.2.1]; exact r1
  have v3 : ∀ j, 4 ≤ j → j ≤ 9 → (jh_setI (jh_setJ (jh_setI (jh_setI s2 a 8 (nI 0)) a 9 (nI 0)) a 10 0) a 11 (nI 0)).2.1 a j = nI 0 := by
    intro j h1 h2
    rw [rI_ne (by omega), rJ_1]
    by_cases c : j = 9
    · rw [c, rI_eq]
    · rw [rI_ne (by omega)]
      by_cases d : j = 8
      · rw [d, rI_eq]
      · rw [rI_ne (by omega)]; exact v2 j h1 (by omega)
  have v11 : (jh_setI (jh_setJ (jh_setI (jh_setI s2 a 8 (nI 0)) a 9 (nI 0)) a 10 0) a 11 (nI 0)).2.1 a 11 = nI 0 := rI_eq
  have v10 : (jh_setI (jh_setJ (jh_setI (jh_setI s2 a 8 (nI 0)) a 9 (nI 0)) a 10 0) a 11 (nI 0)).2.2.1 a 10 = 0 := by
    rw [rJ_I, rJ_eq]
  generalize jh_setI (jh_setJ (jh_setI (jh_setI s2 a 8 (nI 0)) a 9 (nI 0)) a 10 0) a 11 (nI 0) = s3 at g3 l3 r3 v3 v10 v11
  refine Lp2_inv (I := fun m v t => ∃ i, i ≤ 8 ∧ m = 8 - i ∧ v = nI i ∧ Fi (fun b _ => a < b ∧ b < a + 4) s3 t) ?_ (m := 8) ⟨0, by omega, by omega, rfl, Fi_r _ _⟩
  rintro m v t ⟨i, hi, rfl, rfl, f⟩ X hX
  have hlt := Fi_lj f l3
  refine ⟨hlt, ?_⟩
  by_cases c : 8 ≤ i
  · rw [if_pos (by rw [nI_leN (by omega) (by omega)]; exact c)]
    have gt : Fg (PMb a) σ t := Fg_t g3 (Fg_m (Fi_g f) (fun b j q => by unfold PMb; omega))
    refine Lp2_inv (I := fun _ v u => v = nI 0 ∧ u = t) ?_ (m := 0) ⟨rfl, rfl⟩
    rintro m' v' u ⟨rfl, rfl⟩ X' hX'
    refine ⟨hlt, ?_⟩
    rw [if_pos (by rw [gt.2.1 h 8 (by unfold PMb; omega), h8]; decide)]
    refine ⟨hlt, gt, ?_, fun j h1 h2 => (f.2.2 a j (by omega)).trans (v3 j h1 h2), (f.2.2 a 11 (by omega)).trans v11, ?_⟩
    · rw [f.2.1]; exact r3
    · rw [f.2.1]; exact v10
  · rw [if_neg (by rw [nI_leN (by omega) (by omega)]; exact c)]
    have hin : inb (nI i) 8 := by rw [inb_nI (by omega) (by omega)]; omega
    refine ⟨hin, hin, ?_⟩
    refine ⟨hin, hin, hin, hX _ _ _ (by omega) ⟨i + 1, by omega, rfl, nI_add i 1, Fi_s (Fi_s (Fi_s f (by omega)) (by omega)) (by omega)⟩⟩
end ZB

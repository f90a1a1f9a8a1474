/-! ===== most, chance, muddles, least, cheap, fewest, best ===== -/
section SR
variable {Z : Ste} {x y w : Int32} {h pl : Nat} {s t σ : JH} {P : Nat → Nat → Prop}
theorem rng_c {m : Nat} (hm : m < 1000) (x : Int32) : (∃ j, j ≤ m ∧ x = nI j) ∨ ((x < 0 ∨ (¬ x < 0 ∧ nI m < x)) ∧ decide (¬ x < nI 0 ∧ ¬ nI m < x) = false) := by
  by_cases c : ¬ x < nI 0 ∧ ¬ nI m < x
  · exact Or.inl (in_rng (by omega) c)
  · refine Or.inr ⟨?_, decide_eq_false c⟩
    by_cases d : x < 0
    · exact Or.inl d
    · refine Or.inr ⟨d, ?_⟩
      by_cases e : nI m < x
      · exact e
      · exact absurd ⟨d, e⟩ c
theorem no_c {α : Prop} {m : Nat} {x : Int32} (g : x < 0 ∨ (¬ x < 0 ∧ nI m < x)) {A B : Prop} (h : A) : if x < 0 then A else if nI m < x then A else B := by
  rcases g with g | ⟨g, g2⟩
  · rw [if_pos g]; exact h
  · rw [if_neg g, if_pos g2]; exact h
theorem yes_c {j m : Nat} (hj : j ≤ m) (hm : m < 1000) {A B : Prop} (h : B) : if nI j < 0 then A else if nI m < nI j then A else B := by
  rw [if_neg (by rw [nI_lt0 (by omega)]; exact id), if_neg (by rw [nI_ltN (by omega) (by omega)]; omega)]
  exact h
theorem yes_m {j m : Nat} {s : JH} (hl : Ly s) (hj : j ≤ m) (hm : m < 1000) : q_Md_within [.int (nI j), .int (nI 0), .int (nI m)] s = some (some (.int (bI true)), s) := by
  rw [m_within hl, decide_eq_true]
  rw [nI_ltN (by omega) (by omega), nI_ltN (by omega) (by omega)]
  omega
/-- the class tried something, and nothing of its state has changed -/
theorem Rc_ok (z : Rc Z h pl s) (f : Fg P s t) (hl : Ly t) (hP : ∀ b j, P b j → PcT b j) : Rc Z h pl t ∧ Fg (fun b _ => 64 ≤ b ∧ b < 204) s t := ⟨Rc_f z f hl (fun b j _ _ q => hP b j q), Fg_m f (fun b j q => by have := hP b j q; unfold PcT at this; omega)⟩
theorem Rm_ok (hZ : WZ Z) (z : Rm Z s) (f : Fg P s t) (hl : Ly t) (hP : ∀ b j, P b j → PmT b j) : Rm Z t ∧ Fg (fun b _ => 204 ≤ b ∧ b < 229) s t := ⟨Rm_f hZ z f hl (fun b j _ _ q => hP b j q), Fg_m f (fun b j q => by have := hP b j q; unfold PmT at this; omega)⟩
set_option maxHeartbeats 1000000 in
theorem a_most (hZ : WZ Z) : Agr q_Ct_most [.ref 64, .int x] q_Md_most [.ref 204, .int x] Z := by
  have hW := hZ.1
  rcases rng_c (m := 3) (by omega) x with ⟨d, hd, rfl⟩ | ⟨g1, g2⟩
  · refine Agr_q (mN (mostR (tH Z) d (tF Z).1 0)) hZ (fun h pl σ z => w_Ct_most _ z.1.1 (yes_c hd (by omega) ?_)) (fun σ z => w_Md_most _ z.1 (lt_thr hZ z fun s z' f' => ?_))
    · refine w_Ta_mostWrong 114 _ z.1.1 mu_114 ?_
      refine WM_V (c_copy mu_110 mu_114 (by omega) hW (Rc_Cs z)) fun s1 ⟨C1, f1, _⟩ => ⟨C1.1, ?_⟩
      simp only [lt]
      have f2 : Fi (fun b j => b = 107 ∧ j = 4) s1 (jh_setI s1 107 4 (mI 1)) := Fi_s (Fi_r _ _) ⟨rfl, rfl⟩
      have C2 := Cs_f C1 f2 (fun j _ => by omega) (fun b j _ _ => by omega) (fun b j _ _ => by omega)
      refine WM_V (c_raise hW 40 d (by omega) _ 0 _ hd hZ.2.1 C2 (by omega) rI_eq) fun s3 ⟨C3, f3, e3⟩ => ⟨C3.1, C3.1, ?_⟩
      have f : Fg (fun b j => PMc 110 b j ∨ PRa b j) σ s3 := Fg_t (Fg_m f1 (fun b j q => Or.inl q)) (Fg_t (Fg_m (Fi_g f2) (fun b j q => Or.inr (by unfold PRa; omega))) (Fg_m (Fi_g f3) (fun b j q => Or.inr q)))
      obtain ⟨r1, r2⟩ := Rc_ok z f C3.1 (fun b j q => by unfold PMc PRa PM at q; unfold PcT; omega)
      exact ⟨by rw [e3, ra_most hW d _ 0 hZ.2.1], r1, r2⟩
    · refine WE_i (yes_m z'.1 hd (by omega)) ?_
      rw [if_neg (by decide)]
      refine m_toOther hW (Rm_Mb z') fun s1 M1 f1 => ⟨M1.1, ?_⟩
      simp only [lt]
      have f2 : Fi (fun b j => b = 204 ∧ j = 34) s1 (jh_setI s1 204 34 (mI 1)) := Fi_s (Fi_r _ _) ⟨rfl, rfl⟩
      have M2 := Ms_f hW M1 f2 (fun b j _ _ => by omega) (fun j => by omega)
      refine WM_V (m_mostFrom hW 40 d (by omega) hd _ _ 0 _ hZ.2.1 M2 (by omega) rI_eq) fun s3 ⟨M3, f3, e3⟩ => ⟨M3.1, ?_⟩
      have f : Fi (fun b j => PC 2376 91 b j ∨ PMo b j) s s3 := Fi_t (Fi_m f1 (fun b j q => Or.inl q)) (Fi_t (Fi_m f2 (fun b j q => Or.inr (by unfold PMo; omega))) (Fi_m f3 (fun b j q => Or.inr q)))
      obtain ⟨r1, r2⟩ := Rm_ok hZ z' (Fi_g f) M3.1 (fun b j q => by unfold PC PMo PT at q; unfold PmT; omega)
      exact ⟨e3, r1, Fg_t f' r2⟩
  · refine Agr_q (mI 1) hZ (fun h pl σ z => w_Ct_most _ z.1.1 (no_c (α := True) g1 ⟨rfl, z, Fg_r _ _⟩)) (fun σ z => w_Md_most _ z.1 (lt_thr hZ z fun s z' f' => WE_i (m_within z'.1) ?_))
    rw [g2]
    exact ⟨rfl, z', f'⟩
set_option maxHeartbeats 1000000 in
theorem a_chance (hZ : WZ Z) : Agr q_Ct_chance [.ref 64, .int x] q_Md_chance [.ref 204, .int x] Z := by
  have hW := hZ.1
  rcases rng_c (m := 3) (by omega) x with ⟨d, hd, rfl⟩ | ⟨g1, g2⟩
  · refine Agr_q (nI (chn (tH Z) d 1000000 (tF Z).1)) hZ (fun h pl σ z => w_Ct_chance _ z.1.1 (yes_c hd (by omega) ?_)) (fun σ z => w_Md_chance _ z.1 (lt_thr hZ z fun s z' f' => ?_))
    · refine w_Ta_chanceOfHome 114 _ z.1.1 mu_114 ?_
      refine WM_V (c_copy mu_110 mu_114 (by omega) hW (Rc_Cs z)) fun s1 ⟨C1, f1, _⟩ => ⟨C1.1, ?_⟩
      refine WM_I (c_share hW 40 d (by omega) _ 1000000 _ hd (by omega) hZ.2.1 C1) fun y s3 ⟨e3, C3, f3⟩ => ⟨C3.1, C3.1, ?_⟩
      have f : Fg (fun b j => PMc 110 b j ∨ PM 110 b j) σ s3 := Fg_t (Fg_m f1 (fun b j q => Or.inl q)) (Fg_m (Fi_g f3) (fun b j q => Or.inr q))
      obtain ⟨r1, r2⟩ := Rc_ok z f C3.1 (fun b j q => by unfold PMc PM at q; unfold PcT; omega)
      exact ⟨by rw [e3, sh_chn hW d _ _ hZ.2.1], r1, r2⟩
    · refine WE_i (yes_m z'.1 hd (by omega)) ?_
      rw [if_neg (by decide)]
      refine m_toOther hW (Rm_Mb z') fun s1 M1 f1 => ⟨M1.1, ?_⟩
      refine WM_I (m_chanceFrom hW 40 d (by omega) _ _ 1000000 _ hd (by omega) hZ.2.1 M1) fun y s3 ⟨e3, M3, f3⟩ => ⟨M3.1, ?_⟩
      have f : Fi (fun b j => PC 2376 91 b j ∨ PT 2376 b j) s s3 := Fi_t (Fi_m f1 (fun b j q => Or.inl q)) (Fi_m f3 (fun b j q => Or.inr q))
      obtain ⟨r1, r2⟩ := Rm_ok hZ z' (Fi_g f) M3.1 (fun b j q => by unfold PC PT at q; unfold PmT; omega)
      exact ⟨e3, r1, Fg_t f' r2⟩
  · refine Agr_q (mI 1) hZ (fun h pl σ z => w_Ct_chance _ z.1.1 (no_c (α := True) g1 ⟨rfl, z, Fg_r _ _⟩)) (fun σ z => w_Md_chance _ z.1 (lt_thr hZ z fun s z' f' => WE_i (m_within z'.1) ?_))
    rw [g2]
    exact ⟨rfl, z', f'⟩
theorem cTb_nil {s : JH} (e : s.2.1 107 3 = nI 0) (h : ∀ j, j < 1024 → s.2.1 108 j = mI 1) : cTb [] s :=
  ⟨e, fun v hv => (by cases hv), fun _ => none, ⟨fun i _ v q => (by cases q), fun v hv => (by cases hv), fun i _ j _ v q => (by cases q)⟩, fun i hi => h i hi⟩
set_option maxHeartbeats 1000000 in
theorem a_muddles (hZ : WZ Z) : Agr q_Ct_muddles [.ref 64, .int x] q_Md_muddles [.ref 204, .int x] Z := by
  have hW := hZ.1
  rcases rng_c (m := 2) (by omega) x with ⟨d, hd, rfl⟩ | ⟨g1, g2⟩
  · have h28 : (0 : Nat) + 28 ^ d ≤ 790 := by
      have : d = 0 ∨ d = 1 ∨ d = 2 := by omega
      rcases this with rfl | rfl | rfl <;> decide
    refine Agr_q (nI (mudR (tH Z) d (tF Z).1 []).length) hZ (fun h pl σ z => w_Ct_muddles _ z.1.1 (yes_c hd (by omega) ?_)) (fun σ z => w_Md_muddles _ z.1 (lt_thr hZ z fun s z' f' => ?_))
    · refine w_Ta_muddlesBehind 114 _ z.1.1 mu_114 ?_
      refine WM_V (c_copy mu_110 mu_114 (by omega) hW (Rc_Cs z)) fun s1 ⟨C1, f1, _⟩ => ⟨C1.1, ?_⟩
      simp only [lt]
      have f2 : Fi PTb s1 (jh_setI s1 107 3 (nI 0)) := Fi_s (Fi_r _ _) (by unfold PTb; omega)
      refine Lp2_inv (I := fun m v3 s4 => ∃ i, i ≤ 1024 ∧ m = 1024 - i ∧ v3 = nI i ∧ Ly s4 ∧ Fi PTb s1 s4 ∧ s4.2.1 107 3 = nI 0 ∧ ∀ j, j < i → s4.2.1 108 j = mI 1) ?_ (m := 1024) ⟨0, by omega, by omega, rfl, Fi_ly f2 C1.1, f2, rI_eq, fun j hj => by omega⟩
      rintro m v3 s4 ⟨i, hi, rfl, rfl, l4, f4, e4, t4⟩ X hX
      refine ⟨l4, ?_⟩
      by_cases c : 1024 ≤ i
      · rw [if_pos (by rw [nI_leN (by omega) (by omega)]; exact c)]
        have C4 := Cs_f C1 f4 (fun j _ => by unfold PTb; omega) (fun b j _ _ => by unfold PTb; omega) (fun b j _ _ => by unfold PTb; omega)
        refine WM_V (c_gather hW 40 d (by omega) _ [] _ hd h28 hZ.2.1 C4 (cTb_nil e4 (fun j hj => t4 j (by omega)))) fun s6 ⟨C6, f6, T6⟩ => ⟨C6.1, C6.1, ?_⟩
        have f : Fg (fun b j => PMc 110 b j ∨ PGa b j) σ s6 := Fg_t (Fg_m f1 (fun b j q => Or.inl q)) (Fg_t (Fg_m (Fi_g f4) (fun b j q => Or.inr (Or.inr q))) (Fg_m (Fi_g f6) (fun b j q => Or.inr q)))
        obtain ⟨r1, r2⟩ := Rc_ok z f C6.1 (fun b j q => by unfold PMc PGa PM PTb at q; unfold PcT; omega)
        exact ⟨T6.1, r1, r2⟩
      · rw [if_neg (by rw [nI_leN (by omega) (by omega)]; exact c)]
        refine ⟨by rw [inb_nI (by omega) (by omega)]; omega, ?_⟩
        rw [cl_nI (by omega), nI_add]
        have f5 : Fi PTb s1 (jh_setI s4 108 i (mI 1)) := Fi_s f4 (by unfold PTb; omega)
        refine hX (1024 - (i + 1)) _ _ (by omega) ⟨i + 1, by omega, rfl, rfl, Fi_ly f5 C1.1, f5, (rI_ne (by omega)).trans e4, fun j hj => ?_⟩
        by_cases w : j = i
        · rw [w]; exact rI_eq
        · exact (rI_ne (by omega)).trans (t4 j (by omega))
    · refine WE_i (yes_m z'.1 hd (by omega)) ?_
      rw [if_neg (by decide)]
      refine m_toOther hW (Rm_Mb z') fun s1 M1 f1 => ⟨M1.1, ?_⟩
      simp only [lt]
      have f2 : Fi (fun b j => b = 204 ∧ j = 40) s1 (jh_setI s1 204 40 (nI 0)) := Fi_s (Fi_r _ _) ⟨rfl, rfl⟩
      have M2 := Ms_f hW M1 f2 (fun b j _ _ => by omega) (fun j => by omega)
      refine WM_V (m_muddlesFrom hW 40 d (by omega) _ _ [] _ hd h28 hZ.2.1 M2 ⟨rI_eq, fun i v e => by cases e⟩) fun s3 ⟨M3, f3, e3⟩ => ⟨M3.1, ?_⟩
      have f : Fg (fun b j => PC 2376 91 b j ∨ PMu b j) s s3 := Fg_t (Fg_m (Fi_g f1) (fun b j q => Or.inl q)) (Fg_t (Fg_m (Fi_g f2) (fun b j q => Or.inr (by unfold PMu; omega))) (Fg_m f3 (fun b j q => Or.inr q)))
      obtain ⟨r1, r2⟩ := Rm_ok hZ z' f M3.1 (fun b j q => by unfold PC PMu PT at q; unfold PmT; omega)
      exact ⟨e3.1, r1, Fg_t f' r2⟩
  · refine Agr_q (mI 1) hZ (fun h pl σ z => w_Ct_muddles _ z.1.1 (no_c (α := True) g1 ⟨rfl, z, Fg_r _ _⟩)) (fun σ z => w_Md_muddles _ z.1 (lt_thr hZ z fun s z' f' => WE_i (m_within z'.1) ?_))
    rw [g2]
    exact ⟨rfl, z', f'⟩
end SR

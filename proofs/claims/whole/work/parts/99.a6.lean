/-! ===== the class's small constructors ===== -/
section ZS
variable {L : JL} {st : List Value} {σ s t σ0 : JH} {os : List JO} {K : JS → Prop} {a b c d e h r m k ci w : Nat} {n n1 n2 n' : Int} {B T : List (Nat × Nat)} {x : Int32} {R Q : List (Nat × Nat × Nat)}
theorem z_Tp_init (h0 : Cn B T σ) (hc : 64 + T.length = a + 1) (hs : σ.1[a]? = some (9, 9)) : WM q_Tp_init [.ref a] σ (kV fun s => Cn B (T ++ [(102, 1000)]) s ∧ Up σ s ∧ s.1[a + 1]? = some (102, 1000) ∧ s.2.2.2 a 0 = some (a + 1) ∧ s.2.2.2 a 4 = some 21 ∧ Fo a σ s ∧ s.2.1 a 1 = σ.2.1 a 1) := by
  refine wm_V [some (.ref a)] (Nat.le_of_ble_eq_true rfl) rfl (wp_rt (wn_jn (wo_aload rfl (wn_nil (wn_jn (wn_oi rfl ?_))))))
  refine zn_arr (c := a + 1) h0 hs hc rfl (by decide) (m := 1000) (by decide) (by decide) rfl fun s1 c1 u1 w1 a1 => ?_
  refine wo_aload rfl (wo_stat (wo_putR (m := 9) (k := 4) (u1 _ _ hs) rfl (wo_aload rfl (wo_ipush (c := mI 1) rfl (wo_putI (m := 9) (k := 6) (show (jh_setR s1 a 4 (some 21)).1[a]? = some (9, 9) from u1 _ _ hs) rfl (wn_nil ⟨rfl, e_V ⟨Cn_1 c1 rfl, Up_t u1 (Up_e rfl), w1, ?_, ?_, ?_, ?_⟩⟩))))))
  · exact (if_neg (fun q => by omega)).trans a1.1
  · exact if_pos ⟨rfl, rfl⟩
  · exact Fo_t (Fo_A a1 (by omega) (by omega)) (Fo_t (Fo_R (Nat.le_refl _)) (Fo_I (Nat.le_refl _)))
  · exact (rI_ne (by omega)).trans (a1.2.1 a 1 (by omega))
theorem z_Lr_init (h0 : Cn B T σ) (hs : σ.1[a]? = some (2, 1)) : WM q_Lr_init [.ref a, .ref r] σ (kV fun s => Cn B T s ∧ Up σ s ∧ s.2.2.2 a 0 = some r ∧ Fo a σ s) := by
  refine wm_V [some (.ref a), some (.ref r)] (Nat.le_of_ble_eq_true rfl) rfl (wp_rt (wn_jn (wo_aload rfl (wn_nil (wn_jn (wn_oi rfl ?_))))))
  refine wo_aload rfl (wo_aload rfl (wo_putF (k := 0) hs rfl (wn_nil ⟨rfl, e_V ⟨Cn_1 h0 rfl, Up_e rfl, if_pos ⟨rfl, rfl⟩, Fo_R (Nat.le_refl _)⟩⟩)))
theorem z_Re_init (h0 : Cn B T σ) (hc : 64 + T.length = a + 1) (hs : σ.1[a]? = some (5, 2)) : WM q_Re_init [.ref a, .ref r] σ (kV fun s => Cn B (T ++ [(2, 1)]) s ∧ Up σ s ∧ s.1[a + 1]? = some (2, 1) ∧ s.2.2.2 a 0 = some r ∧ s.2.2.2 a 1 = some (a + 1) ∧ s.2.2.2 (a + 1) 0 = some r ∧ Fo a σ s) := by
  refine wm_V [some (.ref a), some (.ref r)] (Nat.le_of_ble_eq_true rfl) rfl (wp_rt (wn_jn (wo_aload rfl (wn_nil (wn_jn (wn_oi rfl (wn_jn ?_)))))))
  have c1 : Cn B T (jh_setR σ a 0 (some r)) := Cn_1 h0 rfl
  have f1 : Fo a σ (jh_setR σ a 0 (some r)) := Fo_R (Nat.le_refl _)
  have r1 : (jh_setR σ a 0 (some r)).2.2.2 a 0 = some r := if_pos ⟨rfl, rfl⟩
  have s1 : (jh_setR σ a 0 (some r)).1[a]? = some (5, 2) := hs
  have u1 : Up σ (jh_setR σ a 0 (some r)) := Up_e rfl
  refine wo_aload rfl (wo_aload rfl (wo_putF (k := 0) hs rfl (wo_aload rfl ?_)))
  generalize jh_setR σ a 0 (some r) = t at c1 f1 r1 s1 u1
  refine wo_new (m := 1) c1 hc rfl (wo_dupr (wo_aload rfl (wn_nil (wn_jn ?_))))
  have e : t.1.length = a + 1 := (Cn_len c1).trans hc
  refine wc_ci [.ref r, .ref (a + 1)] rfl rfl rfl (z_Lr_init (Cn_new c1 (by decide)) (At_n c1 hc)) fun v ⟨v1, v2, v3, v4⟩ => ?_
  have f2 : Fo (a + 1) t v := Fo_t (Fo_n (by omega)) v4
  refine wo_putF (m := 2) (k := 1) (v2 _ _ (Up_n _ _ s1)) rfl (wn_nil ⟨rfl, e_V ⟨Cn_1 v1 rfl, Up_t u1 (Up_t Up_n (Up_t v2 (Up_e rfl))), v2 _ _ (At_n c1 hc), ?_, if_pos ⟨rfl, rfl⟩, ?_, Fo_t f1 (Fo_t (Fo_m f2 (by omega)) (Fo_R (Nat.le_refl _)))⟩⟩)
  · exact (if_neg (fun q => by omega)).trans ((f2.2.2 a 0 (by omega)).trans r1)
  · exact (if_neg (fun q => by omega)).trans v3
theorem z_Ri_init (h : Cn B T σ) (hc : 64 + T.length = a + 1) (hs : σ.1[a]? = some (6, 6)) : WM q_Ri_init [.ref a] σ (kV fun s => Cn B (T ++ [(100, 24)] ++ [(100, 8)]) s ∧ Up σ s ∧ s.1[a + 1]? = some (100, 24) ∧ s.1[a + 2]? = some (100, 8) ∧ s.2.2.2 a 0 = some (a + 1) ∧ s.2.2.2 a 1 = some (a + 2) ∧ Fo a σ s) := by
  refine wm_V [some (.ref a)] (Nat.le_of_ble_eq_true rfl) rfl (wp_rt (wn_jn (wo_aload rfl (wn_nil (wn_jn (wn_oi rfl ?_))))))
  refine zn_arr h hs hc rfl (by decide) (m := 24) (by decide) (by decide) rfl fun s1 c1 u1 w1 a1 => ?_
  refine zn_arr (c := a + 2) c1 (u1 _ _ hs) (by rw [List.length_append]; show 64 + (T.length + 1) = _; omega) rfl (by decide) (m := 8) (by decide) (by decide) rfl fun s2 c2 u2 w2 a2 => ?_
  refine wn_nil ⟨rfl, e_V ⟨c2, fun i q e => u2 i q (u1 i q e), u2 _ _ w1, w2, (a2.2.2.2 a 0 (by omega) (by omega)).trans a1.1, a2.1, Fo_t (Fo_A a1 (by omega) (by omega)) (Fo_A a2 (by omega) (by omega))⟩⟩
theorem z_Pl_init2 (h : Cn B T σ) (hc : 64 + T.length = a + 1) (hs : σ.1[a]? = some (4, 3)) : WM q_Pl_init [.ref a] σ (kV fun s => Cn B (T ++ [(100, 30)] ++ [(100, 90)]) s ∧ Up σ s ∧ s.1[a + 1]? = some (100, 30) ∧ s.1[a + 2]? = some (100, 90) ∧ s.2.2.2 a 0 = some (a + 1) ∧ s.2.2.2 a 1 = some (a + 2) ∧ Fo a σ s ∧ s.2.1 a 2 = σ.2.1 a 2) := by
  refine wm_V [some (.ref a)] (Nat.le_of_ble_eq_true rfl) rfl (wp_rt (wn_jn (wo_aload rfl (wn_nil (wn_jn (wn_oi rfl ?_))))))
  refine zn_arr h hs hc rfl (by decide) (m := 30) (by decide) (by decide) rfl fun s1 c1 u1 w1 a1 => ?_
  refine zn_arr (c := a + 2) c1 (u1 _ _ hs) (by rw [List.length_append]; show 64 + (T.length + 1) = _; omega) rfl (by decide) (m := 90) (by decide) (by decide) rfl fun s2 c2 u2 w2 a2 => ?_
  refine wn_nil ⟨rfl, e_V ⟨c2, fun i q e => u2 i q (u1 i q e), u2 _ _ w1, w2, (a2.2.2.2 a 0 (by omega) (by omega)).trans a1.1, a2.1, Fo_t (Fo_A a1 (by omega) (by omega)) (Fo_A a2 (by omega) (by omega)), (a2.2.1 a 2 (by omega)).trans (a1.2.1 a 2 (by omega))⟩⟩
theorem z_Se_init (h0 : Cn B T σ) (hc : 64 + T.length = a + 1) (hs : σ.1[a]? = some (7, 7)) (hH : Lq zHs zHr h σ) (hha : h + 11 ≤ a) (h8 : σ.2.1 h 8 = nI 0) (h9 : σ.2.1 h 9 = nI 0) : WM q_Se_init [.ref a, .ref h] σ (kV fun s => Cn B (T ++ [(100, 5)] ++ [(100, 5)] ++ [(3, 12)] ++ [(100, 8)] ++ [(100, 8)] ++ [(100, 8)]) s ∧ Up σ s ∧ s.1[a + 1]? = some (100, 5) ∧ s.1[a + 2]? = some (100, 5) ∧ Lq zMs zMr (a + 3) s ∧ s.2.2.2 (a + 3) 3 = some h ∧ s.2.2.2 a 0 = some (a + 3) ∧ s.2.2.2 a 1 = some (a + 1) ∧ s.2.2.2 a 2 = some (a + 2) ∧ Fo a σ s) := by
  refine wm_V [some (.ref a), some (.ref h)] (Nat.le_of_ble_eq_true rfl) rfl (wp_rt (wn_jn (wo_aload rfl (wn_nil (wn_jn (wn_oi rfl (wn_jn ?_)))))))
  refine zn_arr h0 hs hc rfl (by decide) (m := 5) (by decide) (by decide) rfl fun s1 c1 u1 w1 a1 => ?_
  refine zn_arr (c := a + 2) c1 (u1 _ _ hs) (by rw [List.length_append]; show 64 + (T.length + 1) = _; omega) rfl (by decide) (m := 5) (by decide) (by decide) rfl fun s2 c2 u2 w2 a2 => ?_
  have hc3 : 64 + (T ++ [(100, 5)] ++ [(100, 5)]).length = a + 3 := by simp only [List.length_append, List.length_singleton]; omega
  have e : s2.1.length = a + 3 := (Cn_len c2).trans hc3
  refine wo_aload rfl (wo_new (m := 12) c2 hc3 rfl (wo_dupr (wo_aload rfl (wn_nil (wn_jn ?_)))))
  have f0 : Fo a σ s2 := Fo_t (Fo_A a1 (by omega) (by omega)) (Fo_A a2 (by omega) (by omega))
  have f2 : Fo (a + 3) s2 (jh_new s2 3 12) := Fo_n (by omega)
  have b8 : ∀ q ∈ zHr, q.1 ≤ 8 := by decide
  have lh : Lq zHs zHr h (jh_new s2 3 12) := Lq_o hH (Up_t u1 (Up_t u2 Up_n)) (Fo_t f0 (Fo_m f2 (by omega))) (fun q g => by have := b8 q g; omega)
  refine wc_ci [.ref h, .ref (a + 3)] rfl rfl rfl (z_Mu_init (Cn_new c2 (by decide)) (by rw [List.length_append]; show 64 + (_ + 1) = _; omega) (At_n c2 hc3) lh (by omega) ((f2.1 _ _ (by omega)).trans ((f0.1 _ _ (by omega)).trans h8)) ((f2.1 _ _ (by omega)).trans ((f0.1 _ _ (by omega)).trans h9))) fun v ⟨v1, v2, v3, v4, v5, v6⟩ => ?_
  have f3 : Fo (a + 3) s2 v := Fo_t f2 v4
  have uv : Up s2 v := Up_t Up_n v2
  refine wo_putF (m := 7) (k := 0) (uv _ _ (u2 _ _ (u1 _ _ hs))) rfl (wn_nil ⟨rfl, e_V ⟨Cn_1 v1 rfl, Up_t u1 (Up_t u2 (Up_t uv (Up_e rfl))), uv _ _ (u2 _ _ w1), uv _ _ w2, ⟨v3.1, fun q g => ?_⟩, ?_, if_pos ⟨rfl, rfl⟩, ?_, ?_, Fo_t f0 (Fo_t (Fo_m f3 (by omega)) (Fo_R (Nat.le_refl _)))⟩⟩)
  · exact (if_neg (fun q => by omega)).trans (v3.2 q g)
  · exact (if_neg (fun q => by omega)).trans v5
  · exact (if_neg (fun q => by omega)).trans ((f3.2.2 a 1 (by omega)).trans ((a2.2.2.2 a 1 (by omega) (by omega)).trans a1.1))
  · exact (if_neg (fun q => by omega)).trans ((f3.2.2 a 2 (by omega)).trans a2.1)
theorem z_Ta_init (h0 : Cn B T σ) (hc : 64 + T.length = a + 1) (hs : σ.1[a]? = some (8, 9)) (hH : Lq zHs zHr h σ) (hha : h + 11 ≤ a) (h8 : σ.2.1 h 8 = nI 0) (h9 : σ.2.1 h 9 = nI 0) : WM q_Ta_init [.ref a, .ref h] σ (kV fun s => Cn B (T ++ [(100, 1024)] ++ [(100, 64)] ++ [(3, 12)] ++ [(100, 8)] ++ [(100, 8)] ++ [(100, 8)]) s ∧ Up σ s ∧ s.1[a + 1]? = some (100, 1024) ∧ s.1[a + 2]? = some (100, 64) ∧ Lq zMs zMr (a + 3) s ∧ s.2.2.2 (a + 3) 3 = some h ∧ s.2.2.2 a 0 = some (a + 3) ∧ s.2.2.2 a 1 = some (a + 1) ∧ s.2.2.2 a 2 = some (a + 2) ∧ Fo a σ s) := by
  refine wm_V [some (.ref a), some (.ref h)] (Nat.le_of_ble_eq_true rfl) rfl (wp_rt (wn_jn (wo_aload rfl (wn_nil (wn_jn (wn_oi rfl (wn_jn ?_)))))))
  refine zn_arr h0 hs hc rfl (by decide) (m := 1024) (by decide) (by decide) rfl fun s1 c1 u1 w1 a1 => ?_
  refine zn_arr (c := a + 2) c1 (u1 _ _ hs) (by rw [List.length_append]; show 64 + (T.length + 1) = _; omega) rfl (by decide) (m := 64) (by decide) (by decide) rfl fun s2 c2 u2 w2 a2 => ?_
  have hc3 : 64 + (T ++ [(100, 1024)] ++ [(100, 64)]).length = a + 3 := by simp only [List.length_append, List.length_singleton]; omega
  have e : s2.1.length = a + 3 := (Cn_len c2).trans hc3
  refine wo_aload rfl (wo_new (m := 12) c2 hc3 rfl (wo_dupr (wo_aload rfl (wn_nil (wn_jn ?_)))))
  have f0 : Fo a σ s2 := Fo_t (Fo_A a1 (by omega) (by omega)) (Fo_A a2 (by omega) (by omega))
  have f2 : Fo (a + 3) s2 (jh_new s2 3 12) := Fo_n (by omega)
  have b8 : ∀ q ∈ zHr, q.1 ≤ 8 := by decide
  have lh : Lq zHs zHr h (jh_new s2 3 12) := Lq_o hH (Up_t u1 (Up_t u2 Up_n)) (Fo_t f0 (Fo_m f2 (by omega))) (fun q g => by have := b8 q g; omega)
  refine wc_ci [.ref h, .ref (a + 3)] rfl rfl rfl (z_Mu_init (Cn_new c2 (by decide)) (by rw [List.length_append]; show 64 + (_ + 1) = _; omega) (At_n c2 hc3) lh (by omega) ((f2.1 _ _ (by omega)).trans ((f0.1 _ _ (by omega)).trans h8)) ((f2.1 _ _ (by omega)).trans ((f0.1 _ _ (by omega)).trans h9))) fun v ⟨v1, v2, v3, v4, v5, v6⟩ => ?_
  have f3 : Fo (a + 3) s2 v := Fo_t f2 v4
  have uv : Up s2 v := Up_t Up_n v2
  refine wo_putF (m := 9) (k := 0) (uv _ _ (u2 _ _ (u1 _ _ hs))) rfl (wn_nil ⟨rfl, e_V ⟨Cn_1 v1 rfl, Up_t u1 (Up_t u2 (Up_t uv (Up_e rfl))), uv _ _ (u2 _ _ w1), uv _ _ w2, ⟨v3.1, fun q g => ?_⟩, ?_, if_pos ⟨rfl, rfl⟩, ?_, ?_, Fo_t f0 (Fo_t (Fo_m f3 (by omega)) (Fo_R (Nat.le_refl _)))⟩⟩)
  · exact (if_neg (fun q => by omega)).trans (v3.2 q g)
  · exact (if_neg (fun q => by omega)).trans v5
  · exact (if_neg (fun q => by omega)).trans ((f3.2.2 a 1 (by omega)).trans ((a2.2.2.2 a 1 (by omega) (by omega)).trans a1.1))
  · exact (if_neg (fun q => by omega)).trans ((f3.2.2 a 2 (by omega)).trans a2.1)
end ZS

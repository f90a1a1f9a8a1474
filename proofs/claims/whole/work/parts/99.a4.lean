section ZQ
variable {L : JL} {st : List Value} {σ s t σ0 : JH} {os : List JO} {K : JS → Prop} {a b c d e h m k ci w : Nat} {n n1 n2 n' : Int} {B T : List (Nat × Nat)} {x : Int32} {R Q : List (Nat × Nat × Nat)}
theorem Up_r (σ : JH) : Up σ σ := fun _ _ e => e
theorem Up_t (h : Up σ s) (h' : Up s t) : Up σ t := fun i q e => h' i q (h i q e)
theorem Up_e (h : s.1 = σ.1) : Up σ s := fun i q e => by rw [h]; exact e
theorem Up_n : Up σ (jh_new σ d m) := fun i q e => by
  show (σ.1 ++ [(d, m)])[i]? = _
  rw [List.getElem?_append_left (List.getElem?_eq_some_iff.mp e).1]; exact e
theorem At_n (h : Cn B T σ) (hc : 64 + T.length = c) : (jh_new σ d m).1[c]? = some (d, m) := by
  show (σ.1 ++ [(d, m)])[c]? = _
  rw [← hc, ← Cn_len h, List.getElem?_append_right (Nat.le_refl _), Nat.sub_self]; rfl
theorem Lq_o (l : Lq R Q h σ) (u : Up σ s) (f : Fo k σ s) (hk : ∀ q ∈ Q, h + q.1 < k) : Lq R Q h s := ⟨fun q hq => u _ _ (l.1 q hq), fun q hq => (f.2.2 _ _ (hk q hq)).trans (l.2 q hq)⟩
theorem zq_arr (h : Cn B T σ) (l : Lq R Q e σ) (hs : (0, ci, w) ∈ R) (hc : 64 + T.length = e + c) (h0 : 0 < c) (hN : Int32.ofInt n = x) (hx : ¬ (x < 0 ∨ 5000 < x.toNatClampNeg)) (hm : x.toNatClampNeg = m) (ht : d ≠ 99) (hk : n'.toNat = k) (hq : ∀ q ∈ Q, q.1 ≠ c ∧ (q.1 ≠ 0 ∨ q.2.1 ≠ k)) (H : ∀ s, Cn B (T ++ [(d, m)]) s → Up σ s → Lq ((c, d, m) :: R) ((0, k, c) :: Q) e s → Fo e σ s → (∀ j, s.2.1 e j = σ.2.1 e j) → WN (jx_run os) (some (.ref e) :: L, [], s) K) : WN (jx_run ((4, 0, n1) :: (0, b, n) :: (62, d, n2) :: (48, ci, n') :: os)) (some (.ref e) :: L, [], σ) K := by
  refine zn_arr h (show σ.1[e]? = some (ci, w) from l.1 _ hs) hc hN hx hm ht hk fun s1 c1 u1 w1 a1 => ?_
  refine H s1 c1 u1 ⟨fun q g => ?_, fun q g => ?_⟩ (Fo_A a1 (by omega) (by omega)) (fun j => a1.2.1 e j (by omega))
  · rcases List.mem_cons.mp g with rfl | g
    · exact w1
    · exact u1 _ _ (l.1 q g)
  · rcases List.mem_cons.mp g with rfl | g
    · exact a1.1
    · have := hq q g
      exact (a1.2.2.2 _ _ (by omega) (by omega)).trans (l.2 q g)
theorem z_Mu_init (h0 : Cn B T σ) (hc : 64 + T.length = a + 1) (hs : σ.1[a]? = some (3, 12)) (hH : Lq zHs zHr h σ) (hha : h + 11 ≤ a) (h8 : σ.2.1 h 8 = nI 0) (h9 : σ.2.1 h 9 = nI 0) : WM q_Mu_init [.ref a, .ref h] σ (kV fun s => Cn B (T ++ [(100, 8)] ++ [(100, 8)] ++ [(100, 8)]) s ∧ Up σ s ∧ Lq zMs zMr a s ∧ Fo a σ s ∧ s.2.2.2 a 3 = some h ∧ (∀ j, 4 ≤ j → j ≤ 9 → s.2.1 a j = nI 0) ∧ s.2.1 a 11 = nI 0 ∧ s.2.2.1 a 10 = 0) := by
  refine wm_V [some (.ref a), some (.ref h)] (Nat.le_of_ble_eq_true rfl) rfl (wp_rt (wn_jn (wo_aload rfl (wn_nil (wn_jn (wn_oi rfl (wn_jn ?_)))))))
  have l0 : Lq [(0, 3, 12)] [] a σ := ⟨fun q g => by rw [List.mem_singleton.mp g]; exact hs, fun q g => absurd g List.not_mem_nil⟩
  refine zq_arr (c := 1) (w := 12) h0 l0 (by decide) hc (by decide) rfl (by decide) (m := 8) (by decide) (by decide) (k := 0) rfl (by decide) fun s1 c1 u1 l1 f1 _ => ?_
  refine zq_arr (c := 2) (w := 12) c1 l1 (by decide) (by rw [List.length_append]; show 64 + (T.length + 1) = _; omega) (by decide) rfl (by decide) (m := 8) (by decide) (by decide) (k := 1) rfl (by decide) fun s2 c2 u2 l2 f2 _ => ?_
  refine zq_arr (c := 3) (w := 12) c2 l2 (by decide) (by rw [List.length_append, List.length_append]; show 64 + (T.length + 1 + 1) = _; omega) (by decide) rfl (by decide) (m := 8) (by decide) (by decide) (k := 2) rfl (by decide) fun s3 c3 u3 l3 f3 _ => ?_
  have u : Up σ s3 := Up_t u1 (Up_t u2 u3)
  have f : Fo a σ s3 := Fo_t f1 (Fo_t f2 f3)
  have b8 : ∀ q ∈ zHr, q.1 ≤ 8 := by decide
  have hH3 : Lq zHs zHr h s3 := Lq_o hH u f (fun q g => by have := b8 q g; omega)
  have lm : Lq zMs zMr a s3 := ⟨fun q g => l3.1 q ((by decide : ∀ q ∈ zMs, q ∈ [(3, 100, 8), (2, 100, 8), (1, 100, 8), (0, 3, 12)]) q g), fun q g => l3.2 q ((by decide : ∀ q ∈ zMr, q ∈ [(0, 2, 3), (0, 1, 2), (0, 0, 1)]) q g)⟩
  have lj : Lj (h, a, true) s3 := ⟨hH3, fun _ => lm⟩
  have km : Kmu (h, a, true) a := ⟨rfl, rfl, hha⟩
  have lj4 : Lj (h, a, true) (jh_setR s3 a 3 (some h)) := zly_put_Mu_3 lj km rfl
  have f4 : Fo a s3 (jh_setR s3 a 3 (some h)) := Fo_R (Nat.le_refl _)
  refine wo_aload rfl (wo_aload rfl (wo_putR (k := 3) (zsh_Mu lj km) rfl (wo_aload rfl (wo_aload rfl (wn_nil ?_)))))
  refine wc_vV [.ref h, .ref a] (zsh_Mu lj4 km) rfl rfl rfl (z_begin lj4 km rfl ((f4.1 _ _ (by omega)).trans ((f.1 _ _ (by omega)).trans h8)) ((f4.1 _ _ (by omega)).trans ((f.1 _ _ (by omega)).trans h9))) fun t ⟨tl, tg, t3, t4, t11, t10⟩ => ?_
  exact ⟨rfl, e_V ⟨Cn_1 c3 tg.1, Up_t u (Up_e tg.1), tl.2 rfl, Fo_t f (Fo_t f4 (Fo_g tg (fun b j q => q.1))), t3, t4, t11, t10⟩⟩
theorem z_Ho_init (h0 : Cn B T σ) (hc : 64 + T.length = h + 1) (hs : σ.1[h]? = some (0, 15)) : WM q_Ho_init [.ref h] σ (kV fun s => Cn B (T ++ [(101, 8)] ++ [(100, 8)] ++ [(100, 8)] ++ [(100, 8)] ++ [(100, 8)] ++ [(100, 8)] ++ [(100, 8)] ++ [(1, 3)] ++ [(100, 1000)] ++ [(100, 32)]) s ∧ Up σ s ∧ Lq zHs zHr h s ∧ Fo h σ s ∧ s.2.1 h 8 = nI 0 ∧ s.2.1 h 9 = nI 0 ∧ s.2.1 h 10 = nI 0 ∧ s.2.1 h 12 = nI 9 ∧ s.2.1 (h + 8) 2 = nI 1 ∧ s.2.1 (h + 9) 0 = mI 1) := by
  refine wm_V [some (.ref h)] (Nat.le_of_ble_eq_true rfl) rfl (wp_rt (wn_jn (wo_aload rfl (wn_nil (wn_jn (wn_oi rfl (wn_jn ?_)))))))
  have l0 : Lq [(0, 0, 15)] [] h σ := ⟨fun q g => by rw [List.mem_singleton.mp g]; exact hs, fun q g => absurd g List.not_mem_nil⟩
  refine zq_arr (c := 1) (w := 15) h0 l0 (by decide) hc (by decide) rfl (by decide) (m := 8) (by decide) (by decide) (k := 0) rfl (by decide) fun s1 c1 u1 l1 f1 _ => ?_
  refine zq_arr (c := 2) (w := 15) c1 l1 (by decide) (by simp only [List.length_append, List.length_singleton]; omega) (by decide) rfl (by decide) (m := 8) (by decide) (by decide) (k := 1) rfl (by decide) fun s2 c2 u2 l2 f2 _ => ?_
  refine zq_arr (c := 3) (w := 15) c2 l2 (by decide) (by simp only [List.length_append, List.length_singleton]; omega) (by decide) rfl (by decide) (m := 8) (by decide) (by decide) (k := 2) rfl (by decide) fun s3 c3 u3 l3 f3 _ => ?_
  refine zq_arr (c := 4) (w := 15) c3 l3 (by decide) (by simp only [List.length_append, List.length_singleton]; omega) (by decide) rfl (by decide) (m := 8) (by decide) (by decide) (k := 3) rfl (by decide) fun s4 c4 u4 l4 f4 _ => ?_
  refine zq_arr (c := 5) (w := 15) c4 l4 (by decide) (by simp only [List.length_append, List.length_singleton]; omega) (by decide) rfl (by decide) (m := 8) (by decide) (by decide) (k := 4) rfl (by decide) fun s5 c5 u5 l5 f5 _ => ?_
  refine zq_arr (c := 6) (w := 15) c5 l5 (by decide) (by simp only [List.length_append, List.length_singleton]; omega) (by decide) rfl (by decide) (m := 8) (by decide) (by decide) (k := 5) rfl (by decide) fun s6 c6 u6 l6 f6 _ => ?_
  refine zq_arr (c := 7) (w := 15) c6 l6 (by decide) (by simp only [List.length_append, List.length_singleton]; omega) (by decide) rfl (by decide) (m := 8) (by decide) (by decide) (k := 6) rfl (by decide) fun s7 c7 u7 l7 f7 _ => ?_
  have hc8 : 64 + (T ++ [(101, 8)] ++ [(100, 8)] ++ [(100, 8)] ++ [(100, 8)] ++ [(100, 8)] ++ [(100, 8)] ++ [(100, 8)]).length = h + 8 := by simp only [List.length_append, List.length_singleton]; omega
  refine wo_aload rfl (wo_new (d := 1) (m := 3) c7 hc8 rfl (wo_dupr (wn_nil (wn_jn ?_))))
  have c8 := Cn_new (d := 1) (m := 3) c7 (by decide)
  have u8 : Up s7 (jh_new s7 1 3) := Up_n
  have f8 : Fo (h + 8) s7 (jh_new s7 1 3) := Fo_n (by rw [Cn_len c7, hc8]; exact Nat.le_refl _)
  have w8 : (jh_new s7 1 3).1[h + 8]? = some (1, 3) := At_n c7 hc8
  refine wc_ci [.ref (h + 8)] rfl rfl rfl (z_La_init (a := h + 8) c8 (by rw [List.length_append]; show 64 + (_ + 1) = _; omega) w8) fun s9 ⟨c9, u9, w9, w10, r0, r1, f9⟩ => ?_
  have hs9 : s9.1[h]? = some (0, 15) := u9 _ _ (u8 _ _ (l7.1 (0, 0, 15) (by decide)))
  refine wn_jn (wo_putF (k := 7) hs9 rfl (wo_aload rfl (wn_nil (wn_jn ?_))))
  have b0 : ∀ q ∈ [(0, 6, 7), (0, 5, 6), (0, 4, 5), (0, 3, 4), (0, 2, 3), (0, 1, 2), (0, 0, 1)], q.1 = 0 ∧ q.2.1 < 7 := by decide
  have f79 : Fo (h + 8) s7 s9 := Fo_t f8 f9
  have lq : Lq zHs zHr h (jh_setR s9 h 7 (some (h + 8))) := by
    constructor
    · intro q g
      have g' := (by decide : ∀ q ∈ zHs, q = (8, 1, 3) ∨ q = (9, 100, 1000) ∨ q = (10, 100, 32) ∨ q ∈ [(7, 100, 8), (6, 100, 8), (5, 100, 8), (4, 100, 8), (3, 100, 8), (2, 100, 8), (1, 101, 8), (0, 0, 15)]) q g
      rcases g' with rfl | rfl | rfl | g'
      · exact u9 _ _ w8
      · exact w9
      · exact w10
      · exact u9 _ _ (u8 _ _ (l7.1 q g'))
    · intro q g
      have g' := (by decide : ∀ q ∈ zHr, q = (0, 7, 8) ∨ q = (8, 0, 9) ∨ q = (8, 1, 10) ∨ q ∈ [(0, 6, 7), (0, 5, 6), (0, 4, 5), (0, 3, 4), (0, 2, 3), (0, 1, 2), (0, 0, 1)]) q g
      rcases g' with rfl | rfl | rfl | g'
      · exact if_pos ⟨rfl, rfl⟩
      · exact (if_neg (fun z => by omega)).trans r0
      · exact (if_neg (fun z => by omega)).trans r1
      · have b := b0 q g'
        exact (if_neg (fun z => by omega)).trans ((f79.2.2 _ _ (by omega)).trans (l7.2 q g'))
  have lj : Lj (h, 0, false) (jh_setR s9 h 7 (some (h + 8))) := ⟨lq, fun q => by cases q⟩
  have f17 : Fo h σ s7 := Fo_t f1 (Fo_t f2 (Fo_t f3 (Fo_t f4 (Fo_t f5 (Fo_t f6 f7)))))
  have u17 : Up σ s7 := Up_t u1 (Up_t u2 (Up_t u3 (Up_t u4 (Up_t u5 (Up_t u6 u7)))))
  have fR : Fo h s9 (jh_setR s9 h 7 (some (h + 8))) := Fo_R (Nat.le_refl _)
  refine wc_vV [.ref h] (zsh_Ho (D := (h, 0, false)) lj rfl) rfl rfl rfl (z_clear lj rfl) fun t ⟨tl, tf, t8, t9, t10, t12, t14, tw⟩ => ?_
  refine wn_jn (wo_aload rfl (wn_nil ?_))
  refine wc_vV [.ref h] (zsh_Ho (D := (h, 0, false)) tl rfl) rfl rfl rfl (z_close tl rfl t8 t14 tw) fun v ⟨vl, vf, v2, v9⟩ => ?_
  refine ⟨rfl, e_V ⟨Cn_1 c9 (vf.1.trans tf.1), Up_t u17 (Up_t u8 (Up_t u9 (Up_e (vf.1.trans tf.1)))), vl.1, ?_, (vf.2.2 _ _ (by omega)).trans t8, (vf.2.2 _ _ (by omega)).trans t9, (vf.2.2 _ _ (by omega)).trans t10, (vf.2.2 _ _ (by omega)).trans t12, v2, v9⟩⟩
  exact Fo_t f17 (Fo_t (Fo_m f79 (by omega)) (Fo_t fR (Fo_t (Fo_g (Fi_g tf) (fun b j q => q.1)) (Fo_g (Fi_g vf) (fun b j q => by omega)))))
end ZQ

/-! ===== the model's constructor ===== -/
section ZM
variable {L : JL} {st : List Value} {σ s t σ0 : JH} {os : List JO} {K : JS → Prop} {a b c d e h m k ci w : Nat} {n n1 n2 n' : Int} {B T : List (Nat × Nat)} {x : Int32} {R Q : List (Nat × Nat × Nat)} {l : List Int64} {X : Int64}
/-- what the model's constructor has made so far -/
def Mz (B T : List (Nat × Nat)) (R Q : List (Nat × Nat × Nat)) (l : List Int64) (σ0 s : JH) : Prop := Cn B T s ∧ Up σ0 s ∧ Lq R Q 204 s ∧ Fo 204 σ0 s ∧ (∀ j, s.2.1 204 j = σ0.2.1 204 j) ∧ (∀ (i : Nat) (x : Int64), l[i]? = some x → s.2.2.1 209 i = x)
theorem mz_arr (z : Mz B T R Q l σ0 σ) (hs : (0, ci, w) ∈ R) (hc : 64 + T.length = 204 + c) (h0 : 0 < c) (h5 : c ≠ 5) (hN : Int32.ofInt n = x) (hx : ¬ (x < 0 ∨ 5000 < x.toNatClampNeg)) (hm : x.toNatClampNeg = m) (ht : d ≠ 99) (hk : n'.toNat = k) (hq : ∀ q ∈ Q, q.1 ≠ c ∧ (q.1 ≠ 0 ∨ q.2.1 ≠ k)) (H : ∀ s, Mz B (T ++ [(d, m)]) ((c, d, m) :: R) ((0, k, c) :: Q) l σ0 s → WN (jx_run os) (some (.ref 204) :: L, [], s) K) : WN (jx_run ((4, 0, n1) :: (0, b, n) :: (62, d, n2) :: (48, ci, n') :: os)) (some (.ref 204) :: L, [], σ) K := by
  obtain ⟨z1, z2, z3, z4, z5, z6⟩ := z
  refine zn_arr z1 (show σ.1[204]? = some (ci, w) from z3.1 _ hs) hc hN hx hm ht hk fun s1 c1 u1 w1 a1 => ?_
  refine H s1 ⟨c1, Up_t z2 u1, ⟨fun q g => ?_, fun q g => ?_⟩, Fo_t z4 (Fo_A a1 (by omega) (by omega)), fun j => (a1.2.1 204 j (by omega)).trans (z5 j), fun i x e => (a1.2.2.1 209 i (by omega)).trans (z6 i x e)⟩
  · rcases List.mem_cons.mp g with rfl | g
    · exact w1
    · exact u1 _ _ (z3.1 q g)
  · rcases List.mem_cons.mp g with rfl | g
    · exact a1.1
    · have := hq q g
      exact (a1.2.2.2 _ _ (by omega) (by omega)).trans (z3.2 q g)
theorem mz_wd (z : Mz B T R Q l σ0 σ) (hs : (5, 101, 21) ∈ R) (hn : Int32.ofInt n = nI l.length) (hl : l.length < 21) (hX : Int64.ofInt n1 = X) (H : ∀ s, Mz B T R Q (l ++ [X]) σ0 s → WN (jx_run os) (L, .ref 209 :: st, s) K) : WN (jx_run ((70, b, n') :: (0, c, n) :: (1, d, n1) :: (56, m, n2) :: os)) (L, .ref 209 :: st, σ) K := by
  obtain ⟨z1, z2, z3, z4, z5, z6⟩ := z
  refine wo_dupr (wo_ipush hn (wo_lpush hX (wo_stJ (m := 21) (k := l.length) (z3.1 _ hs) (by rw [inb_nI (by omega) (by omega)]; omega) (cl_nI (by omega)) ?_)))
  refine H _ ⟨Cn_1 z1 rfl, Up_t z2 (Up_e rfl), z3, Fo_t z4 (Fo_J (by omega)), z5, fun i y e => ?_⟩
  by_cases c : i = l.length
  · subst c
    rw [List.getElem?_append_right (Nat.le_refl _), Nat.sub_self] at e
    have e : some X = some y := e
    rw [← Option.some.inj e]
    exact if_pos ⟨rfl, rfl⟩
  · have hi := (List.getElem?_eq_some_iff.mp e).1
    rw [List.length_append, List.length_singleton] at hi
    rw [List.getElem?_append_left (by omega)] at e
    exact (if_neg (fun q => c q.2)).trans (z6 i y e)
/-- the class's part of the layout -/
def Lc (σ : JH) : Prop := (∀ a, a < 204 → a ≠ 24 → σ.1[a]? = ly_sh[a]?) ∧ (∀ q ∈ ly_ref, q.1.1 < 204 → σ.2.2.2 q.1.1 q.1.2 = some q.2) ∧ (∀ q ∈ ly_dyn, ∃ h, σ.2.2.2 q.1.1 q.1.2 = some h ∧ ly_ok q.2 h)
def zR : List (Nat × Nat × Nat) := [(24, 100, 64), (23, 100, 64), (22, 101, 800), (21, 100, 5), (20, 100, 5), (19, 100, 10), (18, 100, 8), (17, 100, 40), (16, 100, 40), (15, 103, 4), (14, 100, 2484), (13, 100, 1100), (12, 100, 3), (11, 100, 250), (10, 101, 8), (9, 101, 8), (8, 100, 2200), (7, 100, 2200), (6, 100, 360), (5, 101, 21), (4, 101, 1002), (3, 100, 1002), (2, 100, 1002), (1, 100, 1000), (0, 11, 45)]
def zQ : List (Nat × Nat × Nat) := [(0, 43, 24), (0, 42, 23), (0, 39, 22), (0, 36, 21), (0, 35, 20), (0, 33, 19), (0, 32, 18), (0, 27, 17), (0, 26, 16), (0, 25, 15), (0, 23, 14), (0, 22, 13), (0, 21, 12), (0, 20, 11), (0, 15, 10), (0, 14, 9), (0, 12, 8), (0, 11, 7), (0, 10, 6), (0, 9, 5), (0, 6, 4), (0, 5, 3), (0, 4, 2), (0, 1, 1)]
theorem Ly_c (h : Lc σ) (u : Up σ s) (f : Fo 204 σ s) (l : Lq zR zQ 204 s) : Ly s := by
  have h1 : ∀ i, i < 25 → ∃ q ∈ zR, q.1 = i ∧ ly_sh[204 + i]? = some q.2 := by decide +kernel
  have h2 : ∀ q ∈ ly_ref, q.1.1 < 204 ∨ (204 ≤ q.1.1 ∧ ∃ p ∈ zQ, 204 + p.1 = q.1.1 ∧ p.2.1 = q.1.2 ∧ 204 + p.2.2 = q.2) := by decide +kernel
  have h3 : ∀ q ∈ ly_dyn, q.1.1 < 204 := by decide +kernel
  have h5 : ly_sh.length = 230 := by decide +kernel
  have h4 : ∀ a, a < 204 → ∃ q, ly_sh[a]? = some q := fun a ha => ⟨_, List.getElem?_eq_getElem (show a < ly_sh.length by omega)⟩
  refine ⟨fun a h5 h6 => ?_, fun q hq => ?_, fun q hq => ?_⟩
  · by_cases c : a < 204
    · obtain ⟨q, e⟩ := h4 a c
      rw [e]
      exact u _ _ ((h.1 a c h6).trans e)
    · obtain ⟨q, g1, g2, g3⟩ := h1 (a - 204) (by omega)
      have e : 204 + (a - 204) = a := by omega
      have := l.1 q g1
      rw [g2, e] at this
      rw [e] at g3
      rw [this, g3]
  · rcases h2 q hq with c | ⟨c, p, p1, p2, p3, p4⟩
    · exact (f.2.2 _ _ c).trans (h.2.1 q hq c)
    · have := l.2 p p1
      rw [p2, p3, p4] at this
      exact this
  · obtain ⟨g, g1, g2⟩ := h.2.2 q hq
    exact ⟨g, (f.2.2 _ _ (h3 q hq)).trans g1, g2⟩
def zW : List Int64 := [1119812451, 19374, 30910767, 924600, 108350, 2793, 28443912, 6409048, 1042489, 34523964, 11525730, 30596128, 12777, 26332, 4164, 19741, 1891, 573, 44038517, 38572112, 18002]
theorem zW_ok : ∀ (j : Nat) (w : List Nat), wdl[j]? = some w → zW[j]? = some (lN (wrd 37 w)) := by
  have h : zW = wdl.map (fun w => lN (wrd 37 w)) := by decide +kernel
  intro j w e
  rw [h, List.getElem?_map, e]; rfl
set_option maxHeartbeats 2000000 in
set_option maxRecDepth 20000 in
theorem z_Md_init (h0 : Cn B T σ) (hc : 64 + T.length = 205) (hs : σ.1[204]? = some (11, 45)) (hL : Lc σ) (h2 : σ.2.1 204 2 = nI 0) (h16 : σ.2.1 204 16 = nI 0) : WM q_Md_init [.ref 204] σ (kV fun s => Rm (zC Q00) s ∧ Fo 204 σ s ∧ (∃ T', Cn B T' s ∧ 64 + T'.length = 229)) := by
  refine wm_V [some (.ref 204)] (Nat.le_of_ble_eq_true rfl) rfl (wp_rt (wn_jn (wo_aload rfl (wn_nil (wn_jn (wn_oi rfl (wn_jn ?_)))))))
  have z0 : Mz B T [(0, 11, 45)] [] [] σ σ := ⟨h0, Up_r _, ⟨fun q g => by rw [List.mem_singleton.mp g]; exact hs, fun q g => absurd g List.not_mem_nil⟩, Fo_r _ _, fun _ => rfl, fun i x e => by cases e⟩
  refine mz_arr (c := 1) (w := 45) (m := 1000) (k := 1) z0 (by decide) (by first | omega | (simp only [List.length_append, List.length_singleton]; omega)) (by decide) (by decide) rfl (by decide) (by decide) (by decide) rfl (by decide) fun s1 z1 => ?_
  refine mz_arr (c := 2) (w := 45) (m := 1002) (k := 4) z1 (by decide) (by first | omega | (simp only [List.length_append, List.length_singleton]; omega)) (by decide) (by decide) rfl (by decide) (by decide) (by decide) rfl (by decide) fun s2 z2 => ?_
  refine mz_arr (c := 3) (w := 45) (m := 1002) (k := 5) z2 (by decide) (by first | omega | (simp only [List.length_append, List.length_singleton]; omega)) (by decide) (by decide) rfl (by decide) (by decide) (by decide) rfl (by decide) fun s3 z3 => ?_
  refine mz_arr (c := 4) (w := 45) (m := 1002) (k := 6) z3 (by decide) (by first | omega | (simp only [List.length_append, List.length_singleton]; omega)) (by decide) (by decide) rfl (by decide) (by decide) (by decide) rfl (by decide) fun s4 z4 => ?_
  have l5 : 64 + (T ++ [(100, 1000)] ++ [(100, 1002)] ++ [(100, 1002)] ++ [(101, 1002)]).length = 209 := by simp only [List.length_append, List.length_singleton]; omega
  refine wo_aload rfl (wo_ipush (c := nI 21) rfl (wo_newa (a := 209) (m := 21) z4.1 l5 (by decide) (by decide) ?_))
  have y0 : Mz B (T ++ [(100, 1000)] ++ [(100, 1002)] ++ [(100, 1002)] ++ [(101, 1002)] ++ [(101, 21)]) ((5, 101, 21) :: [(4, 101, 1002), (3, 100, 1002), (2, 100, 1002), (1, 100, 1000), (0, 11, 45)]) [(0, 6, 4), (0, 5, 3), (0, 4, 2), (0, 1, 1)] [] σ (jh_new s4 101 21) := by
    obtain ⟨z1, z2, z3, z4, z5, z6⟩ := z4
    have e : s4.1.length = 209 := (Cn_len z1).trans l5
    have b4 : ∀ q ∈ [(0, 6, 4), (0, 5, 3), (0, 4, 2), (0, 1, 1)], q.1 = 0 := by decide
    refine ⟨Cn_new z1 (by decide), Up_t z2 Up_n, ⟨fun q g => ?_, fun q g => ?_⟩, Fo_t z4 (Fo_n (by omega)), fun j => (if_neg (by omega)).trans (z5 j), fun i x e => by cases e⟩
    · rcases List.mem_cons.mp g with rfl | g
      · exact At_n z1 l5
      · exact Up_n _ _ (z3.1 q g)
    · have := b4 q g
      exact (if_neg (by omega)).trans (z3.2 q g)
  refine mz_wd (X := 1119812451) y0 (by decide) rfl (by decide) rfl fun t1 y1 => ?_
  refine mz_wd (X := 19374) y1 (by decide) rfl (by decide) rfl fun t2 y2 => ?_
  refine mz_wd (X := 30910767) y2 (by decide) rfl (by decide) rfl fun t3 y3 => ?_
  refine mz_wd (X := 924600) y3 (by decide) rfl (by decide) rfl fun t4 y4 => ?_
  refine mz_wd (X := 108350) y4 (by decide) rfl (by decide) rfl fun t5 y5 => ?_
  refine mz_wd (X := 2793) y5 (by decide) rfl (by decide) rfl fun t6 y6 => ?_
  refine mz_wd (X := 28443912) y6 (by decide) rfl (by decide) rfl fun t7 y7 => ?_
  refine mz_wd (X := 6409048) y7 (by decide) rfl (by decide) rfl fun t8 y8 => ?_
  refine mz_wd (X := 1042489) y8 (by decide) rfl (by decide) rfl fun t9 y9 => ?_
  refine mz_wd (X := 34523964) y9 (by decide) rfl (by decide) rfl fun t10 y10 => ?_
  refine mz_wd (X := 11525730) y10 (by decide) rfl (by decide) rfl fun t11 y11 => ?_
  refine mz_wd (X := 30596128) y11 (by decide) rfl (by decide) rfl fun t12 y12 => ?_
  refine mz_wd (X := 12777) y12 (by decide) rfl (by decide) rfl fun t13 y13 => ?_
  refine mz_wd (X := 26332) y13 (by decide) rfl (by decide) rfl fun t14 y14 => ?_
  refine mz_wd (X := 4164) y14 (by decide) rfl (by decide) rfl fun t15 y15 => ?_
  refine mz_wd (X := 19741) y15 (by decide) rfl (by decide) rfl fun t16 y16 => ?_
  refine mz_wd (X := 1891) y16 (by decide) rfl (by decide) rfl fun t17 y17 => ?_
  refine mz_wd (X := 573) y17 (by decide) rfl (by decide) rfl fun t18 y18 => ?_
  refine mz_wd (X := 44038517) y18 (by decide) rfl (by decide) rfl fun t19 y19 => ?_
  refine mz_wd (X := 38572112) y19 (by decide) rfl (by decide) rfl fun t20 y20 => ?_
  refine mz_wd (X := 18002) y20 (by decide) rfl (by decide) rfl fun t21 y21 => ?_
  refine wo_putF (k := 9) (y21.2.2.1.1 (0, 11, 45) (by decide)) rfl ?_
  have z5 : Mz B (T ++ [(100, 1000)] ++ [(100, 1002)] ++ [(100, 1002)] ++ [(101, 1002)] ++ [(101, 21)]) [(5, 101, 21), (4, 101, 1002), (3, 100, 1002), (2, 100, 1002), (1, 100, 1000), (0, 11, 45)] [(0, 9, 5), (0, 6, 4), (0, 5, 3), (0, 4, 2), (0, 1, 1)] zW σ (jh_setR t21 204 9 (some 209)) := by
    obtain ⟨z1, z2, z3, z4, z5, z6⟩ := y21
    have b4 : ∀ q ∈ [(0, 6, 4), (0, 5, 3), (0, 4, 2), (0, 1, 1)], q.2.1 ≠ 9 := by decide
    refine ⟨Cn_1 z1 rfl, Up_t z2 (Up_e rfl), ⟨z3.1, fun q g => ?_⟩, Fo_t z4 (Fo_R (Nat.le_refl _)), z5, z6⟩
    rcases List.mem_cons.mp g with rfl | g
    · rfl
    · have := b4 q g
      exact (if_neg (fun c => this c.2)).trans (z3.2 q g)
  generalize jh_setR t21 204 9 (some 209) = s5 at z5
  refine mz_arr (c := 6) (w := 45) (m := 360) (k := 10) z5 (by decide) (by first | omega | (simp only [List.length_append, List.length_singleton]; omega)) (by decide) (by decide) rfl (by decide) (by decide) (by decide) rfl (by decide) fun s6 z6 => ?_
  refine mz_arr (c := 7) (w := 45) (m := 2200) (k := 11) z6 (by decide) (by first | omega | (simp only [List.length_append, List.length_singleton]; omega)) (by decide) (by decide) rfl (by decide) (by decide) (by decide) rfl (by decide) fun s7 z7 => ?_
  refine mz_arr (c := 8) (w := 45) (m := 2200) (k := 12) z7 (by decide) (by first | omega | (simp only [List.length_append, List.length_singleton]; omega)) (by decide) (by decide) rfl (by decide) (by decide) (by decide) rfl (by decide) fun s8 z8 => ?_
  refine mz_arr (c := 9) (w := 45) (m := 8) (k := 14) z8 (by decide) (by first | omega | (simp only [List.length_append, List.length_singleton]; omega)) (by decide) (by decide) rfl (by decide) (by decide) (by decide) rfl (by decide) fun s9 z9 => ?_
  refine mz_arr (c := 10) (w := 45) (m := 8) (k := 15) z9 (by decide) (by first | omega | (simp only [List.length_append, List.length_singleton]; omega)) (by decide) (by decide) rfl (by decide) (by decide) (by decide) rfl (by decide) fun s10 z10 => ?_
  refine mz_arr (c := 11) (w := 45) (m := 250) (k := 20) z10 (by decide) (by first | omega | (simp only [List.length_append, List.length_singleton]; omega)) (by decide) (by decide) rfl (by decide) (by decide) (by decide) rfl (by decide) fun s11 z11 => ?_
  refine mz_arr (c := 12) (w := 45) (m := 3) (k := 21) z11 (by decide) (by first | omega | (simp only [List.length_append, List.length_singleton]; omega)) (by decide) (by decide) rfl (by decide) (by decide) (by decide) rfl (by decide) fun s12 z12 => ?_
  refine mz_arr (c := 13) (w := 45) (m := 1100) (k := 22) z12 (by decide) (by first | omega | (simp only [List.length_append, List.length_singleton]; omega)) (by decide) (by decide) rfl (by decide) (by decide) (by decide) rfl (by decide) fun s13 z13 => ?_
  refine mz_arr (c := 14) (w := 45) (m := 2484) (k := 23) z13 (by decide) (by first | omega | (simp only [List.length_append, List.length_singleton]; omega)) (by decide) (by decide) rfl (by decide) (by decide) (by decide) rfl (by decide) fun s14 z14 => ?_
  refine mz_arr (c := 15) (w := 45) (m := 4) (k := 25) z14 (by decide) (by first | omega | (simp only [List.length_append, List.length_singleton]; omega)) (by decide) (by decide) rfl (by decide) (by decide) (by decide) rfl (by decide) fun s15 z15 => ?_
  refine mz_arr (c := 16) (w := 45) (m := 40) (k := 26) z15 (by decide) (by first | omega | (simp only [List.length_append, List.length_singleton]; omega)) (by decide) (by decide) rfl (by decide) (by decide) (by decide) rfl (by decide) fun s16 z16 => ?_
  refine mz_arr (c := 17) (w := 45) (m := 40) (k := 27) z16 (by decide) (by first | omega | (simp only [List.length_append, List.length_singleton]; omega)) (by decide) (by decide) rfl (by decide) (by decide) (by decide) rfl (by decide) fun s17 z17 => ?_
  refine mz_arr (c := 18) (w := 45) (m := 8) (k := 32) z17 (by decide) (by first | omega | (simp only [List.length_append, List.length_singleton]; omega)) (by decide) (by decide) rfl (by decide) (by decide) (by decide) rfl (by decide) fun s18 z18 => ?_
  refine mz_arr (c := 19) (w := 45) (m := 10) (k := 33) z18 (by decide) (by first | omega | (simp only [List.length_append, List.length_singleton]; omega)) (by decide) (by decide) rfl (by decide) (by decide) (by decide) rfl (by decide) fun s19 z19 => ?_
  refine mz_arr (c := 20) (w := 45) (m := 5) (k := 35) z19 (by decide) (by first | omega | (simp only [List.length_append, List.length_singleton]; omega)) (by decide) (by decide) rfl (by decide) (by decide) (by decide) rfl (by decide) fun s20 z20 => ?_
  refine mz_arr (c := 21) (w := 45) (m := 5) (k := 36) z20 (by decide) (by first | omega | (simp only [List.length_append, List.length_singleton]; omega)) (by decide) (by decide) rfl (by decide) (by decide) (by decide) rfl (by decide) fun s21 z21 => ?_
  refine mz_arr (c := 22) (w := 45) (m := 800) (k := 39) z21 (by decide) (by first | omega | (simp only [List.length_append, List.length_singleton]; omega)) (by decide) (by decide) rfl (by decide) (by decide) (by decide) rfl (by decide) fun s22 z22 => ?_
  refine mz_arr (c := 23) (w := 45) (m := 64) (k := 42) z22 (by decide) (by first | omega | (simp only [List.length_append, List.length_singleton]; omega)) (by decide) (by decide) rfl (by decide) (by decide) (by decide) rfl (by decide) fun s23 z23 => ?_
  refine mz_arr (c := 24) (w := 45) (m := 64) (k := 43) z23 (by decide) (by first | omega | (simp only [List.length_append, List.length_singleton]; omega)) (by decide) (by decide) rfl (by decide) (by decide) (by decide) rfl (by decide) fun s24 z24 => ?_
  obtain ⟨e1, e2, e3, e4, e5, e6⟩ := z24
  have ly : Ly s24 := Ly_c hL e2 e4 e3
  refine wo_aload rfl (wo_ipush (c := nI 0) rfl (wn_nil (wn_jn ?_)))
  refine wc_vV [.int (nI 0), .ref 204] (ls_204 ly) rfl rfl rfl (m_stands (base := 0) (by omega) ly) fun t ⟨tl, tf, tv⟩ => ?_
  refine wn_jn (wo_aload rfl (wn_nil ?_))
  have hH : mH H00 t := ⟨tv 0 (by omega), tv 4 (by omega), fun k hk => absurd hk (Nat.not_lt_zero _), fun k hk => absurd hk (Nat.not_lt_zero _), fun k hk => absurd hk (Nat.not_lt_zero _), fun k hk => absurd hk (Nat.not_lt_zero _), fun k hk => absurd hk (Nat.not_lt_zero _), fun k hk => absurd hk (Nat.not_lt_zero _)⟩
  refine wc_vV [.ref 204] (ls_204 tl) rfl rfl rfl (m_begins tl WQ_00.1 hH) fun v ⟨vl, vf, v1, v2, v3, v4, v5, v6⟩ => ?_
  have no : ∀ b j, ¬ PBe b j → ¬ (b = 210 ∧ 0 ≤ j ∧ j < 0 + 180) → v.2.1 b j = s24.2.1 b j := fun b j g1 g2 => (vf.2.2 b j g1).trans (tf.2.2 b j g2)
  have vt : ∀ j, v.2.1 210 j = t.2.1 210 j := fun j => vf.2.2 210 j (by unfold PBe; omega)
  suffices fin : Rm (zC Q00) v ∧ Fo 204 σ v ∧ (∃ T', Cn B T' v ∧ 64 + T'.length = 229) from ⟨rfl, e_V fin⟩
  refine ⟨⟨vl, ⟨mH_f vf (fun j => by unfold PBe; omega) hH, Or.inl ⟨rfl, (vt 5).trans (tv 5 (by omega))⟩⟩, ⟨(vt 2).trans (tv 2 (by omega)), (vt 3).trans (tv 3 (by omega)), fun j w e => ?_⟩, ⟨(no _ _ (by unfold PBe; omega) (by omega)).trans ((e5 16).trans h16), fun k hk => absurd hk (Nat.not_lt_zero _)⟩, ⟨v1, v2, v3, Nat.zero_le _, fun i q e => by cases e⟩, ⟨v5, fun i q e => by cases e⟩, ⟨v6, fun i q hi e => by cases e⟩, ⟨v4, fun i q e => by cases e⟩, ⟨(no _ _ (by unfold PBe; omega) (by omega)).trans ((e5 2).trans h2), fun i c e => by cases e⟩⟩, ?_, _, Cn_1 e1 (vf.1.trans tf.1), ?_⟩
  · rw [vf.2.1, tf.2.1]
    exact e6 j _ (zW_ok j w e)
  · exact Fo_t e4 (Fo_t (Fo_g (Fi_g tf) (fun b j q => by omega)) (Fo_g (Fi_g vf) (fun b j q => by unfold PBe at q; omega)))
  · simp only [List.length_append, List.length_singleton]; omega
end ZM

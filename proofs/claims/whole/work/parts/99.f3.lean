/-! ===== pair in the law's loop: class and model agree ===== -/
section PL
variable {L i : Nat} {xs : Nat → Int32} {Z : Ste} {σ s t : JH} {o5 o6 : Option Value} {p1 p2 p3 : Int32}
/-- pair throws: the law's pair answers 1 -/
theorem lp_thr {tt : Nat} {Lx : JL} {s1 : JH} (hl : Ly σ) (hP : qp_Ct_pair ([some (.ref 64), some (.int p1), some (.int p2), some (.int p3), none], [], σ) = some (tt, Lx, [], s1)) (ht : tt = 37 ∨ tt = 71) :
    q_Lw_pair [.ref 64, .int p1, .int p2, .int p3, .ref 229] σ = some (some (.int (nI 1)), jz_ap s1) := by
  have h1 : jz_th [.ref 64, .int p1, .int p2, .int p3] σ = some s1 := by
    unfold jz_th
    rw [if_pos (Nat.le_of_ble_eq_true rfl)]
    have e : jl_en [Value.ref 64, .int p1, .int p2, .int p3] 5 = [some (.ref 64), some (.int p1), some (.int p2), some (.int p3), none] := rfl
    rw [e, hP, Option.bind_some]
    exact if_pos ⟨ht, rfl⟩
  have h2 : q_Lw_pairX [.ref 64, .int p1, .int p2, .int p3, .ref 229] σ = some (some (.int 1), jz_ap s1) := by
    unfold q_Lw_pairX
    simp only [ls_64 hl, Option.map_some, if_pos, h1, Option.bind_some]
  unfold q_Lw_pair
  rw [h2]
  rfl
/-- pair answers: the law's pair answers 0 and lays the answer into out -/
theorem lp_ret {Lx : JL} {v : Int32} {s1 : JH} (hl : Ly σ) (hP : qp_Ct_pair ([some (.ref 64), some (.int p1), some (.int p2), some (.int p3), none], [], σ) = some (1000000, Lx, [.int v], s1)) (h229 : s1.1[229]? = some (101, 1)) :
    q_Lw_pair [.ref 64, .int p1, .int p2, .int p3, .ref 229] σ = some (some (.int (nI 0)), jh_setJ s1 229 0 v.toInt64) := by
  have e : jl_en [Value.ref 64, .int p1, .int p2, .int p3] 5 = [some (.ref 64), some (.int p1), some (.int p2), some (.int p3), none] := rfl
  have h1 : jz_th [.ref 64, .int p1, .int p2, .int p3] σ = none := by
    unfold jz_th
    rw [if_pos (Nat.le_of_ble_eq_true rfl), e, hP, Option.bind_some]
    exact if_neg (fun q => by
      have q : (1000000 : Nat) = 37 ∨ (1000000 : Nat) = 71 := q.1
      omega)
  have h2 : q_Lw_pairX [.ref 64, .int p1, .int p2, .int p3, .ref 229] σ = none := by
    unfold q_Lw_pairX
    simp only [ls_64 hl, Option.map_some, if_pos, h1, Option.bind_none]
  have h3 : q_Ct_pair [.ref 64, .int p1, .int p2, .int p3] σ = some (some (.int v), s1) := by
    unfold q_Ct_pair jf_of
    rw [if_pos (Nat.le_of_ble_eq_true rfl), e, hP, Option.bind_some]
    exact if_pos rfl
  have h4 : WM (jf_of qp_Lw_pair 6) [.ref 64, .int p1, .int p2, .int p3, .ref 229] σ (kI fun x s => x = nI 0 ∧ s = jh_setJ s1 229 0 v.toInt64) := by
    refine wm_I [some (.ref 64), some (.int p1), some (.int p2), some (.int p3), some (.ref 229), none] (Nat.le_of_ble_eq_true rfl) rfl ?_
    unfold qp_Lw_pair
    refine wp_sq (wp_go (wn_jn (wo_aload rfl (wo_ipush (c := nI 0) rfl (wo_aload rfl (wo_iload rfl (wo_iload rfl (wo_iload rfl (wn_nil (wn_jn ?_))))))))))
    refine wc_v (st := [.int (nI 0), .ref 229]) (tk := [.int p3, .int p2, .int p1, .ref 64]) (ls_64 hl) rfl rfl rfl h3 ?_
    exact wo_i2l (wo_stJ (k := 0) h229 (by rw [inb_nI (by omega) (by omega)]; omega) (by decide) (wn_nil (kk_hit (wp_rt (wo_ipush (c := nI 0) rfl (wn_nil ⟨rfl, e_I ⟨rfl, rfl⟩⟩))))))
  obtain ⟨v9, s9, e9, x, hx, rfl, rfl⟩ := h4
  unfold q_Lw_pair
  rw [h2]
  show jf_of qp_Lw_pair 6 _ _ = _
  rw [e9, hx]
theorem lp_both (j : Jl L xs Z σ) (p1 p2 p3 : Int32) : ∃ k s1, q_Lw_pair [.ref 64, .int p1, .int p2, .int p3, .ref 229] σ = some (some (.int k), s1) ∧ Jl L xs Z s1 ∧ jh_n s1 ≤ jh_n σ + 1 ∧ jh_w s1 ≤ jh_w σ + 6 ∧
    WM q_Md_pair [.ref 204, .int p1, .int p2, .int p3] s1 (kI fun x s2 => Rm Z s2 ∧ Fg (fun b _ => 204 ≤ b ∧ b < 229) s1 s2 ∧ s2.2.1 204 0 = k ∧ (k = nI 1 ∨ (k = nI 0 ∧ s1.2.2.1 229 0 = x.toInt64))) := by
  have hZ := j.1
  obtain ⟨h, pl, r⟩ := j.2.1
  rcases pCases hZ p1 p2 p3 with hb | ⟨d, a, b, h1, h3, rfl, ha, hb, hab, rfl, rfl⟩
  · obtain ⟨tt, ⟨Lx, st, s0⟩, e0, rfl, q2, q3⟩ := c_pairNo r hb
    have q2 : st = [] := q2
    have q3 : s0 = σ := q3
    subst q2; subst q3
    have j1 : Jl L xs Z (jz_ap s0) := Jl_ap (T := [(99, 6)]) j
    refine ⟨nI 1, jz_ap s0, lp_thr r.1.1 e0 (Or.inl rfl), j1, Nat.le_of_eq (jz_ap_n s0), Nat.le_of_eq (jz_ap_w s0), ?_⟩
    exact WM_I (m_pairNo hZ j1.2.2.1 hb) fun x s2 ⟨_, m1, m2, m3⟩ => ⟨m1, m2, m3, Or.inl rfl⟩
  · obtain ⟨tt, ⟨Lx, st, s0⟩, e0, z0, f0, hc⟩ := c_pairYes hZ r h1 h3 ha hb hab
    have z0 : Rc Z h pl s0 := z0
    have f0 : Fg (fun b _ => 64 ≤ b ∧ b < 204) σ s0 := f0
    obtain ⟨m1, m2, m3, m4, m5⟩ := Jl_c j f0 z0
    have j0 : Jl L xs Z s0 := ⟨hZ, ⟨h, pl, z0⟩, m1, m2, m3, m4, m5⟩
    have en : jh_n s0 = jh_n σ := by unfold jh_n; rw [f0.1]
    have ew : jh_w s0 = jh_w σ := by unfold jh_w; rw [f0.1]
    rcases hc with ⟨c, rfl, q2⟩ | ⟨c, rfl, q2⟩
    · have q2 : st = [] := q2
      subst q2
      have j1 : Jl L xs Z (jz_ap s0) := Jl_ap (T := [(99, 6)]) j0
      refine ⟨nI 1, jz_ap s0, lp_thr r.1.1 e0 (Or.inr rfl), j1, by rw [jz_ap_n]; omega, by rw [jz_ap_w]; omega, ?_⟩
      refine WM_I (m_pairYes hZ j1.2.2.1 h1 h3 ha hb hab) fun x s2 ⟨g1, g2, g3⟩ => ⟨g1, g2, ?_, Or.inl rfl⟩
      rcases g3 with ⟨_, g⟩ | ⟨g, _⟩
      · exact g
      · exact absurd c g
    · have q2 : st = [.int (prA (rwT Z d) (prP a b))] := q2
      subst q2
      have j1 : Jl L xs Z (jh_setJ s0 229 0 (prA (rwT Z d) (prP a b)).toInt64) := Jl_out j0
      refine ⟨nI 0, _, lp_ret r.1.1 e0 m5, j1, by show jh_n s0 ≤ _; omega, by show jh_w s0 ≤ _; omega, ?_⟩
      refine WM_I (m_pairYes hZ j1.2.2.1 h1 h3 ha hb hab) fun x s2 ⟨g1, g2, g3⟩ => ⟨g1, g2, ?_⟩
      rcases g3 with ⟨g, _⟩ | ⟨_, g, g'⟩
      · exact absurd g c
      · exact ⟨g, Or.inr ⟨rfl, by rw [rJ_eq, g']⟩⟩
set_option maxHeartbeats 1000000 in
theorem lw_pair {K : Nat → JS → Prop} (j : Jl L xs Z σ) (hL : L ≤ 3584) (hi : i + 7 ≤ L) (hK : LwN L i xs σ K) : WP (lwp_pair q_Lw_pair) (lwL i o5 o6, [], σ) K := by
  have h24 := j.2.2.2.2.1
  have hx := j.2.2.2.2.2.1
  obtain ⟨k, s1, e1, j1, n1, w1, hm⟩ := lp_both j (xs (i + 1)) (xs (i + 2)) (xs (i + 3))
  have g24 := j1.2.2.2.2.1
  have gx := j1.2.2.2.2.2.1
  obtain ⟨h, pl, r1⟩ := j1.2.1
  unfold lwp_pair
  refine wp_sq (wp_if (wn_jn (wo_aload rfl (ld_at h24 hx hL (j := 1) (by omega) rfl (ld_at h24 hx hL (j := 2) (by omega) rfl (ld_at h24 hx hL (j := 3) (by omega) rfl (wo_aload rfl (wn_nil (wn_jn ?_)))))))))
  refine wc_s (st := []) (tk := [.ref 229, .int (xs (i + 3)), .int (xs (i + 2)), .int (xs (i + 1)), .ref 64]) rfl rfl rfl e1 ?_
  refine wn_jn (wo_istore (L' := lwL i (some (.int k)) o6) rfl rfl (wo_aload rfl (ld_at g24 gx hL (j := 1) (by omega) rfl (ld_at g24 gx hL (j := 2) (by omega) rfl (ld_at g24 gx hL (j := 3) (by omega) rfl (wn_nil (wn_jn ?_)))))))
  refine wc_vI (st := []) [.int (xs (i + 3)), .int (xs (i + 2)), .int (xs (i + 1)), .ref 204] (ls_204 j1.2.2.1.1) rfl rfl rfl hm fun x s2 ⟨r2, f2, ht, hk⟩ => ?_
  have j2 : Jl L xs Z s2 := Jl_m j1.1 r1 j1.2.2.2.1 g24 gx j1.2.2.2.2.2.2 f2 r2
  have en : jh_n s2 = jh_n s1 := by unfold jh_n; rw [f2.1]
  have ew : jh_w s2 = jh_w s1 := by unfold jh_w; rw [f2.1]
  have fin : K 1285 (lwL i (some (.int k)) (some (.int x)), [], s2) := hK Z s2 _ _ j2 (by omega) (by omega)
  refine wn_jn (wo_istore (L' := lwL i (some (.int k)) (some (.int x))) rfl rfl (wo_aload rfl (wn_nil (wn_jn ?_))))
  refine wc_vE (st := []) [.ref 204] (ls_204 r2.1) rfl rfl rfl (w_Md_thrown r2.1 (K := fun y => y = k) ht) fun y hy => ?_
  subst hy
  refine wo_iload rfl (wn_nil (ti_6 (A := True) (B := False) (by rw [if_pos rfl]; trivial) (fun _ => kk_hit ?_) (fun q => q.elim)))
  refine wp_sq (wp_sq (wp_if (wo_iload rfl (wn_nil ?_))))
  rcases hk with rfl | ⟨rfl, hk⟩
  · exact ti_1 (A := False) (B := True) (by rw [if_neg (by decide)]; trivial) (fun q => q.elim) (fun _ => kk_mis rfl (kk_hit (wp_go (wn_nil fin))))
  · have h229 : s2.2.2.1 229 0 = x.toInt64 := (f2.2.2.1 _ _ (by omega)).trans hk
    refine ti_1 (A := True) (B := False) (by rw [if_pos (by decide)]; trivial) (fun _ => kk_hit (wp_if (wo_aload rfl (wo_ipush (c := nI 0) rfl (wo_ldJ (k := 0) j2.2.2.2.2.2.2 (by rw [inb_nI (by omega) (by omega)]; omega) (by decide) (wo_iload rfl (wo_i2l (wo_lcmp (wn_nil ?_))))))))) (fun q => q.elim)
    rw [h229]
    exact ti_0 (A := True) (B := False) (by rw [if_pos ((lg_cmp_eq _ _).mpr rfl)]; trivial) (fun _ => kk_hit (wp_go (wn_nil fin))) (fun q => q.elim)
end PL

section LM
variable {L i : Nat} {xs : Nat → Int32} {Z : Ste} {σ s t : JH} {o5 o6 : Option Value}
set_option maxHeartbeats 1000000 in
theorem lw_mark {K : Nat → JS → Prop} (j : Jl L xs Z σ) (hL : L ≤ 3584) (hi : i + 7 ≤ L) (hK : LwN L i xs σ K) : WP lwp_mark (lwL i o5 o6, [], σ) K := by
  have h24 := j.2.2.2.2.1
  have hx := j.2.2.2.2.2.1
  obtain ⟨h, pl, r⟩ := j.2.1
  unfold lwp_mark
  by_cases c : xs (i + 2) = 0
  · obtain ⟨x, Z', w', aC, aM⟩ := Agr_w (a_mark (x := xs (i + 1)) (y := nI 0) j.1)
    refine wp_sq (wp_sq (wp_sq (wp_if (wo_aload rfl (ld_at h24 hx hL (j := 1) (by omega) rfl (ld_at h24 hx hL (j := 2) (by omega) rfl (wn_nil (ti_0 (A := True) (B := False) (by rw [if_pos c]; trivial) (fun _ => kk_mis rfl (kk_hit (wp_go (wo_ipush (c := nI 0) rfl (wn_nil (kk_hit ?_)))))) (fun q => q.elim)))))))))
    refine wp_sq (wp_sq (wp_sq (wp_if (wn_jn ?_))))
    refine wc_vI (st := []) [.int (nI 0), .int (xs (i + 1)), .ref 64] (ls_64 r.1.1) rfl rfl rfl (aC h pl σ j.2.2.2.1 r) fun y1 s1 ⟨e1, ⟨h', pl', r'⟩, f1⟩ => ?_
    obtain ⟨m1, m2, m3, m4, m5⟩ := Jl_c j f1 r'
    refine wo_aload rfl (ld_at m3 m4 hL (j := 1) (by omega) rfl (ld_at m3 m4 hL (j := 2) (by omega) rfl (wn_nil (ti_0 (A := True) (B := False) (by rw [if_pos c]; trivial) (fun _ => kk_mis rfl (kk_hit (wp_go (wo_ipush (c := nI 0) rfl (wn_nil (kk_hit ?_)))))) (fun q => q.elim)))))
    refine wp_if ?_
    refine wc_vI (st := [.int y1]) [.int (nI 0), .int (xs (i + 1)), .ref 204] (ls_204 m1.1) rfl rfl rfl (aM s1 m1) fun z1 s2 ⟨e2, r2, f2⟩ => ?_
    refine ti_6 (A := True) (B := False) (by rw [e1, e2, if_pos rfl]; trivial) (fun _ => LwN_k hK Z' s2 (Jl_m w' r' m2 m3 m4 m5 f2 r2) (f2.1.trans f1.1)) (fun q => q.elim)
  · obtain ⟨x, Z', w', aC, aM⟩ := Agr_w (a_mark (x := xs (i + 1)) (y := nI 1) j.1)
    refine wp_sq (wp_sq (wp_sq (wp_if (wo_aload rfl (ld_at h24 hx hL (j := 1) (by omega) rfl (ld_at h24 hx hL (j := 2) (by omega) rfl (wn_nil (ti_0 (A := False) (B := True) (by rw [if_neg c]; trivial) (fun q => q.elim) (fun _ => kk_hit (wp_go (wo_ipush (c := nI 1) rfl (wn_nil (kk_mis rfl (kk_hit ?_))))))))))))))
    refine wp_sq (wp_sq (wp_sq (wp_if (wn_jn ?_))))
    refine wc_vI (st := []) [.int (nI 1), .int (xs (i + 1)), .ref 64] (ls_64 r.1.1) rfl rfl rfl (aC h pl σ j.2.2.2.1 r) fun y1 s1 ⟨e1, ⟨h', pl', r'⟩, f1⟩ => ?_
    obtain ⟨m1, m2, m3, m4, m5⟩ := Jl_c j f1 r'
    refine wo_aload rfl (ld_at m3 m4 hL (j := 1) (by omega) rfl (ld_at m3 m4 hL (j := 2) (by omega) rfl (wn_nil (ti_0 (A := False) (B := True) (by rw [if_neg c]; trivial) (fun q => q.elim) (fun _ => kk_hit (wp_go (wo_ipush (c := nI 1) rfl (wn_nil (kk_mis rfl (kk_hit ?_))))))))))
    refine wp_if ?_
    refine wc_vI (st := [.int y1]) [.int (nI 1), .int (xs (i + 1)), .ref 204] (ls_204 m1.1) rfl rfl rfl (aM s1 m1) fun z1 s2 ⟨e2, r2, f2⟩ => ?_
    refine ti_6 (A := True) (B := False) (by rw [e1, e2, if_pos rfl]; trivial) (fun _ => LwN_k hK Z' s2 (Jl_m w' r' m2 m3 m4 m5 f2 r2) (f2.1.trans f1.1)) (fun q => q.elim)
end LM

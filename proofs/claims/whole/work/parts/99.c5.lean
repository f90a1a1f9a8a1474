/-! ===== from the law's entry to its loop ===== -/
section LS
variable {L : Nat} {xs : Nat → Int32} {σ s : JH}
theorem js_set (L : Nat) : js_sh L = (js_sh 0).set 24 (200, L) := rfl
theorem js_B : ∀ a, a < 64 → a ≠ 24 → (js_sh L)[a]? = ly_sh[a]? := by
  intro a h1 h2
  have h : ∀ a, a < 64 → a = 24 ∨ (js_sh 0)[a]? = ly_sh[a]? := by decide +kernel
  rw [js_set, List.getElem?_set_ne (fun q => h2 q.symm)]
  rcases h a h1 with q | q
  · exact absurd q h2
  · exact q
theorem js_Rf : ∀ q ∈ ly_ref, q.1.1 < 64 → js_R q.1.1 q.1.2 = some q.2 := by
  have h : ∀ q ∈ ly_ref, 64 ≤ q.1.1 ∨ js_R q.1.1 q.1.2 = some q.2 := by decide +kernel
  intro q g1 g2
  rcases h q g1 with e | e
  · omega
  · exact e
theorem js_C : Cn (js_sh L) [] (js_0 L xs) := ⟨(List.append_nil _).symm, rfl, rfl⟩
theorem Ly_n {d m : Nat} (h : Ly s) (hn : s.1.length = 229) : Ly (jh_new s d m) ∧ Ly (s.1, (jh_new s d m).2) := by
  have h1 : ∀ q ∈ ly_ref, q.1.1 < 229 := by decide +kernel
  have h2 : ∀ q ∈ ly_dyn, q.1.1 < 229 := by decide +kernel
  have h5 : ly_sh.length = 230 := by decide +kernel
  have f : Fo 229 s (jh_new s d m) := Fo_n (by omega)
  have r1 : ∀ q ∈ ly_ref, (jh_new s d m).2.2.2 q.1.1 q.1.2 = some q.2 := fun q g => (f.2.2 _ _ (h1 q g)).trans (h.2.1 q g)
  have r2 : ∀ q ∈ ly_dyn, ∃ h, (jh_new s d m).2.2.2 q.1.1 q.1.2 = some h ∧ ly_ok q.2 h := fun q g => by
    obtain ⟨x, x1, x2⟩ := h.2.2 q g
    exact ⟨x, (f.2.2 _ _ (h2 q g)).trans x1, x2⟩
  refine ⟨⟨fun a g1 g2 => ?_, r1, r2⟩, ⟨h.1, r1, r2⟩⟩
  have e : ly_sh[a]? = some ly_sh[a] := List.getElem?_eq_getElem (by omega)
  rw [e]; exact Up_n _ _ ((h.1 a g1 g2).trans e)
theorem Rm_n {Z : Ste} {d m : Nat} (hZ : WZ Z) (h : Rm Z s) (hn : s.1.length = 229) : Rm Z (jh_new s d m) := by
  obtain ⟨l1, l2⟩ := Ly_n (d := d) (m := m) h.1 hn
  have f : Fg (fun b _ => b = 229) s (s.1, (jh_new s d m).2) := ⟨rfl, fun b j q => if_neg (by omega), fun b j q => if_neg (by omega), fun b j q => if_neg (by omega)⟩
  have r : Rm Z (s.1, (jh_new s d m).2) := Rm_f hZ h f l2 (fun b j h1 h2 q => by omega)
  exact ⟨l1, r.2⟩
theorem Wd_o (h : Wd σ) (f : Fo 64 σ s) : Wd s := by
  obtain ⟨w1, w2, w3, w4, w5, w6, w7⟩ := h
  refine ⟨fun j w e => ?_, (f.2.1 _ _ (by decide)).trans w2, fun j hj => (f.1 _ _ (by omega)).trans (w3 j hj), fun j hj => (f.1 _ _ (by omega)).trans (w4 j hj), fun j x e => (f.1 _ _ (by decide)).trans (w5 j x e), (f.1 _ _ (by decide)).trans w6, fun j x e => (f.1 _ _ (by decide)).trans (w7 j x e)⟩
  have hj := (List.getElem?_eq_some_iff.mp e).1
  have hw : wdl.length = 21 := rfl
  exact (f.2.1 _ _ (by omega)).trans (w1 j w e)
theorem js_Wd : Wd (js_0 L xs) := by
  have a1 : ∀ j, j < 21 → js_J j 1 = lN (wrd 27 (wdl.getD j [])) := by decide +kernel
  have a2 : js_J 21 1 = 0 := by decide +kernel
  have a3 : ∀ j, j < 22 → js_I (fun _ => 0) j 0 = nI j := by decide +kernel
  have a4 : ∀ j, j < 22 → js_I (fun _ => 0) j 2 = bI (decide (j < 18)) := by decide +kernel
  have i1 : ∀ a j, a < 24 → js_I xs a j = js_I (fun _ => 0) a j := fun a j h => by
    unfold js_I
    by_cases c : a < 22
    · rw [if_pos c, if_pos c]
    · rw [if_neg c, if_neg c]
      by_cases d : a = 22
      · rw [if_pos d, if_pos d]
      · rw [if_neg d, if_neg d, if_neg (show ¬ a = 24 by omega), if_neg (show ¬ a = 24 by omega)]
  refine ⟨fun j w e => ?_, a2, fun j hj => (i1 j 0 (by omega)).trans (a3 j hj), fun j hj => (i1 j 2 (by omega)).trans (a4 j hj), fun j x e => ?_, rfl, fun j x e => ?_⟩
  · have hj := (List.getElem?_eq_some_iff.mp e).1
    have hw : wdl.length = 21 := rfl
    have := a1 j (by omega)
    rw [List.getD_eq_getElem?_getD, e] at this
    exact this
  · show jw_sm.getD j 0 = nI x
    have h : jw_sm = swm.map nI := by decide +kernel
    rw [h, List.getD_eq_getElem?_getD, List.getElem?_map, e]; rfl
  · show jw_sg.getD j 0 = nI x
    have h : jw_sg = sgl.map nI := by decide +kernel
    rw [h, List.getD_eq_getElem?_getD, List.getElem?_map, e]; rfl
theorem In_0 {c d m : Nat} (e : σ.1.length = c) (j : Nat) : (jh_new σ d m).2.1 c j = nI 0 := by
  show (if c = σ.1.length then (0 : Int32) else σ.2.1 c j) = nI 0
  rw [if_pos e.symm]; rfl
theorem lw_start {fp : JF} {K : Nat → JS → Prop} (hL : L ≤ 3584) (hp : ∀ Z σ i o5 o6, Jl L xs Z σ → i + 7 ≤ L → ∀ K, LwN L i xs σ K → WP (lwp_pair fp) (lwL i o5 o6, [], σ) K)
    (hK : ∀ i' s o5' o6' s0, Jl L xs (zC Q00) s0 → jh_n s0 = 230 → jh_n s ≤ jh_n s0 + 64 * L → jh_w s ≤ jh_w s0 + 1024 * L → K 1291 (lwL i' o5' o6', [], s)) : WP (lwp_0 fp) ([some (.ref 24), none, none, none, none, none, none], [], js_0 L xs) K := by
  refine wp_sq (wp_go (wn_jn ?_))
  have c0 : Cn (js_sh L) [(10, 16)] (jh_new (js_0 L xs) 10 16) := Cn_new js_C (by decide)
  have f0 : Fo 64 (js_0 L xs) (jh_new (js_0 L xs) 10 16) := Fo_n (by rw [Cn_len js_C]; exact Nat.le_refl _)
  have h24 : (js_0 L xs).1[24]? = some (200, L) := by show (js_sh L)[24]? = _; rw [js_set]; rfl
  refine wo_new (a := 64) (m := 16) js_C rfl rfl (wo_dupr (wn_nil (wn_jn ?_)))
  refine wc_ci [.ref 64] rfl rfl rfl (z_Ct_init c0 rfl (At_n js_C rfl) (In_0 (Cn_len js_C) 13) (In_0 (Cn_len js_C) 14) (In_0 (Cn_len js_C) 15) (fun a h1 h2 => ?_) (fun q g1 g2 => (f0.2.2 _ _ g2).trans (js_Rf q g1 g2))) fun s1 ⟨l1, f1, ⟨T1, c1, k1⟩, u1, z1⟩ => ?_
  · show (js_sh L ++ [(10, 16)])[a]? = _
    rw [List.getElem?_append_left (show a < (js_sh L).length from h1)]
    exact js_B a h1 h2
  have e1 : s1.1.length = 204 := (Cn_len c1).trans k1
  have c2 : Cn (js_sh L) (T1 ++ [(11, 45)]) (jh_new s1 11 45) := Cn_new c1 (by decide)
  have f2 : Fo 204 s1 (jh_new s1 11 45) := Fo_n (by omega)
  refine wn_jn (wo_astore (L' := [some (.ref 24), some (.ref 64), none, none, none, none, none]) rfl rfl (wo_new (a := 204) (m := 45) c1 k1 rfl (wo_dupr (wn_nil (wn_jn ?_)))))
  refine wc_ci [.ref 204] rfl rfl rfl (z_Md_init c2 (cz_len k1) (At_n c1 k1) (Lc_n l1 e1) (In_0 e1 2) (In_0 e1 16)) fun s2 ⟨r2, f3, T2, c3, k3⟩ => ?_
  have e2 : s2.1.length = 229 := (Cn_len c3).trans k3
  have c4 : Cn (js_sh L) (T2 ++ [(101, 1)]) (jh_new s2 101 1) := Cn_new c3 (by decide)
  have f4 : Fo 229 s2 (jh_new s2 101 1) := Fo_n (by omega)
  have hZ : WZ (zC Q00) := WZ_C WQ_00
  have r4 : Rm (zC Q00) (jh_new s2 101 1) := Rm_n hZ r2 e2
  have fa : Fo 64 (js_0 L xs) (jh_new s2 101 1) := Fo_t f0 (Fo_t f1 (Fo_t (Fo_m f2 (by omega)) (Fo_t (Fo_m f3 (by omega)) (Fo_m f4 (by omega)))))
  have j : Jl L xs (zC Q00) (jh_new s2 101 1) := ⟨hZ, ⟨69, 91, Rc_0 r4.1 (ZcI_o z1 (Fo_t f2 (Fo_t f3 (Fo_m f4 (by omega)))))⟩, r4, Wd_o js_Wd fa, by
    rw [c4.1, List.getElem?_append_left (show 24 < (js_sh L).length from (by decide : 24 < 64))]; exact h24, fun k hk => (fa.1 _ _ (by decide)).trans rfl, At_n c3 k3⟩
  refine wo_astore (L' := [some (.ref 24), some (.ref 64), some (.ref 204), none, none, none, none]) rfl rfl (wo_ipush (c := nI 1) rfl (wo_newa (a := 229) (m := 1) c3 k3 (by decide) (by decide) (wo_astore (L' := [some (.ref 24), some (.ref 64), some (.ref 204), some (.ref 229), none, none, none]) rfl rfl (wo_ipush (c := nI 0) rfl (wo_istore (L' := lwL 0 none none) rfl rfl (wn_nil (kk_hit ?_)))))))
  have n4 : jh_n (jh_new s2 101 1) = 230 := by
    show (jh_new s2 101 1).1.length = 230
    rw [Cn_len c4, List.length_append]; show 64 + (_ + 1) = _; omega
  exact lw_loop hL hp L 0 (zC Q00) _ none none (by omega) (Nat.zero_le _) j K (fun i' s o5' o6' g1 g2 => hK i' s o5' o6' _ j n4 (by omega) (by omega))
end LS

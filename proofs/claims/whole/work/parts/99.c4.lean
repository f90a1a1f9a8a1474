section LO
variable {L i : Nat} {xs : Nat → Int32} {Z : Ste} {σ s t : JH} {o5 o6 : Option Value}
theorem lw_cmp (hL : L ≤ 3584) (hi : i ≤ 3591) : nI L - nI 7 < nI i ↔ L < i + 7 := by
  by_cases c : 7 ≤ L
  · rw [nI_subN c, nI_ltN (by omega) (by omega)]; omega
  · have h : nI L - nI 7 < 0 := by
      rcases (show L = 0 ∨ L = 1 ∨ L = 2 ∨ L = 3 ∨ L = 4 ∨ L = 5 ∨ L = 6 by omega) with rfl | rfl | rfl | rfl | rfl | rfl | rfl <;> decide
    have h0 : (0 : Int32) ≤ nI i := by
      rw [nI_0le (by omega)]; trivial
    exact ⟨fun _ => by omega, fun _ => Int32.lt_of_lt_of_le h h0⟩
noncomputable abbrev lwp_lp (fp : JF) : JP := jb_lp 23 (jb_sq (jb_if (jx_run [(2, 4, 0), (4, 0, 0), (60, 0, 0), (0, 0, 7), (11, 0, 0)]) 10 1291 33) 33 (lwp_33 fp))
theorem lw_loop {fp : JF} (hL : L ≤ 3584) (hp : ∀ Z σ i o5 o6, Jl L xs Z σ → i + 7 ≤ L → ∀ K, LwN L i xs σ K → WP (lwp_pair fp) (lwL i o5 o6, [], σ) K) :
    ∀ m i Z σ o5 o6, L - i ≤ m → i ≤ L → Jl L xs Z σ → ∀ K : Nat → JS → Prop, (∀ i' s o5' o6', jh_n s ≤ jh_n σ + 64 * (L - i) → jh_w s ≤ jh_w σ + 1024 * (L - i) → K 1291 (lwL i' o5' o6', [], s)) → WP (lwp_lp fp) (lwL i o5 o6, [], σ) K := by
  intro m
  induction m with
  | zero =>
    intro i Z σ o5 o6 hm hi j K hK
    refine wp_un (wp_sq (wp_if (wo_iload (x := nI i) rfl (wo_aload (a := 24) rfl (wo_len (m := L) (w := 200) j.2.2.2.2.1 (by decide) (wo_ipush (c := nI 7) rfl (wo_isub (wn_nil (ti_10 (A := True) (B := False) (by rw [if_pos ((lw_cmp hL (by omega)).mpr (by omega))]; trivial) (fun _ => kk_mis rfl (kk_mis rfl (hK i σ o5 o6 (by omega) (by omega)))) (fun q => q.elim))))))))))
  | succ m ih =>
    intro i Z σ o5 o6 hm hi j K hK
    by_cases c : i + 7 ≤ L
    · refine wp_un (wp_sq (wp_if (wo_iload (x := nI i) rfl (wo_aload (a := 24) rfl (wo_len (m := L) (w := 200) j.2.2.2.2.1 (by decide) (wo_ipush (c := nI 7) rfl (wo_isub (wn_nil (ti_10 (A := False) (B := True) (by rw [if_neg (fun q => absurd ((lw_cmp hL (by omega)).mp q) (by omega))]; trivial) (fun q => q.elim) (fun _ => kk_hit ?_))))))))))
      refine lw_body j hL c (hp Z σ i o5 o6 j c) (fun K' h' => lw_mark j hL c h') fun Z' s o5' o6' j' h1 h2 => kk_hit ?_
      exact ih (i + 7) Z' s o5' o6' (by omega) c j' K (fun i' t o5'' o6'' g1 g2 => hK i' t o5'' o6'' (by omega) (by omega))
    · refine wp_un (wp_sq (wp_if (wo_iload (x := nI i) rfl (wo_aload (a := 24) rfl (wo_len (m := L) (w := 200) j.2.2.2.2.1 (by decide) (wo_ipush (c := nI 7) rfl (wo_isub (wn_nil (ti_10 (A := True) (B := False) (by rw [if_pos ((lw_cmp hL (by omega)).mpr (by omega))]; trivial) (fun _ => kk_mis rfl (kk_mis rfl (hK i σ o5 o6 (by omega) (by omega)))) (fun q => q.elim))))))))))
end LO

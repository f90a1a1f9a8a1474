/-! ===== the class's rows of muddles ===== -/
section ZL
variable {L : JL} {st : List Value} {σ s t σ0 s0 : JH} {K : Nat → JS → Prop} {lo ex bo ar N k : Nat} {f NN : Int} {B : List (Nat × Nat)}
/-- the j-th muddle of the row ar -/
def Mq (ar j : Nat) (s : JH) : Prop := Lq zMs zMr (ar + 1 + 4 * j) s ∧ s.2.2.2 (ar + 1 + 4 * j) 3 = some 69 ∧ s.2.2.2 ar j = some (ar + 1 + 4 * j)
theorem z_loop (e1 : Nat.beq ex bo = false) (e2 : Nat.beq ex lo = false) (hf : f.toNat = k) (hNN : Int32.ofInt NN = nI N) (h0 : ∃ T, Cn B T s0 ∧ 64 + T.length = ar + 1) (hs : s0.1[ar]? = some (104, N)) (h64 : s0.1[64]? = some (10, 16)) (hr : s0.2.2.2 64 k = some ar) (h69 : s0.2.2.2 64 9 = some 69) (hH : Lq zHs zHr 69 s0) (h8 : s0.2.1 69 8 = nI 0) (h9 : s0.2.1 69 9 = nI 0) (har : 80 ≤ ar) (hN : N ≤ 16)
    (H : ∀ s, (∃ T, Cn B T s ∧ 64 + T.length = ar + 1 + 4 * N) → Up s0 s → Fo ar s0 s → (∀ j, j < N → Mq ar j s) → K ex ([some (.ref 64), some (.int (nI N))], [], s)) :
    WP (jb_lp lo (jb_sq (jb_if (jx_run [(2, 1, 0), (0, 0, NN)]) 9 ex bo) bo (jb_go (jn (jx_run [(4, 0, 0), (42, 10, f), (2, 1, 0), (61, 3, 0), (70, 0, 0), (4, 0, 0), (42, 10, 9)]) (jn (jx_ci 2 q_Mu_init) (jx_run [(59, 0, 0), (8, 1, 1)]))) lo))) ([some (.ref 64), some (.int (nI 0))], [], s0) K := by
  have b8 : ∀ q ∈ zHr, q.1 ≤ 8 := by decide
  have bm : ∀ q ∈ zMr, q.1 = 0 := by decide
  have main : ∀ m i s, m = N - i → i ≤ N → (∃ T, Cn B T s ∧ 64 + T.length = ar + 1 + 4 * i) → Up s0 s → Fo ar s0 s → (∀ j, j < i → Mq ar j s) → WP (jb_lp lo (jb_sq (jb_if (jx_run [(2, 1, 0), (0, 0, NN)]) 9 ex bo) bo (jb_go (jn (jx_run [(4, 0, 0), (42, 10, f), (2, 1, 0), (61, 3, 0), (70, 0, 0), (4, 0, 0), (42, 10, 9)]) (jn (jx_ci 2 q_Mu_init) (jx_run [(59, 0, 0), (8, 1, 1)]))) lo))) ([some (.ref 64), some (.int (nI i))], [], s) K := by
    intro m
    induction m with
    | zero =>
      intro i s hm hi c u fo g
      have : i = N := by omega
      subst this
      refine wp_un (wp_sq (wp_if (wo_iload rfl (wo_ipush hNN (wn_nil (ti_9 (A := True) (B := False) (by rw [if_pos (by rw [nI_leN (by omega) (by omega)]; exact Nat.le_refl _)]; trivial) (fun _ => kk_mis e1 (kk_mis e2 (H s c u fo g))) (fun q => q.elim)))))))
    | succ m ih =>
      intro i s hm hi c u fo g
      obtain ⟨T, c1, c2⟩ := c
      refine wp_un (wp_sq (wp_if (wo_iload rfl (wo_ipush hNN (wn_nil (ti_9 (A := False) (B := True) (by rw [if_neg (by rw [nI_leN (by omega) (by omega)]; omega)]; trivial) (fun q => q.elim) (fun _ => kk_hit (wp_go (wn_jn ?_)))))))))
      have sl : s.1.length = ar + 1 + 4 * i := (Cn_len c1).trans c2
      have f1 : Fo (ar + 1 + 4 * i) s (jh_new s 3 12) := Fo_n (by omega)
      have f01 : Fo ar s0 (jh_new s 3 12) := Fo_t fo (Fo_m f1 (by omega))
      have u01 : Up s0 (jh_new s 3 12) := Up_t u Up_n
      refine wo_aload rfl (wo_getR (m := 16) (k := k) (u _ _ h64) hf ((fo.2.2 _ _ (by omega)).trans hr) (wo_iload rfl (wo_new (a := ar + 1 + 4 * i) (m := 12) c1 c2 rfl (wo_dupr (wo_aload rfl (wo_getR (m := 16) (k := 9) (u01 _ _ h64) rfl ((f01.2.2 _ _ (by omega)).trans h69) (wn_nil (wn_jn ?_))))))))
      refine wc_ci [.ref 69, .ref (ar + 1 + 4 * i)] rfl rfl rfl (z_Mu_init (Cn_new c1 (by decide)) (by rw [List.length_append]; show 64 + (_ + 1) = _; omega) (At_n c1 c2) (Lq_o hH u01 f01 (fun q hq => by have := b8 q hq; omega)) (by omega) ((f01.1 _ _ (by omega)).trans h8) ((f01.1 _ _ (by omega)).trans h9)) fun v ⟨v1, v2, v3, v4, v5, v6⟩ => ?_
      have fv : Fo (ar + 1 + 4 * i) s v := Fo_t f1 v4
      have uv : Up s v := Up_t Up_n v2
      refine wo_stR (m := N) (k := i) (uv _ _ (u _ _ hs)) (by rw [inb_nI (by omega) (by omega)]; omega) (v3.1 (0, 3, 12) (by decide)) (cl_nI (by omega)) (wo_iinc (c := nI 1) (L' := [some (.ref 64), some (.int (nI i + nI 1))]) rfl rfl rfl (wn_nil (kk_hit ?_)))
      rw [nI_add]
      refine ih (i + 1) _ (by omega) (by omega) ⟨_, Cn_1 v1 rfl, by simp only [List.length_append, List.length_singleton]; omega⟩ (Up_t u (Up_t uv (Up_e rfl))) (Fo_t fo (Fo_t (Fo_m fv (by omega)) (Fo_R (Nat.le_refl _)))) fun j hj => ?_
      by_cases d : j = i
      · subst d
        refine ⟨⟨v3.1, fun q hq => ?_⟩, ?_, if_pos ⟨rfl, rfl⟩⟩
        · exact (if_neg (fun z => by omega)).trans (v3.2 q hq)
        · exact (if_neg (fun z => by omega)).trans v5
      · obtain ⟨g1, g2, g3⟩ := g j (by omega)
        refine ⟨⟨fun q hq => uv _ _ (g1.1 q hq), fun q hq => ?_⟩, ?_, ?_⟩
        · have := bm q hq
          exact (if_neg (fun z => by omega)).trans ((fv.2.2 _ _ (by omega)).trans (g1.2 q hq))
        · exact (if_neg (fun z => by omega)).trans ((fv.2.2 _ _ (by omega)).trans g2)
        · exact (if_neg (fun z => by omega)).trans ((fv.2.2 _ _ (by omega)).trans g3)
  exact main (N - 0) 0 s0 rfl (Nat.zero_le _) (by rw [Nat.mul_zero, Nat.add_zero]; exact h0) (Up_r _) (Fo_r _ _) (fun j hj => absurd hj (Nat.not_lt_zero _))
end ZL

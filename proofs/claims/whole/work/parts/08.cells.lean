/-! ===== instructions on cells ===== -/
section JW
variable {G : JG} {p : Program} {e : Env} {R : Room} {s : State} {m : MethodId} {args : Array Value} {below : List Frame} {meth : Method} {c : Code} {cc : ByteArray} {n0 w0 nE wE nL own : Nat} {ini : Bool} {Q : State → Prop} {pc : Nat} {σ : JH} {H : Heap} {locs : List Loc} {cells slots : Nat} {ls : Array Slot} {rest : List Value}
theorem jw_getfield (X : JX G p R s m meth c cc nL n0 w0 nE wE own ini) {S S' : JS} {ix : Nat} {o : JO} (ho : jx_fld own ix false ini = some o) (hd : decode cc pc = .ok (.getfield ix, 3)) (h : jx_op o S = some S') (k : JK G p e R s m args below meth c nL n0 w0 nE wE Q (pc + 3) S') : JK G p e R s m args below meth c nL n0 w0 nE wE Q pc S := by
  obtain ⟨L, st0, σ⟩ := S
  obtain ⟨ci, kk, nest, hf, hh⟩ := jx_fld_get ho
  rcases hh with ⟨rfl, ht⟩ | ⟨rfl, ht⟩ | ⟨rfl, ht⟩
  · obtain ⟨a, n, st, hs, ha, rfl⟩ := jo_getI_i (ci := ci) (k := kk) h
    have hs : st0 = _ := hs
    subst hs
    exact jk_st (fun H locs ls cells slots _ hM k9 => jw_get X hf hM ha hd (by rw [jf_0 ht]; exact k9)) k
  · obtain ⟨a, n, st, hs, ha, rfl⟩ := jo_getJ_i (ci := ci) (k := kk) h
    have hs : st0 = _ := hs
    subst hs
    exact jk_st (fun H locs ls cells slots _ hM k9 => jw_get X hf hM ha hd (by rw [jf_1 ht]; exact k9)) k
  · obtain ⟨a, n, st, hs, ha, rfl⟩ := jo_getR_i (ci := ci) (k := kk) h
    have hs : st0 = _ := hs
    subst hs
    exact jk_st (fun H locs ls cells slots _ hM k9 => jw_get X hf hM ha hd (by rw [jf_2 ht]; exact k9)) k
theorem jw_putfield (X : JX G p R s m meth c cc nL n0 w0 nE wE own ini) {S S' : JS} {ix : Nat} {o : JO} (ho : jx_fld own ix true ini = some o) (hd : decode cc pc = .ok (.putfield ix, 3)) (h : jx_op o S = some S') (k : JK G p e R s m args below meth c nL n0 w0 nE wE Q (pc + 3) S') : JK G p e R s m args below meth c nL n0 w0 nE wE Q pc S := by
  obtain ⟨L, st0, σ⟩ := S
  obtain ⟨ci, kk, nest, hf, hh⟩ := jx_fld_put ho
  have pI : ∀ ty : FieldType, jt_ty ci kk = ty → jt_k ty = 0 → (jt_f ci kk).2.2.1 = false → jo_putI ci kk ty (L, st0, σ) = some S' → JK G p e R s m args below meth c nL n0 w0 nE wE Q pc (L, st0, σ) := by
    intro ty ht ht0 hfin h
    obtain ⟨x, a, n, st, hs, ha, hn, hft, rfl⟩ := jo_putI_i (ci := ci) (k := kk) h
    have hs : st0 = _ := hs
    subst hs
    exact jk_wr (σ' := jh_setI σ a kk x) rfl (fun H locs ls cells slots hM hlo k9 => jw_put (v := .int x) (σ' := jh_setI σ a kk x) X hf hM ha hd (Or.inl hfin) (by rw [ht]; exact hn) (by rw [ht]; exact hft) rfl (fun b j hb => ju_ne _ _ hb) (fun b j hb => rfl) (fun b j hb => rfl)
      (by rw [ht, jf_0 ht0]; exact congrArg _ (ju_at _ _ _ _)) hlo k9) k
  have pR : (jt_k (jt_ty ci kk) = 2) → (∀ v : Value, narrow (jt_ty ci kk) v = v) → (∀ r : Nat, fits (jt_ty ci kk) (.ref r) = true) → ((jt_f ci kk).2.2.1 = false ∨ ((jt_f ci kk).2.2.1 = true ∧ nest = false ∧ ci = own ∧ meth.name = "<init>")) → jo_putR ci kk (L, st0, σ) = some S' → JK G p e R s m args below meth c nL n0 w0 nE wE Q pc (L, st0, σ) := by
    intro ht hn hft hfin h
    obtain ⟨x, a, n, st, hs, ha, rfl⟩ := jo_putR_i (ci := ci) (k := kk) h
    have hs : st0 = _ := hs
    subst hs
    exact jk_wr (σ' := jh_setR σ a kk (some x)) rfl (fun H locs ls cells slots hM hlo k9 => jw_put (v := .ref x) (σ' := jh_setR σ a kk (some x)) X hf hM ha hd hfin (hn _) (hft _) rfl (fun b j hb => rfl) (fun b j hb => rfl) (fun b j hb => ju_ne _ _ hb)
      (by rw [jf_2 ht]; exact congrArg va_rf (ju_at _ _ _ _)) hlo k9) k
  rcases hh with ⟨rfl, ht, hfin⟩ | ⟨rfl, ht, hfin⟩ | ⟨rfl, ⟨C, ht⟩, hfin⟩ | ⟨rfl, ht, hfin⟩ | ⟨rfl, ht, hfin⟩ | ⟨rfl, ht, hfin, hi, hne, hco⟩
  · exact pI .int ht rfl hfin h
  · obtain ⟨x, a, n, st, hs, ha, rfl⟩ := jo_putJ_i (ci := ci) (k := kk) h
    have hs : st0 = _ := hs
    subst hs
    exact jk_wr (σ' := jh_setJ σ a kk x) rfl (fun H locs ls cells slots hM hlo k9 => jw_put (v := .long x) (σ' := jh_setJ σ a kk x) X hf hM ha hd (Or.inl hfin) (by rw [ht]; rfl) (by rw [ht]; rfl) rfl (fun b j hb => rfl) (fun b j hb => ju_ne _ _ hb) (fun b j hb => rfl)
      (by rw [ht, jf_1 rfl]; exact congrArg _ (ju_at _ _ _ _)) hlo k9) k
  · exact pR (by rw [ht]; rfl) (fun v => by rw [ht]; cases v <;> rfl) (fun r => by rw [ht]; rfl) (Or.inl hfin) h
  · exact pI .boolean ht rfl hfin h
  · exact pI .char ht rfl hfin h
  · rcases ht with ⟨C, ht⟩ | ⟨C, ht⟩
    · exact pR (by rw [ht]; rfl) (fun v => by rw [ht]; cases v <;> rfl) (fun r => by rw [ht]; rfl) (Or.inr ⟨hfin, hne, hco, X.2.2.2.2.2.2.2 hi⟩) h
    · exact pR (by rw [ht]; rfl) (fun v => by rw [ht]; cases v <;> rfl) (fun r => by rw [ht]; rfl) (Or.inr ⟨hfin, hne, hco, X.2.2.2.2.2.2.2 hi⟩) h
theorem jw_iaload (X : JX G p R s m meth c cc nL n0 w0 nE wE own ini) {S S' : JS} (hd : decode cc pc = .ok (.iaload, 1)) (h : jo_ldI [100, 200] S = some S') (k : JK G p e R s m args below meth c nL n0 w0 nE wE Q (pc + 1) S') : JK G p e R s m args below meth c nL n0 w0 nE wE Q pc S := by
  obtain ⟨hx, hb, hml, hown, hG, hRc, hRs, hini⟩ := id X
  obtain ⟨L, st0, σ⟩ := S
  obtain ⟨i, a, t, n, st, hs, ha, ht, hin, rfl⟩ := jo_ldI_i h
  have hs : st0 = _ := hs
  subst hs
  refine jk_st (fun H locs ls cells slots _ hM k9 => ?_) k
  have ht : t = 100 ∨ t = 200 := by simpa using ht
  rcases ht with ht | ht
  · subst ht
    obtain ⟨-, hc⟩ := jm_arr hM ha (by decide) (by decide)
    exact W.iald hx hb hc ((hG.2.2.1 100 (by decide) (by decide)).1 n _) (fun q => by cases q) (jw_in hin) (jw_el hin) rfl rfl hd k9
  · obtain ⟨cell, g1, g2, g3, g4, g5, g6⟩ := jw_rowT hG hM ha ht
    exact W.iald (v := .int (σ.2.1 a i.toNatClampNeg)) hx hb g1 g2 g3 (fun q => hin (q.elim Or.inl (fun q => Or.inr (Nat.le_trans g4 q)))) (g6 _ (Nat.not_le.mp fun q => hin (Or.inr q))) rfl rfl hd k9
theorem jw_baload (X : JX G p R s m meth c cc nL n0 w0 nE wE own ini) {S S' : JS} (hd : decode cc pc = .ok (.baload, 1)) (h : jo_ldI [102, 103, 202] S = some S') (k : JK G p e R s m args below meth c nL n0 w0 nE wE Q (pc + 1) S') : JK G p e R s m args below meth c nL n0 w0 nE wE Q pc S := by
  obtain ⟨hx, hb, hml, hown, hG, hRc, hRs, hini⟩ := id X
  obtain ⟨L, st0, σ⟩ := S
  obtain ⟨i, a, t, n, st, hs, ha, ht, hin, rfl⟩ := jo_ldI_i h
  have hs : st0 = _ := hs
  subst hs
  refine jk_st (fun H locs ls cells slots _ hM k9 => ?_) k
  have ht : t = 102 ∨ t = 103 ∨ t = 202 := by simpa using ht
  rcases ht with ht | ht | ht
  · subst ht
    obtain ⟨-, hc⟩ := jm_arr hM ha (by decide) (by decide)
    exact W.bald hx hb hc ((hG.2.2.1 102 (by decide) (by decide)).1 n _) (fun q => by cases q) (jw_in hin) (jw_el hin) rfl rfl hd k9
  · subst ht
    obtain ⟨-, hc⟩ := jm_arr hM ha (by decide) (by decide)
    exact W.zald hx hb hc ((hG.2.2.1 103 (by decide) (by decide)).1 n _) (fun q => by cases q) (jw_in hin) (jw_el hin) rfl rfl hd k9
  · obtain ⟨cell, g1, g2, g3, g4, g5, g6⟩ := jw_rowB hG hM ha ht
    exact W.bald (v := .int (σ.2.1 a i.toNatClampNeg)) hx hb g1 g2 g3 (fun q => hin (q.elim Or.inl (fun q => Or.inr (Nat.le_trans g4 q)))) (g6 _ (Nat.not_le.mp fun q => hin (Or.inr q))) rfl rfl hd k9
theorem jw_laload (X : JX G p R s m meth c cc nL n0 w0 nE wE own ini) {S S' : JS} (hd : decode cc pc = .ok (.laload, 1)) (h : jo_ldJ S = some S') (k : JK G p e R s m args below meth c nL n0 w0 nE wE Q (pc + 1) S') : JK G p e R s m args below meth c nL n0 w0 nE wE Q pc S := by
  obtain ⟨hx, hb, hml, hown, hG, hRc, hRs, hini⟩ := id X
  obtain ⟨L, st0, σ⟩ := S
  obtain ⟨i, a, n, st, hs, ha, hin, rfl⟩ := jo_ldJ_i h
  have hs : st0 = _ := hs
  subst hs
  refine jk_st (fun H locs ls cells slots _ hM k9 => ?_) k
  obtain ⟨-, hc⟩ := jm_arr hM ha (by decide) (by decide)
  exact W.lald hx hb hc ((hG.2.2.1 101 (by decide) (by decide)).1 n _) (fun q => by cases q) (jw_in hin) (jw_el hin) rfl rfl hd k9
theorem jw_aaload (X : JX G p R s m meth c cc nL n0 w0 nE wE own ini) {S S' : JS} (hd : decode cc pc = .ok (.aaload, 1)) (h : jo_ldR S = some S') (k : JK G p e R s m args below meth c nL n0 w0 nE wE Q (pc + 1) S') : JK G p e R s m args below meth c nL n0 w0 nE wE Q pc S := by
  obtain ⟨hx, hb, hml, hown, hG, hRc, hRs, hini⟩ := id X
  obtain ⟨L, st0, σ⟩ := S
  obtain ⟨i, a, t, n, st, hs, ha, ht, hin, rfl⟩ := jo_ldR_i h
  have hs : st0 = _ := hs
  subst hs
  refine jk_st (fun H locs ls cells slots _ hM k9 => ?_) k
  rcases ht with ht | ht
  · subst ht
    obtain ⟨-, hc⟩ := jm_arr hM ha (by decide) (by decide)
    exact W.aald hx hb hc ((hG.2.2.1 104 (by decide) (by decide)).1 n _) rfl (fun q => by cases q) (jw_in hin) (jw_el hin) rfl rfl hd k9
  · obtain ⟨cell, g1, g2, g3, g4, g5, g6⟩ := jw_rowW hG hM ha ht
    exact W.aald (v := jv G (va_rf (σ.2.2.2 a i.toNatClampNeg))) hx hb g1 g2 rfl g3 (fun q => hin (q.elim Or.inl (fun q => Or.inr (Nat.le_trans g4 q)))) (g6 _ (Nat.not_le.mp fun q => hin (Or.inr q))) rfl rfl hd k9
theorem jw_arraylength (X : JX G p R s m meth c cc nL n0 w0 nE wE own ini) {S S' : JS} (hd : decode cc pc = .ok (.arraylength, 1)) (h : jo_len S = some S') (k : JK G p e R s m args below meth c nL n0 w0 nE wE Q (pc + 1) S') : JK G p e R s m args below meth c nL n0 w0 nE wE Q pc S := by
  obtain ⟨hx, hb, hml, hown, hG, hRc, hRs, hini⟩ := id X
  obtain ⟨L, st0, σ⟩ := S
  obtain ⟨a, t, n, st, hs, ha, ht, rfl⟩ := jo_len_i h
  have hs : st0 = _ := hs
  subst hs
  refine jk_st (fun H locs ls cells slots _ hM k9 => ?_) k
  by_cases h4 : t ≤ 104
  · obtain ⟨-, hc⟩ := jm_arr hM ha ht h4
    exact W.alen (n := Int32.ofNat n) hx hb hc ((hG.2.2.1 t ht h4).1 n _) (by rw [arrV_size] <;> rfl) rfl rfl hd k9
  · have h64 : a < 64 := by
      by_cases h : 64 ≤ a
      · rcases hM.2.2.2.1 a _ n h ha with ⟨h3, -⟩ | ⟨-, h3, -⟩ | h3 <;> omega
      · exact Nat.not_le.mp h
    rcases (hM.2.2.2.2.1 a t n h64 ha).1 with h9 | h9 | h9 | h9 | h9 | h9
    · exact absurd ht (by rw [h9]; decide)
    · exact absurd ht (by rw [h9]; decide)
    · exact absurd ht (by rw [h9]; decide)
    · obtain ⟨cell, g1, g2, g3, g4, g5, g6⟩ := jw_rowT hG hM ha h9
      exact W.alen (n := Int32.ofNat n) hx hb g1 g2 g5 rfl rfl hd k9
    · obtain ⟨cell, g1, g2, g3, g4, g5, g6⟩ := jw_rowW hG hM ha h9
      exact W.alen (n := Int32.ofNat n) hx hb g1 g2 g5 rfl rfl hd k9
    · obtain ⟨cell, g1, g2, g3, g4, g5, g6⟩ := jw_rowB hG hM ha h9
      exact W.alen (n := Int32.ofNat n) hx hb g1 g2 g5 rfl rfl hd k9
theorem jw_loc {a k : Nat} (h64 : 64 ≤ a) (hlo : ∀ q ∈ locs, jg_sz G ≤ q.base) : ∀ q ∈ locs ++ [⟨jr G a, k⟩], jg_sz G ≤ q.base := fun q hq => by
  rcases List.mem_append.mp hq with h | h
  · exact hlo q h
  · rw [List.mem_singleton.mp h]
    exact jr_ge h64
theorem jw_iastore (X : JX G p R s m meth c cc nL n0 w0 nE wE own ini) {S S' : JS} (hd : decode cc pc = .ok (.iastore, 1)) (h : jo_stI S = some S') (k : JK G p e R s m args below meth c nL n0 w0 nE wE Q (pc + 1) S') : JK G p e R s m args below meth c nL n0 w0 nE wE Q pc S := by
  obtain ⟨hx, hb, hml, hown, hG, hRc, hRs, hini⟩ := id X
  obtain ⟨L, st0, σ⟩ := S
  obtain ⟨x, i, a, n, st, hs, ha, hin, rfl⟩ := jo_stI_i h
  have hs : st0 = _ := hs
  subst hs
  refine jk_wr (σ' := jh_setI σ a i.toNatClampNeg x) rfl (fun H locs ls cells slots hM hlo k9 => ?_) k
  obtain ⟨h64, hc⟩ := jm_arr hM ha (by decide) (by decide)
  exact W.iast hx hb hc ((hG.2.2.1 100 (by decide) (by decide)).1 n _) (fun q => by cases q) (jw_in hin) rfl rfl hd (fun H1 e1 e2 e3 => k9 H1 _ (jm_ast hM rfl ha (by decide) (by decide) e1 e2 e3 (fun b j hb => ju_ne _ _ hb) (fun b j hb => rfl) (fun b j hb => rfl) (by rw [jf_0 rfl]; exact congrArg Value.int (ju_at _ _ _ _))) (jw_loc h64 hlo))
theorem jw_lastore (X : JX G p R s m meth c cc nL n0 w0 nE wE own ini) {S S' : JS} (hd : decode cc pc = .ok (.lastore, 1)) (h : jo_stJ S = some S') (k : JK G p e R s m args below meth c nL n0 w0 nE wE Q (pc + 1) S') : JK G p e R s m args below meth c nL n0 w0 nE wE Q pc S := by
  obtain ⟨hx, hb, hml, hown, hG, hRc, hRs, hini⟩ := id X
  obtain ⟨L, st0, σ⟩ := S
  obtain ⟨x, i, a, n, st, hs, ha, hin, rfl⟩ := jo_stJ_i h
  have hs : st0 = _ := hs
  subst hs
  refine jk_wr (σ' := jh_setJ σ a i.toNatClampNeg x) rfl (fun H locs ls cells slots hM hlo k9 => ?_) k
  obtain ⟨h64, hc⟩ := jm_arr hM ha (by decide) (by decide)
  exact W.last hx hb hc ((hG.2.2.1 101 (by decide) (by decide)).1 n _) (fun q => by cases q) (jw_in hin) rfl rfl hd (fun H1 e1 e2 e3 => k9 H1 _ (jm_ast hM rfl ha (by decide) (by decide) e1 e2 e3 (fun b j hb => rfl) (fun b j hb => ju_ne _ _ hb) (fun b j hb => rfl) (by rw [jf_1 rfl]; exact congrArg Value.long (ju_at _ _ _ _))) (jw_loc h64 hlo))
theorem jw_nar {t : Nat} (h : t = 102 ∨ t = 103) (x : Int32) : Value.int (vp_nar (jt_at t) x) = narrow (jt_at t) (.int x) := by
  rcases h with rfl | rfl <;> rfl
theorem jw_bastore (X : JX G p R s m meth c cc nL n0 w0 nE wE own ini) {S S' : JS} (hd : decode cc pc = .ok (.bastore, 1)) (h : jo_stB S = some S') (k : JK G p e R s m args below meth c nL n0 w0 nE wE Q (pc + 1) S') : JK G p e R s m args below meth c nL n0 w0 nE wE Q pc S := by
  obtain ⟨hx, hb, hml, hown, hG, hRc, hRs, hini⟩ := id X
  obtain ⟨L, st0, σ⟩ := S
  obtain ⟨x, i, a, t, n, st, hs, ha, ht, hin, rfl⟩ := jo_stB_i h
  have hs : st0 = _ := hs
  subst hs
  refine jk_wr (σ' := jh_setI σ a i.toNatClampNeg (vp_nar (jt_at t) x)) rfl (fun H locs ls cells slots hM hlo k9 => ?_) k
  have hnar := jw_nar ht x
  rcases ht with rfl | rfl
  · obtain ⟨h64, hc⟩ := jm_arr hM ha (by decide) (by decide)
    exact W.bast hx hb hc ((hG.2.2.1 102 (by decide) (by decide)).1 n _) (fun q => by cases q) (jw_in hin) rfl rfl hd (fun H1 e1 e2 e3 => k9 H1 _ (jm_ast hM rfl ha (by decide) (by decide) e1 e2 e3 (fun b j hb => ju_ne _ _ hb) (fun b j hb => rfl) (fun b j hb => rfl) (by rw [jf_0 rfl]; exact (congrArg (fun z => jv G (Value.int z)) (ju_at _ _ _ _)).trans hnar)) (jw_loc h64 hlo))
  · obtain ⟨h64, hc⟩ := jm_arr hM ha (by decide) (by decide)
    exact W.zast hx hb hc ((hG.2.2.1 103 (by decide) (by decide)).1 n _) (fun q => by cases q) (jw_in hin) rfl rfl hd (fun H1 e1 e2 e3 => k9 H1 _ (jm_ast hM rfl ha (by decide) (by decide) e1 e2 e3 (fun b j hb => ju_ne _ _ hb) (fun b j hb => rfl) (fun b j hb => rfl) (by rw [jf_0 rfl]; exact (congrArg (fun z => jv G (Value.int z)) (ju_at _ _ _ _)).trans hnar)) (jw_loc h64 hlo))
theorem jw_aastore (X : JX G p R s m meth c cc nL n0 w0 nE wE own ini) {S S' : JS} (hd : decode cc pc = .ok (.aastore, 1)) (h : jo_stR S = some S') (k : JK G p e R s m args below meth c nL n0 w0 nE wE Q (pc + 1) S') : JK G p e R s m args below meth c nL n0 w0 nE wE Q pc S := by
  obtain ⟨hx, hb, hml, hown, hG, hRc, hRs, hini⟩ := id X
  obtain ⟨L, st0, σ⟩ := S
  obtain ⟨x, i, a, n, st, hs, ha, hin, hv, rfl⟩ := jo_stR_i h
  have hs : st0 = _ := hs
  subst hs
  refine jk_wr (σ' := jh_setR σ a i.toNatClampNeg (some x)) rfl (fun H locs ls cells slots hM hlo k9 => ?_) k
  obtain ⟨h64, hc⟩ := jm_arr hM ha (by decide) (by decide)
  obtain ⟨-, -, cv, q1, q2, q3, -⟩ := jm_obj hM hv (by decide)
  obtain ⟨hS, hfc, kC, hkC, hkind⟩ := hG.2.1.1 3 _ (jt_cls_at (by decide))
  obtain ⟨kA, comp, g1, g2, g3, g4⟩ := (hG.2.2.1 104 (by decide) (by decide)).2
  have hcc : comp = (jg_D G).1 3 := Option.some.inj (g3.symm.trans hfc)
  refine W.aast hx hb hc (fun q h => by cases h) (fun q => by cases q) g1 g2 rfl (kcomp := kC) (by rw [hcc]; exact hkC) ⟨fun q => hin (Or.inl q), by rw [arrV_size]; exact Nat.not_le.mp fun q => hin (Or.inr q)⟩ q1 (fun q h => by rw [q3] at h; cases h) (kv := kC) (by rw [q2]; exact hkC) (by rw [q2, hcc]; exact va_assign (hG.2.1.1 3 _ (jt_cls_at (by decide))).2) rfl rfl hd (fun H1 e1 e2 e3 => k9 H1 _ (jm_ast hM rfl ha (by decide) (by decide) e1 e2 e3 (fun b j hb => rfl) (fun b j hb => rfl) (fun b j hb => ju_ne _ _ hb) (by rw [jf_2 rfl]; exact congrArg (fun z => jv G (va_rf z)) (ju_at _ _ _ _))) (jw_loc h64 hlo))
/-- a field of a constant -/
theorem jw_of {o n d : String} {ix t : Nat} {v : Value} {H : Heap} {locs : List Loc} {cells slots : Nat} {ls : Array Slot} {rest : List Value} (X : JX G p R s m meth c cc nL n0 w0 nE wE own ini) (hM : jm G σ s H) (hO : va_OF o n d v t (jt_A G) s (jg_H G)) (hl : (Cond.fieldLink (jt_own.getD own "") ix o n d).before args s = true ∨ ∃ host, (Cond.fieldLinkNest (jt_own.getD own "") ix o n d host).before args s = true) (hd : decode cc pc = .ok (.getfield ix, 3))
    (kk : W p (jg_l G) e R s m args below meth c H locs cells slots Q (F0 m (pc + 3) ls (v :: rest))) : W p (jg_l G) e R s m args below meth c H locs cells slots Q (F0 m pc ls (.ref t :: rest)) := by
  obtain ⟨hx, hb, hml, hown, hG, -⟩ := X
  obtain ⟨cf, k, i, f, cell, g1, g2, g3, g4, g5, g6⟩ := hO
  rw [← jm_old hM g6] at g3
  rcases hl with hl | ⟨host, hl⟩
  · exact W.getf hx hb hown hl g1 g2 g3 g4 g5 rfl rfl hd kk
  · exact va_Wgetf hx hb hown hl g1 g2 g3 g4 g5 rfl rfl hd kk
theorem jw_wt {a t n : Nat} (hM : jm G σ s H) (ha : σ.1[a]? = some (t, n)) (ht : t = 50 ∨ t = 51) : a < 64 ∧ jr G a = jg_sa G a := by
  have h64 : a < 64 := by
    by_cases h : 64 ≤ a
    · rcases ht with ht | ht <;> subst ht <;> rcases hM.2.2.2.1 a _ n h ha with ⟨h3, -⟩ | ⟨h3, -⟩ | h3 <;> exact absurd h3 (by decide)
    · exact Nat.not_le.mp h
  exact ⟨h64, by unfold jr; rw [if_pos h64]⟩
theorem jw_getw (X : JX G p R s m meth c cc nL n0 w0 nE wE own ini) {S S' : JS} {ix : Nat} {o : JO} (ho : jt_wl own ix = some o) (hd : decode cc pc = .ok (.getfield ix, 3)) (h : jx_op o S = some S') (k : JK G p e R s m args below meth c nL n0 w0 nE wE Q (pc + 3) S') : JK G p e R s m args below meth c nL n0 w0 nE wE Q pc S := by
  obtain ⟨hx, hb, hml, hown, hG, hRc, hRs, hini⟩ := id X
  obtain ⟨L, st0, σ⟩ := S
  have hm := jt_look ho
  simp only [jt_wls, List.mem_cons, Prod.mk.injEq, List.not_mem_nil, or_false] at hm
  rcases hm with ⟨⟨rfl, rfl⟩, rfl⟩ | ⟨⟨rfl, rfl⟩, rfl⟩ | ⟨⟨rfl, rfl⟩, rfl⟩ | ⟨⟨rfl, rfl⟩, rfl⟩ | ⟨⟨rfl, rfl⟩, rfl⟩
  · obtain ⟨a, n, st, hs, ha, rfl⟩ := jo_getJ_i (ci := 50) (k := 1) h
    have hs : st0 = _ := hs
    subst hs
    refine jk_st (fun H locs ls cells slots _ hM k9 => ?_) k
    obtain ⟨h64, hr⟩ := jw_wt hM ha (Or.inl rfl)
    show W p (jg_l G) e R s m args below meth c H locs cells slots Q (F0 m pc ls (.ref (jr G a) :: _))
    rw [hr]
    exact jw_of X hM ((hM.2.2.2.2.1 a _ n h64 ha).2.1 rfl).2.2.1 (Or.inl (jx_word hG (List.mem_of_getElem? (i := 2025) (by decide +kernel)) rfl rfl)) hd k9
  · obtain ⟨a, n, st, hs, ha, rfl⟩ := jo_getI_i (ci := 50) (k := 2) h
    have hs : st0 = _ := hs
    subst hs
    refine jk_st (fun H locs ls cells slots _ hM k9 => ?_) k
    obtain ⟨h64, hr⟩ := jw_wt hM ha (Or.inl rfl)
    show W p (jg_l G) e R s m args below meth c H locs cells slots Q (F0 m pc ls (.ref (jr G a) :: _))
    rw [hr]
    exact jw_of X hM ((hM.2.2.2.2.1 a _ n h64 ha).2.1 rfl).2.2.2 (Or.inr ⟨"CellarTurns", jx_word hG (List.mem_of_getElem? (i := 2029) (by decide +kernel)) rfl rfl⟩) hd k9
  · obtain ⟨a, n, st, hs, ha, rfl⟩ := jo_getI_i (ci := 50) (k := 0) h
    have hs : st0 = _ := hs
    subst hs
    refine jk_st (fun H locs ls cells slots _ hM k9 => ?_) k
    obtain ⟨h64, hr⟩ := jw_wt hM ha (Or.inl rfl)
    show W p (jg_l G) e R s m args below meth c H locs cells slots Q (F0 m pc ls (.ref (jr G a) :: _))
    rw [hr]
    exact jw_of X hM ((hM.2.2.2.2.1 a _ n h64 ha).2.1 rfl).2.1 (Or.inl (jx_word hG (List.mem_of_getElem? (i := 2028) (by decide +kernel)) rfl rfl)) hd k9
  · obtain ⟨a, n, st, hs, ha, rfl⟩ := jo_getI_i (ci := 51) (k := 0) h
    have hs : st0 = _ := hs
    subst hs
    refine jk_st (fun H locs ls cells slots _ hM k9 => ?_) k
    obtain ⟨h64, hr⟩ := jw_wt hM ha (Or.inr rfl)
    show W p (jg_l G) e R s m args below meth c H locs cells slots Q (F0 m pc ls (.ref (jr G a) :: _))
    rw [hr]
    exact jw_of X hM ((hM.2.2.2.2.1 a _ n h64 ha).2.2.2.2.2 rfl).2.1 (Or.inl (jx_word hG (List.mem_of_getElem? (i := 2026) (by decide +kernel)) rfl rfl)) hd k9
  · obtain ⟨a, n, st, hs, ha, rfl⟩ := jo_getR_i (ci := 51) (k := 1) h
    have hs : st0 = _ := hs
    subst hs
    refine jk_st (fun H locs ls cells slots _ hM k9 => ?_) k
    obtain ⟨h64, hr⟩ := jw_wt hM ha (Or.inr rfl)
    show W p (jg_l G) e R s m args below meth c H locs cells slots Q (F0 m pc ls (.ref (jr G a) :: _))
    rw [hr]
    exact jw_of X hM ((hM.2.2.2.2.1 a _ n h64 ha).2.2.2.2.2 rfl).2.2 (Or.inl (jx_word hG (List.mem_of_getElem? (i := 2027) (by decide +kernel)) rfl rfl)) hd k9
theorem jw_zs {C nm d : String} {ix : Nat} {v : Value} {H : Heap} {locs : List Loc} {cells slots : Nat} {ls : Array Slot} {rest : List Value} (X : JX G p R s m meth c cc nL n0 w0 nE wE own ini) (hM : jm G σ s H) (hZ : va_Z C nm d v (jt_A G) s (jg_H G)) (hl : (Cond.fieldLink (jt_own.getD own "") ix C nm d).before args s = true) (hd : decode cc pc = .ok (.getstatic ix, 3))
    (kk : W p (jg_l G) e R s m args below meth c H locs cells slots Q (F0 m (pc + 3) ls (v :: rest))) : W p (jg_l G) e R s m args below meth c H locs cells slots Q (F0 m pc ls rest) := by
  obtain ⟨hx, hb, hml, hown, hG, -⟩ := X
  obtain ⟨cf, kf, fi, f, a, cell, g1, g2, g3, g4, g5, g6, g7, g8⟩ := hZ
  rw [← jm_old hM g8] at g5
  exact W.gets hx hb hown hl g1 g2 g3 g4 g5 (fun q => by rw [q] at g6; cases g6) g7 rfl hd kk
theorem jt_gs_ok : ∀ q ∈ jt_gss.zip jt_gsx, lw_tbl[q.2]? = some (.fieldLink (jt_own.getD q.1.1.1 "") q.1.1.2 (jt_sq q.1.2).1 (jt_sq q.1.2).2.1 (jt_sq q.1.2).2.2.1) ∧ jt_sts[q.1.2]? = some (jt_sq q.1.2) ∧ (jt_sq q.1.2).2.2.2 < 64 := by decide +kernel
theorem jw_getstatic (X : JX G p R s m meth c cc nL n0 w0 nE wE own ini) {S S' : JS} {ix kk : Nat} (ho : jt_gs own ix = some kk) (hd : decode cc pc = .ok (.getstatic ix, 3)) (h : jo_stat (jt_sq kk).2.2.2 S = some S') (k : JK G p e R s m args below meth c nL n0 w0 nE wE Q (pc + 3) S') : JK G p e R s m args below meth c nL n0 w0 nE wE Q pc S := by
  obtain ⟨L, st0, σ⟩ := S
  cases h
  obtain ⟨n, hn⟩ := jt_zip (x := jt_gsx) (by decide +kernel) (jt_look ho)
  obtain ⟨h1, h2, h3⟩ := jt_gs_ok _ hn
  have hG := X.2.2.2.2.1
  refine jk_st (fun H locs ls cells slots _ hM k9 => ?_) k
  have hr : jr G (jt_sq kk).2.2.2 = jg_sa G (jt_sq kk).2.2.2 := by unfold jr; rw [if_pos h3]
  have k9 : W p (jg_l G) e R s m args below meth c H locs cells slots Q (F0 m (pc + 3) ls (.ref (jr G (jt_sq kk).2.2.2) :: st0.map (jv G))) := k9
  rw [hr] at k9
  exact jw_zs X hM (hG.2.2.2.2.1 _ (List.mem_of_getElem? h2)) (jx_word hG (List.mem_of_getElem? h1) rfl rfl) hd k9
theorem jw_getcs (X : JX G p R s m meth c cc nL n0 w0 nE wE own ini) {S S' : JS} (ho : own = 18) (hd : decode cc pc = .ok (.getstatic 38, 3)) (h : jo_ipush 1 S = some S') (k : JK G p e R s m args below meth c nL n0 w0 nE wE Q (pc + 3) S') : JK G p e R s m args below meth c nL n0 w0 nE wE Q pc S := by
  obtain ⟨L, st0, σ⟩ := S
  cases h
  subst ho
  have hG := X.2.2.2.2.1
  refine jk_st (fun H locs ls cells slots _ hM k9 => ?_) k
  exact jw_zs X hM hG.2.2.2.2.2.2.1 (jx_word hG (List.mem_of_getElem? (i := 667) (by decide +kernel)) rfl rfl) hd k9
end JW

/-! ===== an instruction of the real machine, by its step ===== -/
theorem jx_fld_get {own ix : Nat} {ini : Bool} {o : JO} (h : jx_fld own ix false ini = some o) : ∃ ci k nest, jt_fl own ix = some (ci, k, nest) ∧ ((o = (40, ci, (k : Int)) ∧ jt_k (jt_ty ci k) = 0) ∨ (o = (41, ci, (k : Int)) ∧ jt_k (jt_ty ci k) = 1) ∨ (o = (42, ci, (k : Int)) ∧ jt_k (jt_ty ci k) = 2)) := by
  unfold jx_fld at h
  cases hf : jt_fl own ix with
  | none => rw [hf] at h; cases h
  | some q =>
    obtain ⟨ci, k, nest⟩ := q
    rw [hf] at h
    refine ⟨ci, k, nest, rfl, ?_⟩
    simp only at h
    cases hty : jt_ty ci k <;> rw [hty] at h <;> simp only [Option.some.injEq, reduceCtorEq] at h <;> subst h
    all_goals first | exact Or.inl ⟨rfl, rfl⟩ | exact Or.inr (Or.inl ⟨rfl, rfl⟩) | exact Or.inr (Or.inr ⟨rfl, rfl⟩)
theorem jx_fld_put {own ix : Nat} {ini : Bool} {o : JO} (h : jx_fld own ix true ini = some o) : ∃ ci k nest, jt_fl own ix = some (ci, k, nest) ∧
    ((o = (43, ci, (k : Int)) ∧ jt_ty ci k = .int ∧ (jt_f ci k).2.2.1 = false) ∨ (o = (44, ci, (k : Int)) ∧ jt_ty ci k = .long ∧ (jt_f ci k).2.2.1 = false) ∨ (o = (45, ci, (k : Int)) ∧ (∃ C, jt_ty ci k = .object C) ∧ (jt_f ci k).2.2.1 = false) ∨
      (o = (46, ci, (k : Int)) ∧ jt_ty ci k = .boolean ∧ (jt_f ci k).2.2.1 = false) ∨ (o = (47, ci, (k : Int)) ∧ jt_ty ci k = .char ∧ (jt_f ci k).2.2.1 = false) ∨
      (o = (48, ci, (k : Int)) ∧ ((∃ C, jt_ty ci k = .object C) ∨ ∃ C, jt_ty ci k = .array C) ∧ (jt_f ci k).2.2.1 = true ∧ ini = true ∧ nest = false ∧ ci = own)) := by
  unfold jx_fld at h
  cases hf : jt_fl own ix with
  | none => rw [hf] at h; cases h
  | some q =>
    obtain ⟨ci, k, nest⟩ := q
    rw [hf] at h
    refine ⟨ci, k, nest, rfl, ?_⟩
    simp only at h
    cases hfin : (jt_f ci k).2.2.1 <;> rw [hfin] at h <;> cases hty : jt_ty ci k <;> rw [hty] at h <;> simp only [Option.some.injEq, reduceCtorEq, Option.ite_none_right_eq_some] at h
    all_goals first | (subst h; simp) | (obtain ⟨⟨h1, h2, h3⟩, h⟩ := h; subst h; simp [h1, h2, h3])
section JW
variable {G : JG} {p : Program} {e : Env} {R : Room} {s : State} {m : MethodId} {args : Array Value} {below : List Frame} {meth : Method} {c : Code} {cc : ByteArray} {n0 w0 nE wE nL own : Nat} {ini : Bool} {Q : State → Prop} {pc : Nat} {σ : JH} {H : Heap} {locs : List Loc} {cells slots : Nat} {ls : Array Slot} {rest : List Value}
theorem jf_0 {σ : JH} {a k : Nat} {t : FieldType} (h : jt_k t = 0) : jf σ a k t = .int (σ.2.1 a k) := by unfold jf; rw [h]; rfl
theorem jf_1 {σ : JH} {a k : Nat} {t : FieldType} (h : jt_k t = 1) : jf σ a k t = .long (σ.2.2.1 a k) := by unfold jf; rw [h]; rfl
theorem jf_2 {σ : JH} {a k : Nat} {t : FieldType} (h : jt_k t = 2) : jf σ a k t = va_rf (σ.2.2.2 a k) := by unfold jf; rw [h]; rfl
theorem ju_at {α : Type} (f : Nat → Nat → α) (a k : Nat) (v : α) : ju f a k v a k = v := by unfold ju; rw [if_pos ⟨rfl, rfl⟩]
theorem ju_ne {α : Type} (f : Nat → Nat → α) {a k b j : Nat} (v : α) (h : ¬ (b = a ∧ j = k)) : ju f a k v b j = f b j := by unfold ju; rw [if_neg h]
theorem jm_old {a : Nat} (hM : jm G σ s H) (h : ¬ jt_A G a) : H[a]? = (jg_H G)[a]? := hM.2.2.1 a (Nat.not_le.mp h)
/-- a row of ints, made or a constant one -/
theorem jw_rowT {a t n : Nat} (hG : JGl G s) (hM : jm G σ s H) (ha : σ.1[a]? = some (t, n)) (ht : t = 200) : ∃ cell : Cell, H[jr G a]? = some cell ∧ s.isArrayOf cell .int ∧ cell.vm ≠ .unknown ∧ n ≤ cell.slots.size ∧ cell.slots.size.toInt32 = Int32.ofNat n ∧ ∀ j : Nat, j < n → cell.slots[j]? = some (.int (σ.2.1 a j)) := by
  subst ht
  have h64 : a < 64 := by
    by_cases h : 64 ≤ a
    · rcases hM.2.2.2.1 a _ n h ha with ⟨h3, -⟩ | ⟨-, h3, -⟩ | h3 <;> omega
    · omega
  obtain ⟨cell, g1, g2, g3, g4, g5, g6, g7⟩ := (hM.2.2.2.2.1 a _ n h64 ha).2.2.1 rfl
  refine ⟨cell, ?_, g2, g3, g4, g5, g6⟩
  rw [show jr G a = jg_sa G a by unfold jr; rw [if_pos h64], jm_old hM g7]
  exact g1
theorem jw_rowW {a t n : Nat} (hG : JGl G s) (hM : jm G σ s H) (ha : σ.1[a]? = some (t, n)) (ht : t = 201) : ∃ cell : Cell, H[jr G a]? = some cell ∧ s.isArrayOf cell (.object "CellarTurns$Word") ∧ cell.vm ≠ .unknown ∧ n ≤ cell.slots.size ∧ cell.slots.size.toInt32 = Int32.ofNat n ∧ ∀ j : Nat, j < n → cell.slots[j]? = some (jv G (va_rf (σ.2.2.2 a j))) := by
  subst ht
  have h64 : a < 64 := by
    by_cases h : 64 ≤ a
    · rcases hM.2.2.2.1 a _ n h ha with ⟨h3, -⟩ | ⟨-, h3, -⟩ | h3 <;> omega
    · omega
  obtain ⟨cell, g1, g2, g3, g4, g5, g6, g7⟩ := (hM.2.2.2.2.1 a _ n h64 ha).2.2.2.1 rfl
  refine ⟨cell, ?_, g2, g3, g4, g5, g6⟩
  rw [show jr G a = jg_sa G a by unfold jr; rw [if_pos h64], jm_old hM g7]
  exact g1
theorem jw_rowB {a t n : Nat} (hG : JGl G s) (hM : jm G σ s H) (ha : σ.1[a]? = some (t, n)) (ht : t = 202) : ∃ cell : Cell, H[jr G a]? = some cell ∧ s.isArrayOf cell .byte ∧ cell.vm ≠ .unknown ∧ n ≤ cell.slots.size ∧ cell.slots.size.toInt32 = Int32.ofNat n ∧ ∀ j : Nat, j < n → cell.slots[j]? = some (.int (σ.2.1 a j)) := by
  subst ht
  have h64 : a < 64 := by
    by_cases h : 64 ≤ a
    · rcases hM.2.2.2.1 a _ n h ha with ⟨h3, -⟩ | ⟨-, h3, -⟩ | h3 <;> omega
    · omega
  obtain ⟨cell, g1, g2, g3, g4, g5, g6, g7⟩ := (hM.2.2.2.2.1 a _ n h64 ha).2.2.2.2.1 rfl
  refine ⟨cell, ?_, g2, g3, g4, g5, g6⟩
  rw [show jr G a = jg_sa G a by unfold jr; rw [if_pos h64], jm_old hM g7]
  exact g1
theorem jw_in {cA : ClassId} {n : Nat} {f : Nat → Value} {i : Int32} (h : ¬ (i < 0 ∨ n ≤ i.toNatClampNeg)) : ¬ (i < 0 ∨ (arrV cA n f).slots.size ≤ i.toNatClampNeg) := by rw [arrV_size]; exact h
theorem jw_el {cA : ClassId} {n : Nat} {f : Nat → Value} {i : Int32} (h : ¬ (i < 0 ∨ n ≤ i.toNatClampNeg)) : (arrV cA n f).slots[i.toNatClampNeg]? = some (f i.toNatClampNeg) := by
  have : i.toNatClampNeg < n := Nat.not_le.mp fun q => h (Or.inr q)
  unfold arrV
  simp [this]

theorem jw_iconst (X : JX G p R s m meth c cc nL n0 w0 nE wE own ini) {S S' : JS} {n : Int} (hd : decode cc pc = .ok ((.iconst n), jx_len (.iconst n))) (h : jx_op (0, 0, (Int32.ofInt n).toInt) S = some S') (k : JK G p e R s m args below meth c nL n0 w0 nE wE Q (pc + jx_len (.iconst n)) S') : JK G p e R s m args below meth c nL n0 w0 nE wE Q pc S := by
  obtain ⟨hx, hb, hml, hown, hG, hRc, hRs, hini⟩ := id X
  obtain ⟨L, st0, σ⟩ := S
  cases h
  exact jk_st (fun H locs ls cells slots _ _ kk => lv_iconst hx hb hd (by exact (Int32.ofInt_toInt _).symm) kk) k
theorem jw_bipush (X : JX G p R s m meth c cc nL n0 w0 nE wE own ini) {S S' : JS} {n : Int} (hd : decode cc pc = .ok ((.bipush n), jx_len (.bipush n))) (h : jx_op (0, 0, ((Int8.ofInt n).toInt32).toInt) S = some S') (k : JK G p e R s m args below meth c nL n0 w0 nE wE Q (pc + jx_len (.bipush n)) S') : JK G p e R s m args below meth c nL n0 w0 nE wE Q pc S := by
  obtain ⟨hx, hb, hml, hown, hG, hRc, hRs, hini⟩ := id X
  obtain ⟨L, st0, σ⟩ := S
  cases h
  exact jk_st (fun H locs ls cells slots _ _ kk => lv_bipush hx hb hd (by exact (Int32.ofInt_toInt _).symm) kk) k
theorem jw_sipush (X : JX G p R s m meth c cc nL n0 w0 nE wE own ini) {S S' : JS} {n : Int} (hd : decode cc pc = .ok ((.sipush n), jx_len (.sipush n))) (h : jx_op (0, 0, ((Int16.ofInt n).toInt32).toInt) S = some S') (k : JK G p e R s m args below meth c nL n0 w0 nE wE Q (pc + jx_len (.sipush n)) S') : JK G p e R s m args below meth c nL n0 w0 nE wE Q pc S := by
  obtain ⟨hx, hb, hml, hown, hG, hRc, hRs, hini⟩ := id X
  obtain ⟨L, st0, σ⟩ := S
  cases h
  exact jk_st (fun H locs ls cells slots _ _ kk => lv_sipush hx hb hd (by exact (Int32.ofInt_toInt _).symm) kk) k
theorem jw_ldcs (X : JX G p R s m meth c cc nL n0 w0 nE wE own ini) {S S' : JS} (ho : own = 9) (hd : decode cc pc = .ok (.ldc 80, 2)) (h : jx_op (64, 25, 0) S = some S') (k : JK G p e R s m args below meth c nL n0 w0 nE wE Q (pc + 2) S') : JK G p e R s m args below meth c nL n0 w0 nE wE Q pc S := by
  obtain ⟨hx, hb, hml, hown, hG, hRc, hRs, hini⟩ := id X
  obtain ⟨L, st0, σ⟩ := S
  cases h
  subst ho
  have hr : vk_R "CellarTurns$Tape" 80 "()<=+-*;" (jr G 25) s := hG.2.2.2.2.2.2.2.1 _ (List.mem_of_getElem? (i := 0) rfl)
  exact jk_st (fun H locs ls cells slots _ _ kk => va_ldcS hx hb hown hr hd kk) k
theorem jw_lconst (X : JX G p R s m meth c cc nL n0 w0 nE wE own ini) {S S' : JS} {n : Fin 2} (hd : decode cc pc = .ok ((.lconst n), jx_len (.lconst n))) (h : jx_op (1, 0, (Int64.ofNat n).toInt) S = some S') (k : JK G p e R s m args below meth c nL n0 w0 nE wE Q (pc + jx_len (.lconst n)) S') : JK G p e R s m args below meth c nL n0 w0 nE wE Q pc S := by
  obtain ⟨hx, hb, hml, hown, hG, hRc, hRs, hini⟩ := id X
  obtain ⟨L, st0, σ⟩ := S
  cases h
  exact jk_st (fun H locs ls cells slots _ _ kk => lv_lconst hx hb hd (by exact (Int64.ofInt_toInt _).symm) kk) k
theorem jw_ldc (X : JX G p R s m meth c cc nL n0 w0 nE wE own ini) {S S' : JS} {ix : Nat} {v : Int32} (hl : jt_lc own ix = some (.int v)) (hd : decode cc pc = .ok ((.ldc ix), jx_len (.ldc ix))) (h : jx_op (0, 0, v.toInt) S = some S') (k : JK G p e R s m args below meth c nL n0 w0 nE wE Q (pc + jx_len (.ldc ix)) S') : JK G p e R s m args below meth c nL n0 w0 nE wE Q pc S := by
  obtain ⟨hx, hb, hml, hown, hG, hRc, hRs, hini⟩ := id X
  obtain ⟨L, st0, σ⟩ := S
  cases h
  have hc : (Cond.constant (jt_own.getD own "") ix v).before args s = true := jx_word hG (jt_lc_at hl) rfl rfl
  refine jk_st (fun H locs ls cells slots _ _ kk => lv_ldc hx hb hown hc hd ?_) k
  have e9 : Int32.ofInt v.toInt = v := Int32.ofInt_toInt _
  rw [e9] at kk
  exact kk
theorem jw_ldc_w (X : JX G p R s m meth c cc nL n0 w0 nE wE own ini) {S S' : JS} {ix : Nat} {v : Int32} (hl : jt_lc own ix = some (.int v)) (hd : decode cc pc = .ok ((.ldc_w ix), jx_len (.ldc_w ix))) (h : jx_op (0, 0, v.toInt) S = some S') (k : JK G p e R s m args below meth c nL n0 w0 nE wE Q (pc + jx_len (.ldc_w ix)) S') : JK G p e R s m args below meth c nL n0 w0 nE wE Q pc S := by
  obtain ⟨hx, hb, hml, hown, hG, hRc, hRs, hini⟩ := id X
  obtain ⟨L, st0, σ⟩ := S
  cases h
  have hc : (Cond.constant (jt_own.getD own "") ix v).before args s = true := jx_word hG (jt_lc_at hl) rfl rfl
  refine jk_st (fun H locs ls cells slots _ _ kk => lv_ldcw hx hb hown hc hd ?_) k
  have e9 : Int32.ofInt v.toInt = v := Int32.ofInt_toInt _
  rw [e9] at kk
  exact kk
theorem jw_ldc2 (X : JX G p R s m meth c cc nL n0 w0 nE wE own ini) {S S' : JS} {ix : Nat} {v : Int64} (hl : jt_lc own ix = some (.long v)) (hd : decode cc pc = .ok ((.ldc2_w ix), jx_len (.ldc2_w ix))) (h : jx_op (1, 0, v.toInt) S = some S') (k : JK G p e R s m args below meth c nL n0 w0 nE wE Q (pc + jx_len (.ldc2_w ix)) S') : JK G p e R s m args below meth c nL n0 w0 nE wE Q pc S := by
  obtain ⟨hx, hb, hml, hown, hG, hRc, hRs, hini⟩ := id X
  obtain ⟨L, st0, σ⟩ := S
  cases h
  have hc : (Cond.constantLong (jt_own.getD own "") ix v).before args s = true := jx_word hG (jt_lc_at hl) rfl rfl
  refine jk_st (fun H locs ls cells slots _ _ kk => lv_ldc2 hx hb hown hc hd ?_) k
  have e9 : Int64.ofInt v.toInt = v := Int64.ofInt_toInt _
  rw [e9] at kk
  exact kk
theorem jw_iload (X : JX G p R s m meth c cc nL n0 w0 nE wE own ini) {S S' : JS} {i : Nat} (hd : decode cc pc = .ok ((.iload i), jx_len (.iload i))) (h : jx_op (2, i, 0) S = some S') (k : JK G p e R s m args below meth c nL n0 w0 nE wE Q (pc + jx_len (.iload i)) S') : JK G p e R s m args below meth c nL n0 w0 nE wE Q pc S := by
  obtain ⟨hx, hb, hml, hown, hG, hRc, hRs, hini⟩ := id X
  obtain ⟨L, st0, σ⟩ := S
  obtain ⟨x, h1, rfl⟩ := jo_iload_i (i := i) h
  exact jk_st (fun H locs ls cells slots hl _ kk => lv_iload hx hb hd (jl_at hl h1) kk) k
theorem jw_iload_n (X : JX G p R s m meth c cc nL n0 w0 nE wE own ini) {S S' : JS} {i : Fin 4} (hd : decode cc pc = .ok ((.iload_n i), jx_len (.iload_n i))) (h : jx_op (2, (i : Nat), 0) S = some S') (k : JK G p e R s m args below meth c nL n0 w0 nE wE Q (pc + jx_len (.iload_n i)) S') : JK G p e R s m args below meth c nL n0 w0 nE wE Q pc S := by
  obtain ⟨hx, hb, hml, hown, hG, hRc, hRs, hini⟩ := id X
  obtain ⟨L, st0, σ⟩ := S
  obtain ⟨x, h1, rfl⟩ := jo_iload_i (i := (i : Nat)) h
  exact jk_st (fun H locs ls cells slots hl _ kk => lv_iload_n hx hb hd rfl (jl_at hl h1) kk) k
theorem jw_lload (X : JX G p R s m meth c cc nL n0 w0 nE wE own ini) {S S' : JS} {i : Nat} (hd : decode cc pc = .ok ((.lload i), jx_len (.lload i))) (h : jx_op (3, i, 0) S = some S') (k : JK G p e R s m args below meth c nL n0 w0 nE wE Q (pc + jx_len (.lload i)) S') : JK G p e R s m args below meth c nL n0 w0 nE wE Q pc S := by
  obtain ⟨hx, hb, hml, hown, hG, hRc, hRs, hini⟩ := id X
  obtain ⟨L, st0, σ⟩ := S
  obtain ⟨x, h1, rfl⟩ := jo_lload_i (i := i) h
  exact jk_st (fun H locs ls cells slots hl _ kk => lv_lload hx hb hd (jl_at hl h1) kk) k
theorem jw_lload_n (X : JX G p R s m meth c cc nL n0 w0 nE wE own ini) {S S' : JS} {i : Fin 4} (hd : decode cc pc = .ok ((.lload_n i), jx_len (.lload_n i))) (h : jx_op (3, (i : Nat), 0) S = some S') (k : JK G p e R s m args below meth c nL n0 w0 nE wE Q (pc + jx_len (.lload_n i)) S') : JK G p e R s m args below meth c nL n0 w0 nE wE Q pc S := by
  obtain ⟨hx, hb, hml, hown, hG, hRc, hRs, hini⟩ := id X
  obtain ⟨L, st0, σ⟩ := S
  obtain ⟨x, h1, rfl⟩ := jo_lload_i (i := (i : Nat)) h
  exact jk_st (fun H locs ls cells slots hl _ kk => lv_lload_n hx hb hd rfl (jl_at hl h1) kk) k
theorem jw_aload (X : JX G p R s m meth c cc nL n0 w0 nE wE own ini) {S S' : JS} {i : Nat} (hd : decode cc pc = .ok ((.aload i), jx_len (.aload i))) (h : jx_op (4, i, 0) S = some S') (k : JK G p e R s m args below meth c nL n0 w0 nE wE Q (pc + jx_len (.aload i)) S') : JK G p e R s m args below meth c nL n0 w0 nE wE Q pc S := by
  obtain ⟨hx, hb, hml, hown, hG, hRc, hRs, hini⟩ := id X
  obtain ⟨L, st0, σ⟩ := S
  obtain ⟨x, h1, rfl⟩ := jo_aload_i (i := i) h
  exact jk_st (fun H locs ls cells slots hl _ kk => lv_aload hx hb hd (jl_at hl h1) kk) k
theorem jw_aload_n (X : JX G p R s m meth c cc nL n0 w0 nE wE own ini) {S S' : JS} {i : Fin 4} (hd : decode cc pc = .ok ((.aload_n i), jx_len (.aload_n i))) (h : jx_op (4, (i : Nat), 0) S = some S') (k : JK G p e R s m args below meth c nL n0 w0 nE wE Q (pc + jx_len (.aload_n i)) S') : JK G p e R s m args below meth c nL n0 w0 nE wE Q pc S := by
  obtain ⟨hx, hb, hml, hown, hG, hRc, hRs, hini⟩ := id X
  obtain ⟨L, st0, σ⟩ := S
  obtain ⟨x, h1, rfl⟩ := jo_aload_i (i := (i : Nat)) h
  exact jk_st (fun H locs ls cells slots hl _ kk => lv_aload_n hx hb hd rfl (jl_at hl h1) kk) k
theorem jw_istore (X : JX G p R s m meth c cc nL n0 w0 nE wE own ini) {S S' : JS} {i : Nat} (hd : decode cc pc = .ok ((.istore i), jx_len (.istore i))) (h : jx_op (5, i, 0) S = some S') (k : JK G p e R s m args below meth c nL n0 w0 nE wE Q (pc + jx_len (.istore i)) S') : JK G p e R s m args below meth c nL n0 w0 nE wE Q pc S := by
  obtain ⟨hx, hb, hml, hown, hG, hRc, hRs, hini⟩ := id X
  obtain ⟨L, st0, σ⟩ := S
  obtain ⟨x, st, hs, hi, rfl⟩ := jo_istore_i (i := i) h
  have hs : st0 = _ := hs
  subst hs
  exact jk_lo (fun H locs ls cells slots hl kk => lv_istore hx hb hd (jl_has hl) (hl.2.2.1 ▸ hi) rfl (fun ls' h9 => kk ls' (jl_set_ok hl.2.2.1 h9))) k
theorem jw_istore_n (X : JX G p R s m meth c cc nL n0 w0 nE wE own ini) {S S' : JS} {i : Fin 4} (hd : decode cc pc = .ok ((.istore_n i), jx_len (.istore_n i))) (h : jx_op (5, (i : Nat), 0) S = some S') (k : JK G p e R s m args below meth c nL n0 w0 nE wE Q (pc + jx_len (.istore_n i)) S') : JK G p e R s m args below meth c nL n0 w0 nE wE Q pc S := by
  obtain ⟨hx, hb, hml, hown, hG, hRc, hRs, hini⟩ := id X
  obtain ⟨L, st0, σ⟩ := S
  obtain ⟨x, st, hs, hi, rfl⟩ := jo_istore_i (i := (i : Nat)) h
  have hs : st0 = _ := hs
  subst hs
  exact jk_lo (fun H locs ls cells slots hl kk => lv_istore_n hx hb hd rfl (jl_has hl) (hl.2.2.1 ▸ hi) rfl (fun ls' h9 => kk ls' (jl_set_ok hl.2.2.1 h9))) k
theorem jw_lstore (X : JX G p R s m meth c cc nL n0 w0 nE wE own ini) {S S' : JS} {i : Nat} (hd : decode cc pc = .ok ((.lstore i), jx_len (.lstore i))) (h : jx_op (6, i, 0) S = some S') (k : JK G p e R s m args below meth c nL n0 w0 nE wE Q (pc + jx_len (.lstore i)) S') : JK G p e R s m args below meth c nL n0 w0 nE wE Q pc S := by
  obtain ⟨hx, hb, hml, hown, hG, hRc, hRs, hini⟩ := id X
  obtain ⟨L, st0, σ⟩ := S
  obtain ⟨x, st, hs, hi, rfl⟩ := jo_lstore_i (i := i) h
  have hs : st0 = _ := hs
  subst hs
  exact jk_lo (fun H locs ls cells slots hl kk => lv_lstore hx hb hd (jl_has hl) (hl.2.2.1 ▸ hi) rfl (fun ls' h9 => kk ls' (jl_set2_ok hl.2.2.1 h9))) k
theorem jw_lstore_n (X : JX G p R s m meth c cc nL n0 w0 nE wE own ini) {S S' : JS} {i : Fin 4} (hd : decode cc pc = .ok ((.lstore_n i), jx_len (.lstore_n i))) (h : jx_op (6, (i : Nat), 0) S = some S') (k : JK G p e R s m args below meth c nL n0 w0 nE wE Q (pc + jx_len (.lstore_n i)) S') : JK G p e R s m args below meth c nL n0 w0 nE wE Q pc S := by
  obtain ⟨hx, hb, hml, hown, hG, hRc, hRs, hini⟩ := id X
  obtain ⟨L, st0, σ⟩ := S
  obtain ⟨x, st, hs, hi, rfl⟩ := jo_lstore_i (i := (i : Nat)) h
  have hs : st0 = _ := hs
  subst hs
  exact jk_lo (fun H locs ls cells slots hl kk => lv_lstore_n hx hb hd rfl (jl_has hl) (hl.2.2.1 ▸ hi) rfl (fun ls' h9 => kk ls' (jl_set2_ok hl.2.2.1 h9))) k
theorem jw_astore (X : JX G p R s m meth c cc nL n0 w0 nE wE own ini) {S S' : JS} {i : Nat} (hd : decode cc pc = .ok ((.astore i), jx_len (.astore i))) (h : jx_op (7, i, 0) S = some S') (k : JK G p e R s m args below meth c nL n0 w0 nE wE Q (pc + jx_len (.astore i)) S') : JK G p e R s m args below meth c nL n0 w0 nE wE Q pc S := by
  obtain ⟨hx, hb, hml, hown, hG, hRc, hRs, hini⟩ := id X
  obtain ⟨L, st0, σ⟩ := S
  obtain ⟨x, st, hs, hi, rfl⟩ := jo_astore_i (i := i) h
  have hs : st0 = _ := hs
  subst hs
  exact jk_lo (fun H locs ls cells slots hl kk => lv_astore hx hb hd (jl_has hl) (hl.2.2.1 ▸ hi) rfl (fun ls' h9 => kk ls' (jl_set_ok hl.2.2.1 h9))) k
theorem jw_astore_n (X : JX G p R s m meth c cc nL n0 w0 nE wE own ini) {S S' : JS} {i : Fin 4} (hd : decode cc pc = .ok ((.astore_n i), jx_len (.astore_n i))) (h : jx_op (7, (i : Nat), 0) S = some S') (k : JK G p e R s m args below meth c nL n0 w0 nE wE Q (pc + jx_len (.astore_n i)) S') : JK G p e R s m args below meth c nL n0 w0 nE wE Q pc S := by
  obtain ⟨hx, hb, hml, hown, hG, hRc, hRs, hini⟩ := id X
  obtain ⟨L, st0, σ⟩ := S
  obtain ⟨x, st, hs, hi, rfl⟩ := jo_astore_i (i := (i : Nat)) h
  have hs : st0 = _ := hs
  subst hs
  exact jk_lo (fun H locs ls cells slots hl kk => lv_astore_n hx hb hd rfl (jl_has hl) (hl.2.2.1 ▸ hi) rfl (fun ls' h9 => kk ls' (jl_set_ok hl.2.2.1 h9))) k
theorem jw_iinc (X : JX G p R s m meth c cc nL n0 w0 nE wE own ini) {S S' : JS} {i : Nat} {n : Int} (hd : decode cc pc = .ok ((.iinc i n), jx_len (.iinc i n))) (h : jx_op (8, i, n) S = some S') (k : JK G p e R s m args below meth c nL n0 w0 nE wE Q (pc + jx_len (.iinc i n)) S') : JK G p e R s m args below meth c nL n0 w0 nE wE Q pc S := by
  obtain ⟨hx, hb, hml, hown, hG, hRc, hRs, hini⟩ := id X
  obtain ⟨L, st0, σ⟩ := S
  obtain ⟨x, h1, rfl⟩ := jo_iinc_i (i := i) (n := n) h
  obtain ⟨q, hq⟩ := List.getElem?_of_mem (jl_mem (G := G) (q := (i, .int x)).mpr ⟨.int x, h1, rfl⟩)
  exact jk_lo (fun H locs ls cells slots hl kk => lv_iinc hx hb hd (jl_has hl) hq rfl (hl.2.2.1 ▸ (List.getElem?_eq_some_iff.mp h1).1) rfl (fun ls' h9 => kk ls' (jl_set_ok hl.2.2.1 h9))) k
theorem jw_iadd (X : JX G p R s m meth c cc nL n0 w0 nE wE own ini) {S S' : JS}  (hd : decode cc pc = .ok (.iadd, jx_len .iadd)) (h : jx_op (10, 0, 0) S = some S') (k : JK G p e R s m args below meth c nL n0 w0 nE wE Q (pc + jx_len .iadd) S') : JK G p e R s m args below meth c nL n0 w0 nE wE Q pc S := by
  obtain ⟨hx, hb, hml, hown, hG, hRc, hRs, hini⟩ := id X
  obtain ⟨L, st0, σ⟩ := S
  obtain ⟨x, y, st, hs, rfl⟩ := jo_ii_i (f := fun x y => x + y) h
  have hs : st0 = _ := hs
  subst hs
  exact jk_st (fun H locs ls cells slots _ _ kk => lv_iadd hx hb hd kk) k
theorem jw_isub (X : JX G p R s m meth c cc nL n0 w0 nE wE own ini) {S S' : JS}  (hd : decode cc pc = .ok (.isub, jx_len .isub)) (h : jx_op (11, 0, 0) S = some S') (k : JK G p e R s m args below meth c nL n0 w0 nE wE Q (pc + jx_len .isub) S') : JK G p e R s m args below meth c nL n0 w0 nE wE Q pc S := by
  obtain ⟨hx, hb, hml, hown, hG, hRc, hRs, hini⟩ := id X
  obtain ⟨L, st0, σ⟩ := S
  obtain ⟨x, y, st, hs, rfl⟩ := jo_ii_i (f := fun x y => x - y) h
  have hs : st0 = _ := hs
  subst hs
  exact jk_st (fun H locs ls cells slots _ _ kk => lv_isub hx hb hd kk) k
theorem jw_imul (X : JX G p R s m meth c cc nL n0 w0 nE wE own ini) {S S' : JS}  (hd : decode cc pc = .ok (.imul, jx_len .imul)) (h : jx_op (12, 0, 0) S = some S') (k : JK G p e R s m args below meth c nL n0 w0 nE wE Q (pc + jx_len .imul) S') : JK G p e R s m args below meth c nL n0 w0 nE wE Q pc S := by
  obtain ⟨hx, hb, hml, hown, hG, hRc, hRs, hini⟩ := id X
  obtain ⟨L, st0, σ⟩ := S
  obtain ⟨x, y, st, hs, rfl⟩ := jo_ii_i (f := fun x y => x * y) h
  have hs : st0 = _ := hs
  subst hs
  exact jk_st (fun H locs ls cells slots _ _ kk => lv_imul hx hb hd kk) k
theorem jw_iand (X : JX G p R s m meth c cc nL n0 w0 nE wE own ini) {S S' : JS}  (hd : decode cc pc = .ok (.iand, jx_len .iand)) (h : jx_op (16, 0, 0) S = some S') (k : JK G p e R s m args below meth c nL n0 w0 nE wE Q (pc + jx_len .iand) S') : JK G p e R s m args below meth c nL n0 w0 nE wE Q pc S := by
  obtain ⟨hx, hb, hml, hown, hG, hRc, hRs, hini⟩ := id X
  obtain ⟨L, st0, σ⟩ := S
  obtain ⟨x, y, st, hs, rfl⟩ := jo_ii_i (f := fun x y => x &&& y) h
  have hs : st0 = _ := hs
  subst hs
  exact jk_st (fun H locs ls cells slots _ _ kk => lv_iand hx hb hd kk) k
theorem jw_ior (X : JX G p R s m meth c cc nL n0 w0 nE wE own ini) {S S' : JS}  (hd : decode cc pc = .ok (.ior, jx_len .ior)) (h : jx_op (17, 0, 0) S = some S') (k : JK G p e R s m args below meth c nL n0 w0 nE wE Q (pc + jx_len .ior) S') : JK G p e R s m args below meth c nL n0 w0 nE wE Q pc S := by
  obtain ⟨hx, hb, hml, hown, hG, hRc, hRs, hini⟩ := id X
  obtain ⟨L, st0, σ⟩ := S
  obtain ⟨x, y, st, hs, rfl⟩ := jo_ii_i (f := fun x y => x ||| y) h
  have hs : st0 = _ := hs
  subst hs
  exact jk_st (fun H locs ls cells slots _ _ kk => lv_ior hx hb hd kk) k
theorem jw_ixor (X : JX G p R s m meth c cc nL n0 w0 nE wE own ini) {S S' : JS}  (hd : decode cc pc = .ok (.ixor, jx_len .ixor)) (h : jx_op (18, 0, 0) S = some S') (k : JK G p e R s m args below meth c nL n0 w0 nE wE Q (pc + jx_len .ixor) S') : JK G p e R s m args below meth c nL n0 w0 nE wE Q pc S := by
  obtain ⟨hx, hb, hml, hown, hG, hRc, hRs, hini⟩ := id X
  obtain ⟨L, st0, σ⟩ := S
  obtain ⟨x, y, st, hs, rfl⟩ := jo_ii_i (f := fun x y => x ^^^ y) h
  have hs : st0 = _ := hs
  subst hs
  exact jk_st (fun H locs ls cells slots _ _ kk => lv_ixor hx hb hd kk) k
theorem jw_ishl (X : JX G p R s m meth c cc nL n0 w0 nE wE own ini) {S S' : JS}  (hd : decode cc pc = .ok (.ishl, jx_len .ishl)) (h : jx_op (19, 0, 0) S = some S') (k : JK G p e R s m args below meth c nL n0 w0 nE wE Q (pc + jx_len .ishl) S') : JK G p e R s m args below meth c nL n0 w0 nE wE Q pc S := by
  obtain ⟨hx, hb, hml, hown, hG, hRc, hRs, hini⟩ := id X
  obtain ⟨L, st0, σ⟩ := S
  obtain ⟨x, y, st, hs, rfl⟩ := jo_ii_i (f := fun x y => x <<< (y &&& 31)) h
  have hs : st0 = _ := hs
  subst hs
  exact jk_st (fun H locs ls cells slots _ _ kk => lv_ishl hx hb hd kk) k
theorem jw_ishr (X : JX G p R s m meth c cc nL n0 w0 nE wE own ini) {S S' : JS}  (hd : decode cc pc = .ok (.ishr, jx_len .ishr)) (h : jx_op (20, 0, 0) S = some S') (k : JK G p e R s m args below meth c nL n0 w0 nE wE Q (pc + jx_len .ishr) S') : JK G p e R s m args below meth c nL n0 w0 nE wE Q pc S := by
  obtain ⟨hx, hb, hml, hown, hG, hRc, hRs, hini⟩ := id X
  obtain ⟨L, st0, σ⟩ := S
  obtain ⟨x, y, st, hs, rfl⟩ := jo_ii_i (f := fun x y => x >>> (y &&& 31)) h
  have hs : st0 = _ := hs
  subst hs
  exact jk_st (fun H locs ls cells slots _ _ kk => lv_ishr hx hb hd kk) k
theorem jw_iushr (X : JX G p R s m meth c cc nL n0 w0 nE wE own ini) {S S' : JS}  (hd : decode cc pc = .ok (.iushr, jx_len .iushr)) (h : jx_op (21, 0, 0) S = some S') (k : JK G p e R s m args below meth c nL n0 w0 nE wE Q (pc + jx_len .iushr) S') : JK G p e R s m args below meth c nL n0 w0 nE wE Q pc S := by
  obtain ⟨hx, hb, hml, hown, hG, hRc, hRs, hini⟩ := id X
  obtain ⟨L, st0, σ⟩ := S
  obtain ⟨x, y, st, hs, rfl⟩ := jo_ii_i (f := fun x y => (x.toUInt32 >>> (y.toUInt32 &&& Int32.toUInt32 31)).toInt32) h
  have hs : st0 = _ := hs
  subst hs
  exact jk_st (fun H locs ls cells slots _ _ kk => lv_iushr hx hb hd rfl kk) k
theorem jw_idiv (X : JX G p R s m meth c cc nL n0 w0 nE wE own ini) {S S' : JS}  (hd : decode cc pc = .ok (.idiv, jx_len .idiv)) (h : jx_op (13, 0, 0) S = some S') (k : JK G p e R s m args below meth c nL n0 w0 nE wE Q (pc + jx_len .idiv) S') : JK G p e R s m args below meth c nL n0 w0 nE wE Q pc S := by
  obtain ⟨hx, hb, hml, hown, hG, hRc, hRs, hini⟩ := id X
  obtain ⟨L, st0, σ⟩ := S
  obtain ⟨x, y, st, hs, hy, rfl⟩ := jo_id_i (f := fun x y => x / y) h
  have hs : st0 = _ := hs
  subst hs
  exact jk_st (fun H locs ls cells slots _ _ kk => lv_idiv hx hb hd hy kk) k
theorem jw_irem (X : JX G p R s m meth c cc nL n0 w0 nE wE own ini) {S S' : JS}  (hd : decode cc pc = .ok (.irem, jx_len .irem)) (h : jx_op (14, 0, 0) S = some S') (k : JK G p e R s m args below meth c nL n0 w0 nE wE Q (pc + jx_len .irem) S') : JK G p e R s m args below meth c nL n0 w0 nE wE Q pc S := by
  obtain ⟨hx, hb, hml, hown, hG, hRc, hRs, hini⟩ := id X
  obtain ⟨L, st0, σ⟩ := S
  obtain ⟨x, y, st, hs, hy, rfl⟩ := jo_id_i (f := fun x y => x - x / y * y) h
  have hs : st0 = _ := hs
  subst hs
  exact jk_st (fun H locs ls cells slots _ _ kk => lv_irem hx hb hd hy kk) k
theorem jw_ineg (X : JX G p R s m meth c cc nL n0 w0 nE wE own ini) {S S' : JS}  (hd : decode cc pc = .ok (.ineg, jx_len .ineg)) (h : jx_op (15, 0, 0) S = some S') (k : JK G p e R s m args below meth c nL n0 w0 nE wE Q (pc + jx_len .ineg) S') : JK G p e R s m args below meth c nL n0 w0 nE wE Q pc S := by
  obtain ⟨hx, hb, hml, hown, hG, hRc, hRs, hini⟩ := id X
  obtain ⟨L, st0, σ⟩ := S
  obtain ⟨x, st, hs, rfl⟩ := jo_i_i (f := fun x => -x) h
  have hs : st0 = _ := hs
  subst hs
  exact jk_st (fun H locs ls cells slots _ _ kk => lv_ineg hx hb hd kk) k
theorem jw_ladd (X : JX G p R s m meth c cc nL n0 w0 nE wE own ini) {S S' : JS}  (hd : decode cc pc = .ok (.ladd, jx_len .ladd)) (h : jx_op (22, 0, 0) S = some S') (k : JK G p e R s m args below meth c nL n0 w0 nE wE Q (pc + jx_len .ladd) S') : JK G p e R s m args below meth c nL n0 w0 nE wE Q pc S := by
  obtain ⟨hx, hb, hml, hown, hG, hRc, hRs, hini⟩ := id X
  obtain ⟨L, st0, σ⟩ := S
  obtain ⟨x, y, st, hs, rfl⟩ := jo_ll_i (f := fun x y => x + y) h
  have hs : st0 = _ := hs
  subst hs
  exact jk_st (fun H locs ls cells slots _ _ kk => lv_ladd hx hb hd kk) k
theorem jw_lsub (X : JX G p R s m meth c cc nL n0 w0 nE wE own ini) {S S' : JS}  (hd : decode cc pc = .ok (.lsub, jx_len .lsub)) (h : jx_op (23, 0, 0) S = some S') (k : JK G p e R s m args below meth c nL n0 w0 nE wE Q (pc + jx_len .lsub) S') : JK G p e R s m args below meth c nL n0 w0 nE wE Q pc S := by
  obtain ⟨hx, hb, hml, hown, hG, hRc, hRs, hini⟩ := id X
  obtain ⟨L, st0, σ⟩ := S
  obtain ⟨x, y, st, hs, rfl⟩ := jo_ll_i (f := fun x y => x - y) h
  have hs : st0 = _ := hs
  subst hs
  exact jk_st (fun H locs ls cells slots _ _ kk => lv_lsub hx hb hd kk) k
theorem jw_lmul (X : JX G p R s m meth c cc nL n0 w0 nE wE own ini) {S S' : JS}  (hd : decode cc pc = .ok (.lmul, jx_len .lmul)) (h : jx_op (24, 0, 0) S = some S') (k : JK G p e R s m args below meth c nL n0 w0 nE wE Q (pc + jx_len .lmul) S') : JK G p e R s m args below meth c nL n0 w0 nE wE Q pc S := by
  obtain ⟨hx, hb, hml, hown, hG, hRc, hRs, hini⟩ := id X
  obtain ⟨L, st0, σ⟩ := S
  obtain ⟨x, y, st, hs, rfl⟩ := jo_ll_i (f := fun x y => x * y) h
  have hs : st0 = _ := hs
  subst hs
  exact jk_st (fun H locs ls cells slots _ _ kk => lv_lmul hx hb hd kk) k
theorem jw_land (X : JX G p R s m meth c cc nL n0 w0 nE wE own ini) {S S' : JS}  (hd : decode cc pc = .ok (.land, jx_len .land)) (h : jx_op (27, 0, 0) S = some S') (k : JK G p e R s m args below meth c nL n0 w0 nE wE Q (pc + jx_len .land) S') : JK G p e R s m args below meth c nL n0 w0 nE wE Q pc S := by
  obtain ⟨hx, hb, hml, hown, hG, hRc, hRs, hini⟩ := id X
  obtain ⟨L, st0, σ⟩ := S
  obtain ⟨x, y, st, hs, rfl⟩ := jo_ll_i (f := fun x y => x &&& y) h
  have hs : st0 = _ := hs
  subst hs
  exact jk_st (fun H locs ls cells slots _ _ kk => lv_land hx hb hd kk) k
theorem jw_lor (X : JX G p R s m meth c cc nL n0 w0 nE wE own ini) {S S' : JS}  (hd : decode cc pc = .ok (.lor, jx_len .lor)) (h : jx_op (28, 0, 0) S = some S') (k : JK G p e R s m args below meth c nL n0 w0 nE wE Q (pc + jx_len .lor) S') : JK G p e R s m args below meth c nL n0 w0 nE wE Q pc S := by
  obtain ⟨hx, hb, hml, hown, hG, hRc, hRs, hini⟩ := id X
  obtain ⟨L, st0, σ⟩ := S
  obtain ⟨x, y, st, hs, rfl⟩ := jo_ll_i (f := fun x y => x ||| y) h
  have hs : st0 = _ := hs
  subst hs
  exact jk_st (fun H locs ls cells slots _ _ kk => lv_lor hx hb hd kk) k
theorem jw_lxor (X : JX G p R s m meth c cc nL n0 w0 nE wE own ini) {S S' : JS}  (hd : decode cc pc = .ok (.lxor, jx_len .lxor)) (h : jx_op (29, 0, 0) S = some S') (k : JK G p e R s m args below meth c nL n0 w0 nE wE Q (pc + jx_len .lxor) S') : JK G p e R s m args below meth c nL n0 w0 nE wE Q pc S := by
  obtain ⟨hx, hb, hml, hown, hG, hRc, hRs, hini⟩ := id X
  obtain ⟨L, st0, σ⟩ := S
  obtain ⟨x, y, st, hs, rfl⟩ := jo_ll_i (f := fun x y => x ^^^ y) h
  have hs : st0 = _ := hs
  subst hs
  exact jk_st (fun H locs ls cells slots _ _ kk => lv_lxor hx hb hd kk) k
theorem jw_ldiv (X : JX G p R s m meth c cc nL n0 w0 nE wE own ini) {S S' : JS}  (hd : decode cc pc = .ok (.ldiv, jx_len .ldiv)) (h : jx_op (25, 0, 0) S = some S') (k : JK G p e R s m args below meth c nL n0 w0 nE wE Q (pc + jx_len .ldiv) S') : JK G p e R s m args below meth c nL n0 w0 nE wE Q pc S := by
  obtain ⟨hx, hb, hml, hown, hG, hRc, hRs, hini⟩ := id X
  obtain ⟨L, st0, σ⟩ := S
  obtain ⟨x, y, st, hs, hy, rfl⟩ := jo_lq_i (f := fun x y => x / y) h
  have hs : st0 = _ := hs
  subst hs
  exact jk_st (fun H locs ls cells slots _ _ kk => lv_ldiv hx hb hd hy kk) k
theorem jw_lrem (X : JX G p R s m meth c cc nL n0 w0 nE wE own ini) {S S' : JS}  (hd : decode cc pc = .ok (.lrem, jx_len .lrem)) (h : jx_op (26, 0, 0) S = some S') (k : JK G p e R s m args below meth c nL n0 w0 nE wE Q (pc + jx_len .lrem) S') : JK G p e R s m args below meth c nL n0 w0 nE wE Q pc S := by
  obtain ⟨hx, hb, hml, hown, hG, hRc, hRs, hini⟩ := id X
  obtain ⟨L, st0, σ⟩ := S
  obtain ⟨x, y, st, hs, hy, rfl⟩ := jo_lq_i (f := fun x y => x - x / y * y) h
  have hs : st0 = _ := hs
  subst hs
  exact jk_st (fun H locs ls cells slots _ _ kk => lv_lrem hx hb hd hy kk) k
theorem jw_lshl (X : JX G p R s m meth c cc nL n0 w0 nE wE own ini) {S S' : JS}  (hd : decode cc pc = .ok (.lshl, jx_len .lshl)) (h : jx_op (30, 0, 0) S = some S') (k : JK G p e R s m args below meth c nL n0 w0 nE wE Q (pc + jx_len .lshl) S') : JK G p e R s m args below meth c nL n0 w0 nE wE Q pc S := by
  obtain ⟨hx, hb, hml, hown, hG, hRc, hRs, hini⟩ := id X
  obtain ⟨L, st0, σ⟩ := S
  obtain ⟨x, y, st, hs, rfl⟩ := jo_li_i (f := fun x y => x <<< (y.toInt64 &&& 63)) h
  have hs : st0 = _ := hs
  subst hs
  exact jk_st (fun H locs ls cells slots _ _ kk => lv_lshl hx hb hd rfl kk) k
theorem jw_lshr (X : JX G p R s m meth c cc nL n0 w0 nE wE own ini) {S S' : JS}  (hd : decode cc pc = .ok (.lshr, jx_len .lshr)) (h : jx_op (31, 0, 0) S = some S') (k : JK G p e R s m args below meth c nL n0 w0 nE wE Q (pc + jx_len .lshr) S') : JK G p e R s m args below meth c nL n0 w0 nE wE Q pc S := by
  obtain ⟨hx, hb, hml, hown, hG, hRc, hRs, hini⟩ := id X
  obtain ⟨L, st0, σ⟩ := S
  obtain ⟨x, y, st, hs, rfl⟩ := jo_li_i (f := fun x y => x >>> (y.toInt64 &&& 63)) h
  have hs : st0 = _ := hs
  subst hs
  exact jk_st (fun H locs ls cells slots _ _ kk => lv_lshr hx hb hd rfl kk) k
theorem jw_lushr (X : JX G p R s m meth c cc nL n0 w0 nE wE own ini) {S S' : JS}  (hd : decode cc pc = .ok (.lushr, jx_len .lushr)) (h : jx_op (32, 0, 0) S = some S') (k : JK G p e R s m args below meth c nL n0 w0 nE wE Q (pc + jx_len .lushr) S') : JK G p e R s m args below meth c nL n0 w0 nE wE Q pc S := by
  obtain ⟨hx, hb, hml, hown, hG, hRc, hRs, hini⟩ := id X
  obtain ⟨L, st0, σ⟩ := S
  obtain ⟨x, y, st, hs, rfl⟩ := jo_li_i (f := fun x y => (x.toUInt64 >>> (y.toInt64.toUInt64 &&& Int64.toUInt64 63)).toInt64) h
  have hs : st0 = _ := hs
  subst hs
  exact jk_st (fun H locs ls cells slots _ _ kk => lv_lushr hx hb hd rfl kk) k
theorem jw_lcmp (X : JX G p R s m meth c cc nL n0 w0 nE wE own ini) {S S' : JS}  (hd : decode cc pc = .ok (.lcmp, jx_len .lcmp)) (h : jx_op (33, 0, 0) S = some S') (k : JK G p e R s m args below meth c nL n0 w0 nE wE Q (pc + jx_len .lcmp) S') : JK G p e R s m args below meth c nL n0 w0 nE wE Q pc S := by
  obtain ⟨hx, hb, hml, hown, hG, hRc, hRs, hini⟩ := id X
  obtain ⟨L, st0, σ⟩ := S
  obtain ⟨x, y, st, hs, rfl⟩ := jo_lcmp_i h
  have hs : st0 = _ := hs
  subst hs
  exact jk_st (fun H locs ls cells slots _ _ kk => W.lcmp hx hb hd kk) k
theorem jw_i2l (X : JX G p R s m meth c cc nL n0 w0 nE wE own ini) {S S' : JS}  (hd : decode cc pc = .ok (.i2l, jx_len .i2l)) (h : jx_op (34, 0, 0) S = some S') (k : JK G p e R s m args below meth c nL n0 w0 nE wE Q (pc + jx_len .i2l) S') : JK G p e R s m args below meth c nL n0 w0 nE wE Q pc S := by
  obtain ⟨hx, hb, hml, hown, hG, hRc, hRs, hini⟩ := id X
  obtain ⟨L, st0, σ⟩ := S
  obtain ⟨x, st, hs, rfl⟩ := jo_i2l_i h
  have hs : st0 = _ := hs
  subst hs
  exact jk_st (fun H locs ls cells slots _ _ kk => lv_i2l hx hb hd rfl kk) k
theorem jw_l2i (X : JX G p R s m meth c cc nL n0 w0 nE wE own ini) {S S' : JS}  (hd : decode cc pc = .ok (.l2i, jx_len .l2i)) (h : jx_op (35, 0, 0) S = some S') (k : JK G p e R s m args below meth c nL n0 w0 nE wE Q (pc + jx_len .l2i) S') : JK G p e R s m args below meth c nL n0 w0 nE wE Q pc S := by
  obtain ⟨hx, hb, hml, hown, hG, hRc, hRs, hini⟩ := id X
  obtain ⟨L, st0, σ⟩ := S
  obtain ⟨x, st, hs, rfl⟩ := jo_l2i_i h
  have hs : st0 = _ := hs
  subst hs
  exact jk_st (fun H locs ls cells slots _ _ kk => lv_l2i hx hb hd rfl kk) k
theorem jw_i2b (X : JX G p R s m meth c cc nL n0 w0 nE wE own ini) {S S' : JS}  (hd : decode cc pc = .ok (.i2b, jx_len .i2b)) (h : jx_op (36, 0, 0) S = some S') (k : JK G p e R s m args below meth c nL n0 w0 nE wE Q (pc + jx_len .i2b) S') : JK G p e R s m args below meth c nL n0 w0 nE wE Q pc S := by
  obtain ⟨hx, hb, hml, hown, hG, hRc, hRs, hini⟩ := id X
  obtain ⟨L, st0, σ⟩ := S
  obtain ⟨x, st, hs, rfl⟩ := jo_i_i (f := fun x => x.toInt8.toInt32) h
  have hs : st0 = _ := hs
  subst hs
  exact jk_st (fun H locs ls cells slots _ _ kk => lv_i2b hx hb hd rfl kk) k
theorem jw_i2c (X : JX G p R s m meth c cc nL n0 w0 nE wE own ini) {S S' : JS}  (hd : decode cc pc = .ok (.i2c, jx_len .i2c)) (h : jx_op (37, 0, 0) S = some S') (k : JK G p e R s m args below meth c nL n0 w0 nE wE Q (pc + jx_len .i2c) S') : JK G p e R s m args below meth c nL n0 w0 nE wE Q pc S := by
  obtain ⟨hx, hb, hml, hown, hG, hRc, hRs, hini⟩ := id X
  obtain ⟨L, st0, σ⟩ := S
  obtain ⟨x, st, hs, rfl⟩ := jo_i_i (f := fun x => (x.toUInt32 % 65536).toInt32) h
  have hs : st0 = _ := hs
  subst hs
  exact jk_st (fun H locs ls cells slots _ _ kk => lv_i2c hx hb hd rfl kk) k
theorem jw_dup (X : JX G p R s m meth c cc nL n0 w0 nE wE own ini) {S S' : JS}  (hd : decode cc pc = .ok (.dup, jx_len .dup)) (h : jx_op (70, 0, 0) S = some S') (k : JK G p e R s m args below meth c nL n0 w0 nE wE Q (pc + jx_len .dup) S') : JK G p e R s m args below meth c nL n0 w0 nE wE Q pc S := by
  obtain ⟨hx, hb, hml, hown, hG, hRc, hRs, hini⟩ := id X
  obtain ⟨L, st0, σ⟩ := S
  obtain ⟨v, st, hs, hc, rfl⟩ := jo_dup_i h
  have hs : st0 = _ := hs
  subst hs
  exact jk_st (fun H locs ls cells slots _ _ kk => lv_dup hx hb hd (by rw [jv_cat]; exact hc) kk) k
theorem jw_pop (X : JX G p R s m meth c cc nL n0 w0 nE wE own ini) {S S' : JS}  (hd : decode cc pc = .ok (.pop, jx_len .pop)) (h : jx_op (71, 0, 0) S = some S') (k : JK G p e R s m args below meth c nL n0 w0 nE wE Q (pc + jx_len .pop) S') : JK G p e R s m args below meth c nL n0 w0 nE wE Q pc S := by
  obtain ⟨hx, hb, hml, hown, hG, hRc, hRs, hini⟩ := id X
  obtain ⟨L, st0, σ⟩ := S
  obtain ⟨v, st, hs, hc, rfl⟩ := jo_pop_i h
  have hs : st0 = _ := hs
  subst hs
  exact jk_st (fun H locs ls cells slots _ _ kk => lv_pop hx hb hd (by rw [jv_cat]; exact hc) kk) k
theorem jw_dup2 (X : JX G p R s m meth c cc nL n0 w0 nE wE own ini) {S S' : JS}  (hd : decode cc pc = .ok (.dup2, jx_len .dup2)) (h : jx_op (72, 0, 0) S = some S') (k : JK G p e R s m args below meth c nL n0 w0 nE wE Q (pc + jx_len .dup2) S') : JK G p e R s m args below meth c nL n0 w0 nE wE Q pc S := by
  obtain ⟨hx, hb, hml, hown, hG, hRc, hRs, hini⟩ := id X
  obtain ⟨L, st0, σ⟩ := S
  obtain ⟨v, w, st, hs, hc, hc2, rfl⟩ := jo_dup2_i h
  have hs : st0 = _ := hs
  subst hs
  exact jk_st (fun H locs ls cells slots _ _ kk => lv_dup2_11 hx hb hd (by rw [jv_cat]; exact hc) (by rw [jv_cat]; exact hc2) kk) k
theorem jw_dup_x1 (X : JX G p R s m meth c cc nL n0 w0 nE wE own ini) {S S' : JS}  (hd : decode cc pc = .ok (.dup_x1, jx_len .dup_x1)) (h : jx_op (73, 0, 0) S = some S') (k : JK G p e R s m args below meth c nL n0 w0 nE wE Q (pc + jx_len .dup_x1) S') : JK G p e R s m args below meth c nL n0 w0 nE wE Q pc S := by
  obtain ⟨hx, hb, hml, hown, hG, hRc, hRs, hini⟩ := id X
  obtain ⟨L, st0, σ⟩ := S
  obtain ⟨v, w, st, hs, hc, hc2, rfl⟩ := jo_dupx1_i h
  have hs : st0 = _ := hs
  subst hs
  exact jk_st (fun H locs ls cells slots _ _ kk => lv_dup_x1 hx hb hd (by rw [jv_cat]; exact hc) (by rw [jv_cat]; exact hc2) kk) k
end JW

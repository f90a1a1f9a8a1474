/-! ===== each step of the small machine is one of the real one ===== -/
section JW
variable {G : JG} {p : Program} {e : Env} {R : Room} {s : State} {m : MethodId} {args : Array Value} {below : List Frame} {meth : Method} {c : Code} {cc : ByteArray} {n0 w0 nE wE nL own : Nat} {ini : Bool} {Q : State → Prop} {pc : Nat} {L : JL} {st : List Value} {σ : JH}
theorem jw_ipush {i : Instr} {n : Int} {len : Nat} (hW : ∀ (H : Heap) (locs : List Loc) (ls : Array Slot) (cells slots : Nat) (rest : List Value), W p (jg_l G) e R s m args below meth c H locs cells slots Q (F0 m (pc + len) ls (.int (Int32.ofInt n) :: rest)) → W p (jg_l G) e R s m args below meth c H locs cells slots Q (F0 m pc ls rest))
    (k : JK G p e R s m args below meth c nL n0 w0 nE wE Q (pc + len) (L, .int (Int32.ofInt n) :: st, σ)) : JK G p e R s m args below meth c nL n0 w0 nE wE Q pc (L, st, σ) :=
  jk_st (fun H locs ls cells slots _ _ kk => hW H locs ls cells slots _ kk) k
theorem jw_lpush {n : Int} {len : Nat} (hW : ∀ (H : Heap) (locs : List Loc) (ls : Array Slot) (cells slots : Nat) (rest : List Value), W p (jg_l G) e R s m args below meth c H locs cells slots Q (F0 m (pc + len) ls (.long (Int64.ofInt n) :: rest)) → W p (jg_l G) e R s m args below meth c H locs cells slots Q (F0 m pc ls rest))
    (k : JK G p e R s m args below meth c nL n0 w0 nE wE Q (pc + len) (L, .long (Int64.ofInt n) :: st, σ)) : JK G p e R s m args below meth c nL n0 w0 nE wE Q pc (L, st, σ) :=
  jk_st (fun H locs ls cells slots _ _ kk => hW H locs ls cells slots _ kk) k
theorem jo_iload_i {i : Nat} {S S' : JS} (h : jo_iload i S = some S') : ∃ x, S.1[i]? = some (some (.int x)) ∧ S' = (S.1, .int x :: S.2.1, S.2.2) := by
  unfold jo_iload at h
  split at h
  · rename_i x hx; cases h; exact ⟨x, hx, rfl⟩
  · cases h
theorem jo_lload_i {i : Nat} {S S' : JS} (h : jo_lload i S = some S') : ∃ x, S.1[i]? = some (some (.long x)) ∧ S' = (S.1, .long x :: S.2.1, S.2.2) := by
  unfold jo_lload at h
  split at h
  · rename_i x hx; cases h; exact ⟨x, hx, rfl⟩
  · cases h
theorem jo_aload_i {i : Nat} {S S' : JS} (h : jo_aload i S = some S') : ∃ x, S.1[i]? = some (some (.ref x)) ∧ S' = (S.1, .ref x :: S.2.1, S.2.2) := by
  unfold jo_aload at h
  split at h
  · rename_i x hx; cases h; exact ⟨x, hx, rfl⟩
  · cases h
theorem jo_istore_i {i : Nat} {S S' : JS} (h : jo_istore i S = some S') : ∃ x st, S.2.1 = .int x :: st ∧ i < S.1.length ∧ S' = (jl_set S.1 i (.int x), st, S.2.2) := by
  unfold jo_istore at h
  split at h
  · rename_i x st hx
    split at h
    · rename_i hi; cases h; exact ⟨x, st, hx, hi, rfl⟩
    · cases h
  · cases h
theorem jo_astore_i {i : Nat} {S S' : JS} (h : jo_astore i S = some S') : ∃ x st, S.2.1 = .ref x :: st ∧ i < S.1.length ∧ S' = (jl_set S.1 i (.ref x), st, S.2.2) := by
  unfold jo_astore at h
  split at h
  · rename_i x st hx
    split at h
    · rename_i hi; cases h; exact ⟨x, st, hx, hi, rfl⟩
    · cases h
  · cases h
theorem jo_lstore_i {i : Nat} {S S' : JS} (h : jo_lstore i S = some S') : ∃ x st, S.2.1 = .long x :: st ∧ i + 1 < S.1.length ∧ S' = (jl_set2 S.1 i (.long x), st, S.2.2) := by
  unfold jo_lstore at h
  split at h
  · rename_i x st hx
    split at h
    · rename_i hi; cases h; exact ⟨x, st, hx, hi, rfl⟩
    · cases h
  · cases h
theorem jo_iinc_i {i : Nat} {n : Int} {S S' : JS} (h : jo_iinc i n S = some S') : ∃ x, S.1[i]? = some (some (.int x)) ∧ S' = (jl_set S.1 i (.int (x + Int32.ofInt n)), S.2.1, S.2.2) := by
  unfold jo_iinc at h
  split at h
  · rename_i x hx; cases h; exact ⟨x, hx, rfl⟩
  · cases h
theorem jo_ii_i {f : Int32 → Int32 → Int32} {S S' : JS} (h : jo_ii f S = some S') : ∃ x y st, S.2.1 = .int y :: .int x :: st ∧ S' = (S.1, .int (f x y) :: st, S.2.2) := by
  unfold jo_ii at h
  split at h
  · rename_i y x st hx; cases h; exact ⟨x, y, st, hx, rfl⟩
  · cases h
theorem jo_id_i {f : Int32 → Int32 → Int32} {S S' : JS} (h : jo_id f S = some S') : ∃ x y st, S.2.1 = .int y :: .int x :: st ∧ ¬ y = 0 ∧ S' = (S.1, .int (f x y) :: st, S.2.2) := by
  unfold jo_id at h
  split at h
  · rename_i y x st hx
    split at h
    · cases h
    · rename_i hy; cases h; exact ⟨x, y, st, hx, hy, rfl⟩
  · cases h
theorem jo_ll_i {f : Int64 → Int64 → Int64} {S S' : JS} (h : jo_ll f S = some S') : ∃ x y st, S.2.1 = .long y :: .long x :: st ∧ S' = (S.1, .long (f x y) :: st, S.2.2) := by
  unfold jo_ll at h
  split at h
  · rename_i y x st hx; cases h; exact ⟨x, y, st, hx, rfl⟩
  · cases h
theorem jo_lq_i {f : Int64 → Int64 → Int64} {S S' : JS} (h : jo_lq f S = some S') : ∃ x y st, S.2.1 = .long y :: .long x :: st ∧ ¬ y = 0 ∧ S' = (S.1, .long (f x y) :: st, S.2.2) := by
  unfold jo_lq at h
  split at h
  · rename_i y x st hx
    split at h
    · cases h
    · rename_i hy; cases h; exact ⟨x, y, st, hx, hy, rfl⟩
  · cases h
theorem jo_li_i {f : Int64 → Int32 → Int64} {S S' : JS} (h : jo_li f S = some S') : ∃ x y st, S.2.1 = .int y :: .long x :: st ∧ S' = (S.1, .long (f x y) :: st, S.2.2) := by
  unfold jo_li at h
  split at h
  · rename_i y x st hx; cases h; exact ⟨x, y, st, hx, rfl⟩
  · cases h
theorem jo_i_i {f : Int32 → Int32} {S S' : JS} (h : jo_i f S = some S') : ∃ x st, S.2.1 = .int x :: st ∧ S' = (S.1, .int (f x) :: st, S.2.2) := by
  unfold jo_i at h
  split at h
  · rename_i x st hx; cases h; exact ⟨x, st, hx, rfl⟩
  · cases h
theorem jo_i2l_i {S S' : JS} (h : jo_i2l S = some S') : ∃ x st, S.2.1 = .int x :: st ∧ S' = (S.1, .long x.toInt64 :: st, S.2.2) := by
  unfold jo_i2l at h
  split at h
  · rename_i x st hx; cases h; exact ⟨x, st, hx, rfl⟩
  · cases h
theorem jo_l2i_i {S S' : JS} (h : jo_l2i S = some S') : ∃ x st, S.2.1 = .long x :: st ∧ S' = (S.1, .int x.toInt32 :: st, S.2.2) := by
  unfold jo_l2i at h
  split at h
  · rename_i x st hx; cases h; exact ⟨x, st, hx, rfl⟩
  · cases h
theorem jo_lcmp_i {S S' : JS} (h : jo_lcmp S = some S') : ∃ x y st, S.2.1 = .long y :: .long x :: st ∧ S' = (S.1, .int (lg_cmp x y) :: st, S.2.2) := by
  unfold jo_lcmp at h
  split at h
  · rename_i y x st hx; cases h; exact ⟨x, y, st, hx, rfl⟩
  · cases h
theorem jo_dup_i {S S' : JS} (h : jo_dup S = some S') : ∃ v st, S.2.1 = v :: st ∧ v.category = 1 ∧ S' = (S.1, v :: v :: st, S.2.2) := by
  unfold jo_dup at h
  split at h
  · rename_i v st hx
    split at h
    · rename_i hc; cases h; exact ⟨v, st, hx, hc, rfl⟩
    · cases h
  · cases h
theorem jo_pop_i {S S' : JS} (h : jo_pop S = some S') : ∃ v st, S.2.1 = v :: st ∧ v.category = 1 ∧ S' = (S.1, st, S.2.2) := by
  unfold jo_pop at h
  split at h
  · rename_i v st hx
    split at h
    · rename_i hc; cases h; exact ⟨v, st, hx, hc, rfl⟩
    · cases h
  · cases h
theorem jo_dup2_i {S S' : JS} (h : jo_dup2 S = some S') : ∃ v w st, S.2.1 = v :: w :: st ∧ v.category = 1 ∧ w.category = 1 ∧ S' = (S.1, v :: w :: v :: w :: st, S.2.2) := by
  unfold jo_dup2 at h
  split at h
  · rename_i v w st hx
    split at h
    · rename_i hc; cases h; exact ⟨v, w, st, hx, hc.1, hc.2, rfl⟩
    · cases h
  · cases h
theorem jo_dupx1_i {S S' : JS} (h : jo_dupx1 S = some S') : ∃ v w st, S.2.1 = v :: w :: st ∧ v.category = 1 ∧ w.category = 1 ∧ S' = (S.1, v :: w :: v :: st, S.2.2) := by
  unfold jo_dupx1 at h
  split at h
  · rename_i v w st hx
    split at h
    · rename_i hc; cases h; exact ⟨v, w, st, hx, hc.1, hc.2, rfl⟩
    · cases h
  · cases h
theorem jo_getI_i {ci k : Nat} {S S' : JS} (h : jo_getI ci k S = some S') : ∃ a n st, S.2.1 = .ref a :: st ∧ S.2.2.1[a]? = some (ci, n) ∧ S' = (S.1, .int (S.2.2.2.1 a k) :: st, S.2.2) := by
  unfold jo_getI at h
  split at h
  · rename_i a st hx
    split at h
    · rename_i t n ht
      split at h
      · rename_i hc; cases h; subst hc; exact ⟨a, n, st, hx, ht, rfl⟩
      · cases h
    · cases h
  · cases h
theorem jo_getJ_i {ci k : Nat} {S S' : JS} (h : jo_getJ ci k S = some S') : ∃ a n st, S.2.1 = .ref a :: st ∧ S.2.2.1[a]? = some (ci, n) ∧ S' = (S.1, .long (S.2.2.2.2.1 a k) :: st, S.2.2) := by
  unfold jo_getJ at h
  split at h
  · rename_i a st hx
    split at h
    · rename_i t n ht
      split at h
      · rename_i hc; cases h; subst hc; exact ⟨a, n, st, hx, ht, rfl⟩
      · cases h
    · cases h
  · cases h
theorem jo_getR_i {ci k : Nat} {S S' : JS} (h : jo_getR ci k S = some S') : ∃ a n st, S.2.1 = .ref a :: st ∧ S.2.2.1[a]? = some (ci, n) ∧ S' = (S.1, va_rf (S.2.2.2.2.2 a k) :: st, S.2.2) := by
  unfold jo_getR at h
  split at h
  · rename_i a st hx
    split at h
    · rename_i t n ht
      split at h
      · rename_i hc; cases h; subst hc; exact ⟨a, n, st, hx, ht, rfl⟩
      · cases h
    · cases h
  · cases h
theorem jo_putI_i {ci k : Nat} {ty : FieldType} {S S' : JS} (h : jo_putI ci k ty S = some S') : ∃ x a n st, S.2.1 = .int x :: .ref a :: st ∧ S.2.2.1[a]? = some (ci, n) ∧ narrow ty (.int x) = .int x ∧ fits ty (.int x) = true ∧ S' = (S.1, st, jh_setI S.2.2 a k x) := by
  unfold jo_putI at h
  split at h
  · rename_i x a st hx
    split at h
    · rename_i t n ht
      split at h
      · rename_i hc; cases h; obtain ⟨hc, h1, h2⟩ := hc; subst hc; exact ⟨x, a, n, st, hx, ht, h1, h2, rfl⟩
      · cases h
    · cases h
  · cases h
theorem jo_putJ_i {ci k : Nat} {S S' : JS} (h : jo_putJ ci k S = some S') : ∃ x a n st, S.2.1 = .long x :: .ref a :: st ∧ S.2.2.1[a]? = some (ci, n) ∧ S' = (S.1, st, jh_setJ S.2.2 a k x) := by
  unfold jo_putJ at h
  split at h
  · rename_i x a st hx
    split at h
    · rename_i t n ht
      split at h
      · rename_i hc; cases h; subst hc; exact ⟨x, a, n, st, hx, ht, rfl⟩
      · cases h
    · cases h
  · cases h
theorem jo_putR_i {ci k : Nat} {S S' : JS} (h : jo_putR ci k S = some S') : ∃ x a n st, S.2.1 = .ref x :: .ref a :: st ∧ S.2.2.1[a]? = some (ci, n) ∧ S' = (S.1, st, jh_setR S.2.2 a k (some x)) := by
  unfold jo_putR at h
  split at h
  · rename_i x a st hx
    split at h
    · rename_i t n ht
      split at h
      · rename_i hc; cases h; subst hc; exact ⟨x, a, n, st, hx, ht, rfl⟩
      · cases h
    · cases h
  · cases h
theorem jo_ldI_i {ks : List Nat} {S S' : JS} (h : jo_ldI ks S = some S') : ∃ i a t n st, S.2.1 = .int i :: .ref a :: st ∧ S.2.2.1[a]? = some (t, n) ∧ t ∈ ks ∧ ¬ (i < 0 ∨ n ≤ i.toNatClampNeg) ∧ S' = (S.1, .int (S.2.2.2.1 a i.toNatClampNeg) :: st, S.2.2) := by
  unfold jo_ldI at h
  split at h
  · rename_i i a st hx
    split at h
    · rename_i t n ht
      split at h
      · rename_i hc; cases h; exact ⟨i, a, t, n, st, hx, ht, hc.1, hc.2, rfl⟩
      · cases h
    · cases h
  · cases h
theorem jo_ldJ_i {S S' : JS} (h : jo_ldJ S = some S') : ∃ i a n st, S.2.1 = .int i :: .ref a :: st ∧ S.2.2.1[a]? = some (101, n) ∧ ¬ (i < 0 ∨ n ≤ i.toNatClampNeg) ∧ S' = (S.1, .long (S.2.2.2.2.1 a i.toNatClampNeg) :: st, S.2.2) := by
  unfold jo_ldJ at h
  split at h
  · rename_i i a st hx
    split at h
    · rename_i t n ht
      split at h
      · rename_i hc; cases h; obtain ⟨h1, h2⟩ := hc; subst h1; exact ⟨i, a, n, st, hx, ht, h2, rfl⟩
      · cases h
    · cases h
  · cases h
theorem jo_ldR_i {S S' : JS} (h : jo_ldR S = some S') : ∃ i a t n st, S.2.1 = .int i :: .ref a :: st ∧ S.2.2.1[a]? = some (t, n) ∧ (t = 104 ∨ t = 201) ∧ ¬ (i < 0 ∨ n ≤ i.toNatClampNeg) ∧ S' = (S.1, va_rf (S.2.2.2.2.2 a i.toNatClampNeg) :: st, S.2.2) := by
  unfold jo_ldR at h
  split at h
  · rename_i i a st hx
    split at h
    · rename_i t n ht
      split at h
      · rename_i hc; cases h; exact ⟨i, a, t, n, st, hx, ht, hc.1, hc.2, rfl⟩
      · cases h
    · cases h
  · cases h
theorem jo_stI_i {S S' : JS} (h : jo_stI S = some S') : ∃ x i a n st, S.2.1 = .int x :: .int i :: .ref a :: st ∧ S.2.2.1[a]? = some (100, n) ∧ ¬ (i < 0 ∨ n ≤ i.toNatClampNeg) ∧ S' = (S.1, st, jh_setI S.2.2 a i.toNatClampNeg x) := by
  unfold jo_stI at h
  split at h
  · rename_i x i a st hx
    split at h
    · rename_i t n ht
      split at h
      · rename_i hc; cases h; obtain ⟨h1, h2⟩ := hc; subst h1; exact ⟨x, i, a, n, st, hx, ht, h2, rfl⟩
      · cases h
    · cases h
  · cases h
theorem jo_stB_i {S S' : JS} (h : jo_stB S = some S') : ∃ x i a t n st, S.2.1 = .int x :: .int i :: .ref a :: st ∧ S.2.2.1[a]? = some (t, n) ∧ (t = 102 ∨ t = 103) ∧ ¬ (i < 0 ∨ n ≤ i.toNatClampNeg) ∧ S' = (S.1, st, jh_setI S.2.2 a i.toNatClampNeg (vp_nar (jt_at t) x)) := by
  unfold jo_stB at h
  split at h
  · rename_i x i a st hx
    split at h
    · rename_i t n ht
      split at h
      · rename_i hc; cases h; exact ⟨x, i, a, t, n, st, hx, ht, hc.1, hc.2, rfl⟩
      · cases h
    · cases h
  · cases h
theorem jo_stJ_i {S S' : JS} (h : jo_stJ S = some S') : ∃ x i a n st, S.2.1 = .long x :: .int i :: .ref a :: st ∧ S.2.2.1[a]? = some (101, n) ∧ ¬ (i < 0 ∨ n ≤ i.toNatClampNeg) ∧ S' = (S.1, st, jh_setJ S.2.2 a i.toNatClampNeg x) := by
  unfold jo_stJ at h
  split at h
  · rename_i x i a st hx
    split at h
    · rename_i t n ht
      split at h
      · rename_i hc; cases h; obtain ⟨h1, h2⟩ := hc; subst h1; exact ⟨x, i, a, n, st, hx, ht, h2, rfl⟩
      · cases h
    · cases h
  · cases h
theorem jo_stR_i {S S' : JS} (h : jo_stR S = some S') : ∃ x i a n st, S.2.1 = .ref x :: .int i :: .ref a :: st ∧ S.2.2.1[a]? = some (104, n) ∧ ¬ (i < 0 ∨ n ≤ i.toNatClampNeg) ∧ S.2.2.1[x]? = some (3, 12) ∧ S' = (S.1, st, jh_setR S.2.2 a i.toNatClampNeg (some x)) := by
  unfold jo_stR at h
  split at h
  · rename_i x i a st hx
    split at h
    · rename_i t n ht
      split at h
      · rename_i hc; cases h; obtain ⟨h1, h2, h3⟩ := hc; subst h1; exact ⟨x, i, a, n, st, hx, ht, h2, h3, rfl⟩
      · cases h
    · cases h
  · cases h
theorem jo_len_i {S S' : JS} (h : jo_len S = some S') : ∃ a t n st, S.2.1 = .ref a :: st ∧ S.2.2.1[a]? = some (t, n) ∧ 100 ≤ t ∧ S' = (S.1, .int (Int32.ofNat n) :: st, S.2.2) := by
  unfold jo_len at h
  split at h
  · rename_i a st hx
    split at h
    · rename_i t n ht
      split at h
      · rename_i hc; cases h; exact ⟨a, t, n, st, hx, ht, hc, rfl⟩
      · cases h
    · cases h
  · cases h
theorem jo_newa_i {t : Nat} {S S' : JS} (h : jo_newa t S = some S') : ∃ n st, S.2.1 = .int n :: st ∧ ¬ n < 0 ∧ n.toNatClampNeg ≤ 5000 ∧ jh_clean S.2.2 = true ∧ S' = (S.1, .ref S.2.2.1.length :: st, jh_new S.2.2 t n.toNatClampNeg) := by
  unfold jo_newa at h
  split at h
  · rename_i n st hx
    split at h
    · cases h
    · rename_i hc; cases h; exact ⟨n, st, hx, fun q => hc (Or.inl q), Nat.not_lt.mp fun q => hc (Or.inr (Or.inl q)), by cases hq : jh_clean S.2.2 with | true => rfl | false => exact absurd (Or.inr (Or.inr hq)) hc, rfl⟩
  · cases h
theorem jo_new_i {ci : Nat} {S S' : JS} (h : jo_new ci S = some S') : jh_clean S.2.2 = true ∧ S' = (S.1, .ref S.2.2.1.length :: S.2.1, jh_new S.2.2 ci (jt_N ci)) := by
  unfold jo_new at h
  split at h
  · rename_i hc; cases h; exact ⟨hc, rfl⟩
  · cases h
end JW

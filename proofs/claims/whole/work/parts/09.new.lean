/-! ===== new cells; a step's law ===== -/
theorem jt_def : ∀ ci, ci < 12 → ∀ k, k < jt_N ci → defaultValue (jt_ty ci k) = (match jt_k (jt_ty ci k) with | 0 => Value.int 0 | 1 => Value.long 0 | _ => Value.null) := by decide +kernel
theorem jt_arrs : ∀ t ∈ [FieldType.int, FieldType.long, FieldType.byte, FieldType.boolean], Cond.arrayClass t ∈ lw_tbl := by decide +kernel
section JW
variable {G : JG} {p : Program} {e : Env} {R : Room} {s : State} {m : MethodId} {args : Array Value} {below : List Frame} {meth : Method} {c : Code} {cc : ByteArray} {n0 w0 nE wE nL own : Nat} {ini : Bool} {Q : State → Prop} {pc : Nat} {σ : JH} {H : Heap} {locs : List Loc} {cells slots : Nat} {ls : Array Slot} {rest : List Value}
theorem jh_new_n (σ : JH) (t n : Nat) : jh_n (jh_new σ t n) = jh_n σ + 1 := by unfold jh_n jh_new; simp
theorem jh_new_w (σ : JH) (t n : Nat) : jh_w (jh_new σ t n) = jh_w σ + n := by unfold jh_w jh_new; simp
theorem jf_new {σ : JH} {t n j : Nat} {ty : FieldType} : jf (jh_new σ t n) (jh_n σ) j ty = (match jt_k ty with | 0 => Value.int 0 | 1 => Value.long 0 | _ => Value.null) := by
  unfold jf jh_new jh_n
  simp only [if_pos]
  rfl
theorem jk_new {pc pc' : Nat} {L : JL} {st st' : List Value} {σ : JH} {t n : Nat} (hcl : jh_clean σ = true) (X : JX G p R s m meth c cc nL n0 w0 nE wE own ini)
    (h : ∀ (H : Heap) (locs : List Loc) (ls : Array Slot) (cells slots : Nat), jm G σ s H → cells + 1 ≤ R.cells → slots + n ≤ R.slots → (∀ (H' : Heap), jm G (jh_new σ t n) s H' → W p (jg_l G) e R s m args below meth c H' locs (cells + 1) (slots + n) Q (F0 m pc' ls (.ref H.size :: st'.map (jv G)))) → W p (jg_l G) e R s m args below meth c H locs cells slots Q (F0 m pc ls (st.map (jv G))))
    (k : JK G p e R s m args below meth c nL n0 w0 nE wE Q pc' (L, .ref σ.1.length :: st', jh_new σ t n)) : JK G p e R s m args below meth c nL n0 w0 nE wE Q pc (L, st, σ) := by
  obtain ⟨k1, k2, k3⟩ := k
  have e1 := jh_new_n σ t n
  have e2 := jh_new_w σ t n
  simp only [e1, e2] at k1 k2 k3
  refine ⟨by show jh_n σ ≤ nE; omega, by show jh_w σ ≤ wE; omega, fun H locs ls h1 h2 h3 h4 h5 => ?_⟩
  have h1' : n0 ≤ jh_n σ := h1
  have h2' : w0 ≤ jh_w σ := h2
  refine h H locs ls _ _ h3 (by rw [X.2.2.2.2.2.1]; show jh_n σ - n0 + 1 ≤ _; omega) (by rw [X.2.2.2.2.2.2.1]; show jh_w σ - w0 + n ≤ _; omega) fun H' hM => ?_
  have h9 := k3 H' locs ls (by omega) (by omega) hM h4 h5
  rw [show jh_n σ + 1 - n0 = jh_n σ - n0 + 1 by omega, show jh_w σ + n - w0 = jh_w σ - w0 + n by omega] at h9
  have h10 : jv G (.ref σ.1.length) = .ref H.size := congrArg Value.ref (jr_new hcl h3)
  rw [List.map_cons, h10] at h9
  exact h9
theorem jw_new (X : JX G p R s m meth c cc nL n0 w0 nE wE own ini) {S S' : JS} {ix ci : Nat} (hl : jt_nw own ix = some ci) (hd : decode cc pc = .ok (.new ix, 3)) (h : jo_new ci S = some S') (k : JK G p e R s m args below meth c nL n0 w0 nE wE Q (pc + 3) S') : JK G p e R s m args below meth c nL n0 w0 nE wE Q pc S := by
  obtain ⟨hx, hb, hml, hown, hG, hRc, hRs, hini⟩ := id X
  obtain ⟨L, st0, σ⟩ := S
  obtain ⟨hcl, rfl⟩ := jo_new_i h
  obtain ⟨hw, hci⟩ := jt_nw_at hl
  have hin := (jt_ix_ok ci hci)
  refine jk_new hcl X (fun H locs ls cells slots hM hc hs kk => ?_) k
  have hKn := hG.2.1.1 ci _ (jt_cls_at hci)
  refine W.newcK hx hb hown (jx_word hG hw rfl rfl) (jx_word hG (List.mem_of_getElem? hin.1) rfl rfl) (jx_word hG (List.mem_of_getElem? hin.2) rfl rfl) rfl hd hc hs hKn.2.1 rfl fun H' kC hkC e1 e2 e3 => ?_
  refine kk H' (jm_new hcl hM e2 e3 (Or.inl ⟨hci, rfl, ?_⟩))
  have h1 := u_born (args := #[]) (jt_ty ci) (jx_lays hG hci) (fun _ h => h) hKn hkC e1 (jt_ty_ok ci hci)
  rw [jr_new hcl hM]
  exact h1.to (fun k hk => by rw [jf_new, jt_def ci hci k hk]; cases jt_ty ci k <;> rfl)
theorem jw_newarray (X : JX G p R s m meth c cc nL n0 w0 nE wE own ini) {S S' : JS} {t : Nat} {aty : ArrayType} (ht : (aty = .int ∧ t = 100) ∨ (aty = .long ∧ t = 101) ∨ (aty = .byte ∧ t = 102) ∨ (aty = .boolean ∧ t = 103)) (hd : decode cc pc = .ok (.newarray aty, 2)) (h : jo_newa t S = some S') (k : JK G p e R s m args below meth c nL n0 w0 nE wE Q (pc + 2) S') : JK G p e R s m args below meth c nL n0 w0 nE wE Q pc S := by
  obtain ⟨hx, hb, hml, hown, hG, hRc, hRs, hini⟩ := id X
  obtain ⟨L, st0, σ⟩ := S
  obtain ⟨n, st, hs, hn, hle, hcl, rfl⟩ := jo_newa_i h
  have hs : st0 = _ := hs
  subst hs
  refine jk_new hcl X (fun H locs ls cells slots hM hc hs kk => ?_) k
  have hty : newarray.typeOf aty = jt_at t := by rcases ht with ⟨rfl, rfl⟩ | ⟨rfl, rfl⟩ | ⟨rfl, rfl⟩ | ⟨rfl, rfl⟩ <;> rfl
  have hmem : Cond.arrayClass (newarray.typeOf aty) ∈ lw_tbl := jt_arrs _ (by rcases ht with ⟨rfl, rfl⟩ | ⟨rfl, rfl⟩ | ⟨rfl, rfl⟩ | ⟨rfl, rfl⟩ <;> decide)
  have h100 : 100 ≤ t ∧ t ≤ 104 := by rcases ht with ⟨rfl, rfl⟩ | ⟨rfl, rfl⟩ | ⟨rfl, rfl⟩ | ⟨rfl, rfl⟩ <;> decide
  have hbytes : n.toNatClampNeg * componentBytes (newarray.typeOf aty) ≤ 536870912 := by
    refine Nat.le_trans (Nat.mul_le_mul_right _ hle) ?_
    rcases ht with ⟨rfl, rfl⟩ | ⟨rfl, rfl⟩ | ⟨rfl, rfl⟩ | ⟨rfl, rfl⟩ <;> decide
  refine va_newaK hx hb (by have h9 := hG.1 _ hmem rfl; exact h9) rfl hd rfl hn rfl hbytes hc hs rfl fun H' cA e1 e2 e3 hA hNm => ?_
  have hcA : cA = jg_A G t := by
    have h2 := (hG.2.2.1 t h100.1 h100.2).2
    rw [hty] at hNm
    refine Option.some.inj (hNm.symm.trans ?_)
    rcases ht with ⟨rfl, rfl⟩ | ⟨rfl, rfl⟩ | ⟨rfl, rfl⟩ | ⟨rfl, rfl⟩ <;> exact h2
  refine kk H' (jm_new hcl hM e2 e3 (Or.inr (Or.inl ⟨h100.1, h100.2, ?_⟩)))
  rw [jr_new hcl hM, e1, hcA]
  congr 2
  funext j
  rw [jf_new, hty]
  rcases ht with ⟨rfl, rfl⟩ | ⟨rfl, rfl⟩ | ⟨rfl, rfl⟩ | ⟨rfl, rfl⟩ <;> rfl
theorem jw_anewarray (X : JX G p R s m meth c cc nL n0 w0 nE wE own ini) {S S' : JS} {ix : Nat} (hl : jt_nw own ix = some 3) (hd : decode cc pc = .ok (.anewarray ix, 3)) (h : jo_newa 104 S = some S') (k : JK G p e R s m args below meth c nL n0 w0 nE wE Q (pc + 3) S') : JK G p e R s m args below meth c nL n0 w0 nE wE Q pc S := by
  obtain ⟨hx, hb, hml, hown, hG, hRc, hRs, hini⟩ := id X
  obtain ⟨L, st0, σ⟩ := S
  obtain ⟨n, st, hs, hn, hle, hcl, rfl⟩ := jo_newa_i h
  have hs : st0 = _ := hs
  subst hs
  obtain ⟨hw, hci⟩ := jt_nw_at hl
  refine jk_new hcl X (fun H locs ls cells slots hM hc hs kk => ?_) k
  refine W.anew hx hb hown (C := "CellarTurns$Muddle") (jx_word hG hw rfl rfl) (va_AO.use hG.2.2.2.1) rfl hd rfl hn (Nat.le_trans (Nat.mul_le_mul_right _ hle) (by decide)) hc hs fun cA kA comp g1 g2 g3 g4 => ?_
  have hcA : cA = jg_A G 104 := by
    obtain ⟨kA', comp', f1, f2, f3, f4⟩ := (hG.2.2.1 104 (by decide) (by decide)).2
    exact Option.some.inj (g1.symm.trans f4)
  refine kk _ (jm_new hcl hM (by simp) (fun q hq => by rw [Array.getElem?_push, if_neg (Nat.ne_of_lt hq)]) (Or.inr (Or.inl ⟨by decide, by decide, ?_⟩)))
  rw [jr_new hcl hM, Array.getElem?_push, if_pos rfl, hcA, arrV_new]
  congr 2
  funext j
  rw [jf_new]
  rfl
theorem jw_step (X : JX G p R s m meth c cc nL n0 w0 nE wE own ini) {i : Instr} {o : JO} (ho : jx_of own ini i = some o) (hd : decode cc pc = .ok (i, jx_len i)) {S S' : JS} (h : jx_op o S = some S') (k : JK G p e R s m args below meth c nL n0 w0 nE wE Q (pc + jx_len i) S') : JK G p e R s m args below meth c nL n0 w0 nE wE Q pc S := by
  cases i with
  | iconst n => cases ho; exact jw_iconst X hd h k
  | bipush n => cases ho; exact jw_bipush X hd h k
  | sipush n => cases ho; exact jw_sipush X hd h k
  | lconst n => cases ho; exact jw_lconst X hd h k
  | ldc ix =>
    simp only [jx_of] at ho
    split at ho
    · rename_i v hv; cases ho; exact jw_ldc X hv hd h k
    · split at ho
      · rename_i hq; cases ho; obtain ⟨h1, h2⟩ := hq; subst h2; exact jw_ldcs X h1 hd h k
      · cases ho
  | ldc_w ix =>
    simp only [jx_of] at ho
    split at ho
    · rename_i v hv; cases ho; exact jw_ldc_w X hv hd h k
    · cases ho
  | ldc2_w ix =>
    simp only [jx_of] at ho
    split at ho
    · rename_i v hv; cases ho; exact jw_ldc2 X hv hd h k
    · cases ho
  | iload i => cases ho; exact jw_iload X hd h k
  | iload_n i => cases ho; exact jw_iload_n X hd h k
  | lload i => cases ho; exact jw_lload X hd h k
  | lload_n i => cases ho; exact jw_lload_n X hd h k
  | aload i => cases ho; exact jw_aload X hd h k
  | aload_n i => cases ho; exact jw_aload_n X hd h k
  | istore i => cases ho; exact jw_istore X hd h k
  | istore_n i => cases ho; exact jw_istore_n X hd h k
  | lstore i => cases ho; exact jw_lstore X hd h k
  | lstore_n i => cases ho; exact jw_lstore_n X hd h k
  | astore i => cases ho; exact jw_astore X hd h k
  | astore_n i => cases ho; exact jw_astore_n X hd h k
  | iinc i n => cases ho; exact jw_iinc X hd h k
  | iadd => cases ho; exact jw_iadd X hd h k
  | isub => cases ho; exact jw_isub X hd h k
  | imul => cases ho; exact jw_imul X hd h k
  | idiv => cases ho; exact jw_idiv X hd h k
  | irem => cases ho; exact jw_irem X hd h k
  | ineg => cases ho; exact jw_ineg X hd h k
  | iand => cases ho; exact jw_iand X hd h k
  | ior => cases ho; exact jw_ior X hd h k
  | ixor => cases ho; exact jw_ixor X hd h k
  | ishl => cases ho; exact jw_ishl X hd h k
  | ishr => cases ho; exact jw_ishr X hd h k
  | iushr => cases ho; exact jw_iushr X hd h k
  | ladd => cases ho; exact jw_ladd X hd h k
  | lsub => cases ho; exact jw_lsub X hd h k
  | lmul => cases ho; exact jw_lmul X hd h k
  | ldiv => cases ho; exact jw_ldiv X hd h k
  | lrem => cases ho; exact jw_lrem X hd h k
  | land => cases ho; exact jw_land X hd h k
  | lor => cases ho; exact jw_lor X hd h k
  | lxor => cases ho; exact jw_lxor X hd h k
  | lshl => cases ho; exact jw_lshl X hd h k
  | lshr => cases ho; exact jw_lshr X hd h k
  | lushr => cases ho; exact jw_lushr X hd h k
  | lcmp => cases ho; exact jw_lcmp X hd h k
  | i2l => cases ho; exact jw_i2l X hd h k
  | l2i => cases ho; exact jw_l2i X hd h k
  | i2b => cases ho; exact jw_i2b X hd h k
  | i2c => cases ho; exact jw_i2c X hd h k
  | getfield ix =>
    simp only [jx_of] at ho
    split at ho
    · rename_i o' hv; cases ho; exact jw_getw X hv hd h k
    · exact jw_getfield X ho hd h k
  | getstatic ix =>
    simp only [jx_of] at ho
    split at ho
    · rename_i v hv; cases ho; exact jw_getstatic X hv hd h k
    · split at ho
      · rename_i hq; cases ho; obtain ⟨h1, h2⟩ := hq; subst h2; exact jw_getcs X h1 hd h k
      · cases ho
  | putfield ix => exact jw_putfield X ho hd h k
  | iaload => cases ho; exact jw_iaload X hd h k
  | laload => cases ho; exact jw_laload X hd h k
  | baload => cases ho; exact jw_baload X hd h k
  | aaload => cases ho; exact jw_aaload X hd h k
  | iastore => cases ho; exact jw_iastore X hd h k
  | lastore => cases ho; exact jw_lastore X hd h k
  | bastore => cases ho; exact jw_bastore X hd h k
  | aastore => cases ho; exact jw_aastore X hd h k
  | arraylength => cases ho; exact jw_arraylength X hd h k
  | new ix =>
    simp only [jx_of] at ho
    split at ho
    · rename_i v hv; cases ho; exact jw_new X hv hd h k
    · cases ho
  | newarray t =>
    cases t with
    | int => cases ho; exact jw_newarray X (Or.inl ⟨rfl, rfl⟩) hd h k
    | long => cases ho; exact jw_newarray X (Or.inr (Or.inl ⟨rfl, rfl⟩)) hd h k
    | byte => cases ho; exact jw_newarray X (Or.inr (Or.inr (Or.inl ⟨rfl, rfl⟩))) hd h k
    | boolean => cases ho; exact jw_newarray X (Or.inr (Or.inr (Or.inr ⟨rfl, rfl⟩))) hd h k
    | _ => cases ho
  | anewarray ix =>
    simp only [jx_of] at ho
    split at ho
    · rename_i hv; cases ho; exact jw_anewarray X hv hd h k
    · cases ho
  | dup => cases ho; exact jw_dup X hd h k
  | pop => cases ho; exact jw_pop X hd h k
  | dup2 => cases ho; exact jw_dup2 X hd h k
  | dup_x1 => cases ho; exact jw_dup_x1 X hd h k
  | _ => cases ho
end JW

/-! ===== pieces of code without a branch, and calls ===== -/
/-- nothing that was made goes -/
def jmono (σ σ' : JH) : Prop := jh_n σ ≤ jh_n σ' ∧ jh_w σ ≤ jh_w σ'
theorem jmono.rf (σ : JH) : jmono σ σ := ⟨Nat.le_refl _, Nat.le_refl _⟩
theorem jmono.tr {a b c : JH} (h : jmono a b) (h' : jmono b c) : jmono a c := ⟨Nat.le_trans h.1 h'.1, Nat.le_trans h.2 h'.2⟩
/-- F is what the code does from place i to place j -/
def JSl (G : JG) (own : Nat) (ini : Bool) (cc : ByteArray) (d nL i j : Nat) (F : JN) : Prop :=
  (∀ S S', F S = some S' → jmono S.2.2 S'.2.2) ∧
  ∀ (p : Program) (e : Env) (R : Room) (s : State) (m : MethodId) (args : Array Value) (below : List Frame) (meth : Method) (c : Code) (n0 w0 nE wE : Nat) (Q : State → Prop),
    JX G p R s m meth c cc nL n0 w0 nE wE own ini → JD R d → ∀ S S', F S = some S' → JK G p e R s m args below meth c nL n0 w0 nE wE Q j S' → JK G p e R s m args below meth c nL n0 w0 nE wE Q i S
def jn (F F' : JN) : JN := fun s => (F s).bind F'
def jx_cv (n ci : Nat) (f : JF) : JN := fun s => match (s.2.1.take n).reverse with
  | .ref a :: r => match s.2.2.1[a]? with
    | some (t, _) => if t = ci ∧ ((s.2.1.drop n).map (fun v => v.category)).sum ≤ 8 ∧ r.length + 1 = n then (f (.ref a :: r) s.2.2).bind (fun q => some (s.1, q.1.toList ++ s.2.1.drop n, q.2)) else none
    | none => none
  | _ => none
def jx_ci (n : Nat) (f : JF) : JN := fun s => match (s.2.1.take n).reverse with
  | .ref a :: r => if ((s.2.1.drop n).map (fun v => v.category)).sum ≤ 8 ∧ r.length + 1 = n then (f (.ref a :: r) s.2.2).bind (fun q => some (s.1, q.1.toList ++ s.2.1.drop n, q.2)) else none
  | _ => none
def jx_cs (n : Nat) (f : JF) : JN := fun s => if ((s.2.1.drop n).map (fun v => v.category)).sum ≤ 8 ∧ (s.2.1.take n).length = n then (f (s.2.1.take n).reverse s.2.2).bind (fun q => some (s.1, q.1.toList ++ s.2.1.drop n, q.2)) else none
/-- Object's own constructor -/
def jx_oi : JN := fun s => match s.2.1 with
  | .ref _ :: st => if (st.map (fun v => v.category)).sum ≤ 8 then some (s.1, st, s.2.2) else none
  | _ => none
def jx_end (own : Nat) (ini : Bool) (cc : ByteArray) : Nat → List JO → Option Nat
  | pc, [] => some pc
  | pc, o :: r => match decode cc pc with
    | .ok (i, len) => if jx_of own ini i = some o ∧ len = jx_len i then jx_end own ini cc (pc + len) r else none
    | .error _ => none
theorem jh_set_mono {σ σ' : JH} (h : σ'.1 = σ.1) : jmono σ σ' := by
  unfold jmono jh_n jh_w
  rw [h]
  exact ⟨Nat.le_refl _, Nat.le_refl _⟩
theorem jh_new_mono (σ : JH) (t n : Nat) : jmono σ (jh_new σ t n) := ⟨by rw [jh_new_n]; omega, by rw [jh_new_w]; omega⟩
theorem jx_op_mono {o : JO} {S S' : JS} (h : jx_op o S = some S') : jmono S.2.2 S'.2.2 := by
  obtain ⟨F, hF⟩ : ∃ F, jx_op o = F := ⟨_, rfl⟩
  rw [hF] at h
  unfold jx_op at hF
  split at hF <;> subst hF
  all_goals first
    | (exact absurd (show (none : Option JS) = some S' from h) (by simp))
    | (cases h; exact jmono.rf _)
    | (obtain ⟨x, h1, rfl⟩ := jo_iload_i h; exact jmono.rf _)
    | (obtain ⟨x, h1, rfl⟩ := jo_lload_i h; exact jmono.rf _)
    | (obtain ⟨x, h1, rfl⟩ := jo_aload_i h; exact jmono.rf _)
    | (obtain ⟨x, st, h1, h2, rfl⟩ := jo_istore_i h; exact jmono.rf _)
    | (obtain ⟨x, st, h1, h2, rfl⟩ := jo_lstore_i h; exact jmono.rf _)
    | (obtain ⟨x, st, h1, h2, rfl⟩ := jo_astore_i h; exact jmono.rf _)
    | (obtain ⟨x, h1, rfl⟩ := jo_iinc_i h; exact jmono.rf _)
    | (obtain ⟨x, y, st, h1, rfl⟩ := jo_ii_i h; exact jmono.rf _)
    | (obtain ⟨x, y, st, h1, h2, rfl⟩ := jo_id_i h; exact jmono.rf _)
    | (obtain ⟨x, st, h1, rfl⟩ := jo_i_i h; exact jmono.rf _)
    | (obtain ⟨x, y, st, h1, rfl⟩ := jo_ll_i h; exact jmono.rf _)
    | (obtain ⟨x, y, st, h1, h2, rfl⟩ := jo_lq_i h; exact jmono.rf _)
    | (obtain ⟨x, y, st, h1, rfl⟩ := jo_li_i h; exact jmono.rf _)
    | (obtain ⟨x, y, st, h1, rfl⟩ := jo_lcmp_i h; exact jmono.rf _)
    | (obtain ⟨x, st, h1, rfl⟩ := jo_i2l_i h; exact jmono.rf _)
    | (obtain ⟨x, st, h1, rfl⟩ := jo_l2i_i h; exact jmono.rf _)
    | (obtain ⟨a, n, st, h1, h2, rfl⟩ := jo_getI_i h; exact jmono.rf _)
    | (obtain ⟨a, n, st, h1, h2, rfl⟩ := jo_getJ_i h; exact jmono.rf _)
    | (obtain ⟨a, n, st, h1, h2, rfl⟩ := jo_getR_i h; exact jmono.rf _)
    | (obtain ⟨x, a, n, st, h1, h2, h3, h4, rfl⟩ := jo_putI_i h; exact jh_set_mono rfl)
    | (obtain ⟨x, a, n, st, h1, h2, rfl⟩ := jo_putJ_i h; exact jh_set_mono rfl)
    | (obtain ⟨x, a, n, st, h1, h2, rfl⟩ := jo_putR_i h; exact jh_set_mono rfl)
    | (obtain ⟨i, a, t, n, st, h1, h2, h3, h4, rfl⟩ := jo_ldI_i h; exact jmono.rf _)
    | (obtain ⟨i, a, n, st, h1, h2, h3, rfl⟩ := jo_ldJ_i h; exact jmono.rf _)
    | (obtain ⟨i, a, t, n, st, h1, h2, h3, h4, rfl⟩ := jo_ldR_i h; exact jmono.rf _)
    | (obtain ⟨x, i, a, n, st, h1, h2, h3, rfl⟩ := jo_stI_i h; exact jh_set_mono rfl)
    | (obtain ⟨x, i, a, n, st, h1, h2, h3, rfl⟩ := jo_stJ_i h; exact jh_set_mono rfl)
    | (obtain ⟨x, i, a, t, n, st, h1, h2, h3, h4, rfl⟩ := jo_stB_i h; exact jh_set_mono rfl)
    | (obtain ⟨x, i, a, n, st, h1, h2, h3, h4, rfl⟩ := jo_stR_i h; exact jh_set_mono rfl)
    | (obtain ⟨a, t, n, st, h1, h2, h3, rfl⟩ := jo_len_i h; exact jmono.rf _)
    | (obtain ⟨n, st, h1, h2, h3, h4, rfl⟩ := jo_newa_i h; exact jh_new_mono _ _ _)
    | (obtain ⟨h1, rfl⟩ := jo_new_i h; exact jh_new_mono _ _ _)
    | (obtain ⟨v, st, h1, h2, rfl⟩ := jo_dup_i h; exact jmono.rf _)
    | (obtain ⟨v, st, h1, h2, rfl⟩ := jo_pop_i h; exact jmono.rf _)
    | (obtain ⟨v, w, st, h1, h2, h3, rfl⟩ := jo_dup2_i h; exact jmono.rf _)
    | (obtain ⟨v, w, st, h1, h2, h3, rfl⟩ := jo_dupx1_i h; exact jmono.rf _)
section JW
variable {G : JG} {p : Program} {e : Env} {R : Room} {s : State} {m : MethodId} {args : Array Value} {below : List Frame} {meth : Method} {c : Code} {cc : ByteArray} {n0 w0 nE wE nL own d : Nat} {ini : Bool} {Q : State → Prop} {pc i j k : Nat} {σ : JH}
theorem jsl_run {ops : List JO} : ∀ {i : Nat}, jx_end own ini cc i ops = some j → JSl G own ini cc d nL i j (jx_run ops) := by
  induction ops with
  | nil =>
    intro i h
    cases h
    exact ⟨fun S S' h => by cases h; exact jmono.rf _, fun p e R s m args below meth c n0 w0 nE wE Q X D S S' h k => by cases h; exact k⟩
  | cons o r ih =>
    intro i h
    unfold jx_end at h
    split at h
    · rename_i ins len hd
      split at h
      · rename_i hc
        obtain ⟨h1, h2⟩ := hc
        subst h2
        have ih' := ih h
        refine ⟨fun S S' h => ?_, fun p e R s m args below meth c n0 w0 nE wE Q X D S S' h k => ?_⟩
        · obtain ⟨S1, g1, g2⟩ := Option.bind_eq_some_iff.mp h
          exact (jx_op_mono g1).tr (ih'.1 _ _ g2)
        · obtain ⟨S1, g1, g2⟩ := Option.bind_eq_some_iff.mp h
          exact jw_step X h1 hd g1 (ih'.2 p e R s m args below meth c n0 w0 nE wE Q X D S1 S' g2 k)
      · cases h
    · cases h
theorem jsl_n {F F' : JN} (h : JSl G own ini cc d nL i j F) (h' : JSl G own ini cc d nL j k F') : JSl G own ini cc d nL i k (jn F F') := by
  refine ⟨fun S S' q => ?_, fun p e R s m args below meth c n0 w0 nE wE Q X D S S' q kk => ?_⟩
  · obtain ⟨S1, g1, g2⟩ := Option.bind_eq_some_iff.mp q
    exact (h.1 _ _ g1).tr (h'.1 _ _ g2)
  · obtain ⟨S1, g1, g2⟩ := Option.bind_eq_some_iff.mp q
    exact h.2 p e R s m args below meth c n0 w0 nE wE Q X D S S1 g1 (h'.2 p e R s m args below meth c n0 w0 nE wE Q X D S1 S' g2 kk)
theorem jsl_oi {ix : Nat} (hl : Cond.methodLink (jt_own.getD own "") ix objectInit ∈ lw_tbl) (hd1 : 1 ≤ d) (hd : decode cc i = .ok (.invokespecial ix, 3)) : JSl G own ini cc d nL i (i + 3) jx_oi := by
  have inv : ∀ S S', jx_oi S = some S' → ∃ a st, S.2.1 = .ref a :: st ∧ (st.map (fun v => v.category)).sum ≤ 8 ∧ S' = (S.1, st, S.2.2) := by
    intro S S' h
    unfold jx_oi at h
    split at h
    · rename_i a st hs
      split at h
      · rename_i h8; cases h; exact ⟨a, st, hs, h8, rfl⟩
      · cases h
    · cases h
  refine ⟨fun S S' q => ?_, fun p e R s m args below meth c n0 w0 nE wE Q X D S S' q kk => ?_⟩
  · obtain ⟨a, st, h1, h2, rfl⟩ := inv S S' q
    exact jmono.rf _
  · obtain ⟨L, st0, σ⟩ := S
    obtain ⟨a, st, hs, h8, rfl⟩ := inv _ _ q
    have hs : st0 = _ := hs
    subst hs
    obtain ⟨hx, hb, hml, hown, hG, hRc, hRs, hini⟩ := id X
    refine jk_st (fun H locs ls cells slots hl5 hM k9 => ?_) kk
    exact W.objInit hx hb hown (jx_word hG hl rfl rfl) (jx_word hG (List.mem_of_getElem? (i := 152) (by decide +kernel)) rfl rfl) (jx_word hG (List.mem_of_getElem? (i := 153) (by decide +kernel)) rfl rfl) rfl (by rw [hml]; exact hl5.1) rfl hd (Nat.le_trans hd1 D.1)
      (by
        have e8 : ((st.map (jv G)).map fun v => v.category).sum ≤ 8 := by
          rw [List.map_map]
          rw [show ((fun v : Value => v.category) ∘ jv G) = (fun v : Value => v.category) from funext fun v => jv_cat v]
          exact h8
        have := D.2
        have e9 : 2 * (F0 m i ls (jv G (.ref a) :: st.map (jv G))).monitorRoom + ((st.map (jv G)).map fun v => v.category).sum ≤ 8 := lv_room e8
        show 2 * (F0 m i ls (jv G (.ref a) :: st.map (jv G))).monitorRoom + ((st.map (jv G)).map fun v => v.category).sum + 12 ≤ R.locals
        omega) k9
/-- what the tables say of a method that is called: its code, its class, how many parameters it has -/
def JMt (y : MethodName) (cY : ByteArray) (maxL : Nat) (ret : Option FieldType) (n : Nat) : Prop :=
  Cond.code y cY maxL ret ∈ lw_tbl ∧ Cond.initialized y.cls ∈ lw_tbl ∧ (y.cls ≠ "java/lang/invoke/MethodHandle" ∧ y.cls ≠ "java/lang/invoke/VarHandle") ∧ (parseMethodDescriptor y.desc).map (fun d => d.parameters.length) = some n ∧ maxL ≤ 45
theorem jm_cats {st : List Value} (h : (st.map (fun v => v.category)).sum ≤ 8) : ((st.map (jv G)).map fun v => v.category).sum ≤ 8 := by
  rw [List.map_map]
  rw [show ((fun v : Value => v.category) ∘ jv G) = (fun v : Value => v.category) from funext fun v => jv_cat v]
  exact h
theorem jm_room {d' maxL k n : Nat} (hd : d' + 1 ≤ d) (hmx : maxL ≤ 45) (D : JD R d) : (jrm d' k n).frames + 1 ≤ R.frames ∧ 8 + (maxL + 11) + (jrm d' k n).locals ≤ R.locals := by
  have h1 := D.1
  have h2 := D.2
  refine ⟨?_, ?_⟩
  · show d' + 1 ≤ R.frames
    omega
  · show 8 + (maxL + 11) + 64 * d' ≤ R.locals
    omega
theorem jm_par {y : MethodName} {n : Nat} (h : (parseMethodDescriptor y.desc).map (fun d => d.parameters.length) = some n) : ∀ sig, parseMethodDescriptor y.desc = some sig → n = sig.parameters.length := fun sig hs => by
  rw [hs] at h
  exact (Option.some.inj h).symm
theorem jm_words {y : MethodName} {cY : ByteArray} {maxL : Nat} {ret : Option FieldType} (hG : JGl G s) (hc : Cond.code y cY maxL ret ∈ lw_tbl) : ∀ w ∈ [Cond.code y cY maxL ret], ∀ (a' : Array Value) (U : State), s.WarmedH U.vm → w.before a' U = true := by
  intro w hw a' U hW
  rw [List.mem_singleton.mp hw]
  exact word_at (args := #[]) hW (Or.inl rfl) (hG.1 _ hc rfl)
theorem jx_cv_i {n ci : Nat} {f : JF} {S S' : JS} (h : jx_cv n ci f S = some S') : ∃ a r t v σ', (S.2.1.take n).reverse = .ref a :: r ∧ S.2.2.1[a]? = some (ci, t) ∧ ((S.2.1.drop n).map (fun v => v.category)).sum ≤ 8 ∧ r.length + 1 = n ∧ f (.ref a :: r) S.2.2 = some (v, σ') ∧ S' = (S.1, v.toList ++ S.2.1.drop n, σ') := by
  unfold jx_cv at h
  split at h
  · rename_i a r hr
    split at h
    · rename_i t n' ht
      split at h
      · rename_i hc
        obtain ⟨q, g1, g2⟩ := Option.bind_eq_some_iff.mp h
        obtain ⟨h1, h2, h3⟩ := hc
        subst h1
        cases g2
        exact ⟨a, r, n', q.1, q.2, hr, ht, h2, h3, g1, rfl⟩
      · cases h
    · cases h
  · cases h
theorem jx_ci_i {n : Nat} {f : JF} {S S' : JS} (h : jx_ci n f S = some S') : ∃ a r v σ', (S.2.1.take n).reverse = .ref a :: r ∧ ((S.2.1.drop n).map (fun v => v.category)).sum ≤ 8 ∧ r.length + 1 = n ∧ f (.ref a :: r) S.2.2 = some (v, σ') ∧ S' = (S.1, v.toList ++ S.2.1.drop n, σ') := by
  unfold jx_ci at h
  split at h
  · rename_i a r hr
    split at h
    · rename_i hc
      obtain ⟨q, g1, g2⟩ := Option.bind_eq_some_iff.mp h
      cases g2
      exact ⟨a, r, q.1, q.2, hr, hc.1, hc.2, g1, rfl⟩
    · cases h
  · cases h
theorem jx_cs_i {n : Nat} {f : JF} {S S' : JS} (h : jx_cs n f S = some S') : ∃ v σ', ((S.2.1.drop n).map (fun v => v.category)).sum ≤ 8 ∧ (S.2.1.take n).length = n ∧ f (S.2.1.take n).reverse S.2.2 = some (v, σ') ∧ S' = (S.1, v.toList ++ S.2.1.drop n, σ') := by
  unfold jx_cs at h
  split at h
  · rename_i hc
    obtain ⟨q, g1, g2⟩ := Option.bind_eq_some_iff.mp h
    cases g2
    exact ⟨q.1, q.2, hc.1, hc.2, g1, rfl⟩
  · cases h
theorem jst_split {st : List Value} {n : Nat} {a : Nat} {r : List Value} (h : (st.take n).reverse = .ref a :: r) : st.map (jv G) = (r.map (jv G)).reverse ++ .ref (jr G a) :: (st.drop n).map (jv G) := by
  have h1 : st.take n = (Value.ref a :: r).reverse := by rw [← h, List.reverse_reverse]
  have h2 : st = (Value.ref a :: r).reverse ++ st.drop n := by rw [← h1, List.take_append_drop]
  have h3 : st.map (jv G) = ((Value.ref a :: r).reverse ++ st.drop n).map (jv G) := congrArg _ h2
  rw [h3]
  simp [jv]
theorem jsl_cv {y : MethodName} {cY : ByteArray} {maxL d' n ci ix : Nat} {ret : Option FieldType} {f : JF} (hm : JMt y cY maxL ret n) (hin : Cond.instanceMethod y ∈ lw_tbl) (hse : Cond.selects y.cls y y ∈ lw_tbl) (hcls : y.cls = jt_C ci) (hci : ci < 12) (hS : JSem G y cY maxL ret d' f) (hdd : d' + 1 ≤ d)
    (hl : Cond.methodLink (jt_own.getD own "") ix y ∈ lw_tbl) (hd : decode cc i = .ok (.invokevirtual ix, 3)) : JSl G own ini cc d nL i (i + 3) (jx_cv (n + 1) ci f) := by
  refine ⟨fun S S' q => ?_, fun p e R s m args below meth c n0 w0 nE wE Q X D S S' q kk => ?_⟩
  · obtain ⟨a, r, t, v, σ', h1, h2, h3, h4, h5, rfl⟩ := jx_cv_i q
    obtain ⟨g1, g2, -⟩ := hS _ _ _ _ h5
    exact ⟨g1, g2⟩
  · obtain ⟨L, st0, σ⟩ := S
    obtain ⟨a, r, t, v, σ', h1, h2, h3, h4, h5, rfl⟩ := jx_cv_i q
    obtain ⟨hx, hb, hml, hown, hG, hRc, hRs, hini⟩ := id X
    refine jk_call X hS h5 (fun H locs ls cells slots hls hM hMet hcap hP => ?_) kk
    have hcell : ∃ cellB : Cell, H[jr G a]? = some cellB ∧ cellB.vm.isStatics = false ∧ s.vm.findClass (jt_C ci) = some cellB.cls := by
      obtain ⟨-, -, cell, q1, q2, q3, -⟩ := jm_obj hM h2 hci
      exact ⟨cell, q1, by rw [q3]; rfl, by rw [q2]; exact (hG.2.1.1 ci _ (jt_cls_at hci)).2.1⟩
    have hrm := jm_room (k := jh_n σ' - jh_n σ) (n := jh_w σ' - jh_w σ) hdd hm.2.2.2.2 D
    exact va_runV (Ts := []) (As := r.map (jv G)) (b := jr G a) (C := jt_C ci) ⟨hx, hb, hml, hown, fun w hw => absurd hw List.not_mem_nil⟩ hMet
      ⟨⟨rfl, rfl, hrm.1, hrm.2, jm_words hG hm.1, List.mem_cons_self, jx_word hG hm.1 rfl rfl, jx_word hG hm.2.1 rfl rfl, hm.2.2.1, jm_par hm.2.2.2.1, jx_word hG hl rfl rfl⟩, jx_word hG hin rfl rfl, by have h9 := jx_word (args := args) hG hse rfl rfl; rw [hcls] at h9; exact h9⟩
      ⟨jpc_blind, hcell, fun U hU hW => hP U hU hW⟩ rfl (by rw [List.length_map]; omega) hls (jst_split h1) (lv_room (jm_cats h3)) hd hcap
theorem jsl_ci {y : MethodName} {cY : ByteArray} {maxL d' n ix : Nat} {f : JF} (hm : JMt y cY maxL none n) (hin : Cond.instanceMethod y ∈ lw_tbl) (hy : y.name = "<init>") (hS : JSem G y cY maxL none d' f) (hdd : d' + 1 ≤ d)
    (hl : Cond.methodLink (jt_own.getD own "") ix y ∈ lw_tbl) (hd : decode cc i = .ok (.invokespecial ix, 3)) : JSl G own ini cc d nL i (i + 3) (jx_ci (n + 1) f) := by
  refine ⟨fun S S' q => ?_, fun p e R s m args below meth c n0 w0 nE wE Q X D S S' q kk => ?_⟩
  · obtain ⟨a, r, v, σ', h1, h3, h4, h5, rfl⟩ := jx_ci_i q
    obtain ⟨g1, g2, -⟩ := hS _ _ _ _ h5
    exact ⟨g1, g2⟩
  · obtain ⟨L, st0, σ⟩ := S
    obtain ⟨a, r, v, σ', h1, h3, h4, h5, rfl⟩ := jx_ci_i q
    obtain ⟨hx, hb, hml, hown, hG, hRc, hRs, hini⟩ := id X
    refine jk_call X hS h5 (fun H locs ls cells slots hls hM hMet hcap hP => ?_) kk
    have hrm := jm_room (k := jh_n σ' - jh_n σ) (n := jh_w σ' - jh_w σ) hdd hm.2.2.2.2 D
    exact va_runI (Ts := []) (As := r.map (jv G)) (b := jr G a) ⟨hx, hb, hml, hown, fun w hw => absurd hw List.not_mem_nil⟩ hMet
      ⟨⟨rfl, rfl, hrm.1, hrm.2, jm_words hG hm.1, List.mem_cons_self, jx_word hG hm.1 rfl rfl, jx_word hG hm.2.1 rfl rfl, hm.2.2.1, jm_par hm.2.2.2.1, jx_word hG hl rfl rfl⟩, hy, jx_word hG hin rfl rfl⟩
      ⟨jpc_blind, fun U hU hW => hP U hU hW⟩ rfl (by rw [List.length_map]; omega) hls (jst_split h1) (lv_room (jm_cats h3)) hd hcap
theorem jsl_ciN {y : MethodName} {cY : ByteArray} {maxL d' n ix : Nat} {f : JF} (hm : JMt y cY maxL none n) (hin : Cond.instanceMethod y ∈ lw_tbl) (hy : y.name = "<init>") (hS : JSem G y cY maxL none d' f) (hdd : d' + 1 ≤ d)
    (hl : Cond.methodLinkNest (jt_own.getD own "") ix y "CellarTurns" ∈ lw_tbl) (hd : decode cc i = .ok (.invokespecial ix, 3)) : JSl G own ini cc d nL i (i + 3) (jx_ci (n + 1) f) := by
  refine ⟨fun S S' q => ?_, fun p e R s m args below meth c n0 w0 nE wE Q X D S S' q kk => ?_⟩
  · obtain ⟨a, r, v, σ', h1, h3, h4, h5, rfl⟩ := jx_ci_i q
    obtain ⟨g1, g2, -⟩ := hS _ _ _ _ h5
    exact ⟨g1, g2⟩
  · obtain ⟨L, st0, σ⟩ := S
    obtain ⟨a, r, v, σ', h1, h3, h4, h5, rfl⟩ := jx_ci_i q
    obtain ⟨hx, hb, hml, hown, hG, hRc, hRs, hini⟩ := id X
    refine jk_call X hS h5 (fun H locs ls cells slots hls hM hMet hcap hP => ?_) kk
    have hrm := jm_room (k := jh_n σ' - jh_n σ) (n := jh_w σ' - jh_w σ) hdd hm.2.2.2.2 D
    exact va_runIN (Ts := []) (As := r.map (jv G)) (b := jr G a) (host := "CellarTurns") ⟨hx, hb, hml, hown, fun w hw => absurd hw List.not_mem_nil⟩ hMet
      ⟨⟨⟨rfl, rfl, hrm.1, hrm.2, jm_words hG hm.1, List.mem_cons_self⟩, jx_word hG hm.1 rfl rfl, jx_word hG hm.2.1 rfl rfl, hm.2.2.1, jm_par hm.2.2.2.1, jx_word hG hl rfl rfl⟩, hy, jx_word hG hin rfl rfl⟩
      ⟨jpc_blind, fun U hU hW => hP U hU hW⟩ rfl (by rw [List.length_map]; omega) hls (jst_split h1) (lv_room (jm_cats h3)) hd hcap
theorem jst_splitS {st : List Value} {n : Nat} : st.map (jv G) = (((st.take n).reverse).map (jv G)).reverse ++ (st.drop n).map (jv G) := by
  rw [← List.map_reverse, List.reverse_reverse, ← List.map_append, List.take_append_drop]
theorem jsl_cs {y : MethodName} {cY : ByteArray} {maxL d' n ix : Nat} {ret : Option FieldType} {f : JF} (hm : JMt y cY maxL ret n) (hst : Cond.static y ∈ lw_tbl) (hS : JSem G y cY maxL ret d' f) (hdd : d' + 1 ≤ d)
    (hl : Cond.methodLink (jt_own.getD own "") ix y ∈ lw_tbl) (hd : decode cc i = .ok (.invokestatic ix, 3)) : JSl G own ini cc d nL i (i + 3) (jx_cs n f) := by
  refine ⟨fun S S' q => ?_, fun p e R s m args below meth c n0 w0 nE wE Q X D S S' q kk => ?_⟩
  · obtain ⟨v, σ', h3, h4, h5, rfl⟩ := jx_cs_i q
    obtain ⟨g1, g2, -⟩ := hS _ _ _ _ h5
    exact ⟨g1, g2⟩
  · obtain ⟨L, st0, σ⟩ := S
    obtain ⟨v, σ', h3, h4, h5, rfl⟩ := jx_cs_i q
    obtain ⟨hx, hb, hml, hown, hG, hRc, hRs, hini⟩ := id X
    refine jk_call X hS h5 (fun H locs ls cells slots hls hM hMet hcap hP => ?_) kk
    have hrm := jm_room (k := jh_n σ' - jh_n σ) (n := jh_w σ' - jh_w σ) hdd hm.2.2.2.2 D
    exact va_runS (Ts := []) (As := (st0.take n).reverse.map (jv G)) ⟨hx, hb, hml, hown, fun w hw => absurd hw List.not_mem_nil⟩ hMet
      ⟨⟨rfl, rfl, hrm.1, hrm.2, jm_words hG hm.1, List.mem_cons_self, jx_word hG hm.1 rfl rfl, jx_word hG hm.2.1 rfl rfl, hm.2.2.1, jm_par hm.2.2.2.1, jx_word hG hl rfl rfl⟩, jx_word hG hst rfl rfl⟩
      ⟨jpc_blind, fun U hU hW => hP U hU hW⟩ rfl (by rw [List.length_map, List.length_reverse]; exact h4) hls jst_splitS (lv_room (jm_cats h3)) hd hcap
theorem jsl_csN {y : MethodName} {cY : ByteArray} {maxL d' n ix : Nat} {ret : Option FieldType} {f : JF} (hm : JMt y cY maxL ret n) (hst : Cond.static y ∈ lw_tbl) (hS : JSem G y cY maxL ret d' f) (hdd : d' + 1 ≤ d)
    (hl : Cond.methodLinkNest (jt_own.getD own "") ix y "CellarTurns" ∈ lw_tbl) (hd : decode cc i = .ok (.invokestatic ix, 3)) : JSl G own ini cc d nL i (i + 3) (jx_cs n f) := by
  refine ⟨fun S S' q => ?_, fun p e R s m args below meth c n0 w0 nE wE Q X D S S' q kk => ?_⟩
  · obtain ⟨v, σ', h3, h4, h5, rfl⟩ := jx_cs_i q
    obtain ⟨g1, g2, -⟩ := hS _ _ _ _ h5
    exact ⟨g1, g2⟩
  · obtain ⟨L, st0, σ⟩ := S
    obtain ⟨v, σ', h3, h4, h5, rfl⟩ := jx_cs_i q
    obtain ⟨hx, hb, hml, hown, hG, hRc, hRs, hini⟩ := id X
    refine jk_call X hS h5 (fun H locs ls cells slots hls hM hMet hcap hP => ?_) kk
    have hrm := jm_room (k := jh_n σ' - jh_n σ) (n := jh_w σ' - jh_w σ) hdd hm.2.2.2.2 D
    exact va_runSN (Ts := []) (As := (st0.take n).reverse.map (jv G)) (host := "CellarTurns") ⟨hx, hb, hml, hown, fun w hw => absurd hw List.not_mem_nil⟩ hMet
      ⟨⟨⟨rfl, rfl, hrm.1, hrm.2, jm_words hG hm.1, List.mem_cons_self⟩, jx_word hG hm.1 rfl rfl, jx_word hG hm.2.1 rfl rfl, hm.2.2.1, jm_par hm.2.2.2.1, jx_word hG hl rfl rfl⟩, jx_word hG hst rfl rfl, trivial⟩
      ⟨jpc_blind, fun U hU hW => hP U hU hW⟩ rfl (by rw [List.length_map, List.length_reverse]; exact h4) hls jst_splitS (lv_room (jm_cats h3)) hd hcap
end JW

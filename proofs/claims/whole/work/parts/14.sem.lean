/-! ===== a method's function out of its piece ===== -/
def jl_sl (vs : List Value) : JL := vs.flatMap fun v => if v.category = 2 then [some v, none] else [some v]
def jl_en (vs : List Value) (n : Nat) : JL := jl_sl vs ++ List.replicate (n - (jl_sl vs).length) none
/-- the function of a piece: its locals are the arguments, its answer what lies on the stack at the end -/
def jf_of (P : JP) (n : Nat) : JF := fun vs σ => if (jl_sl vs).length ≤ n then (P (jl_en vs n, [], σ)).bind (fun q => if q.1 = 1000000 then some (q.2.2.1.head?, q.2.2.2) else none) else none
section JW
variable {G : JG} {cc : ByteArray} {nL own d : Nat} {ini : Bool} {ret : Option FieldType} {i j k h : Nat}
theorem jl_sl_at (vs : List Value) : ∀ (i : Nat) (v : Value), (jl_sl vs)[i]? = some (some v) → (lg_sl (vs.map (jv G)))[i]? = some (.val (jv G v)) := by
  induction vs with
  | nil => intro i v h; cases h
  | cons w r ih =>
    intro i v h
    unfold jl_sl at h
    unfold lg_sl
    rw [List.flatMap_cons] at h
    rw [List.map_cons, List.flatMap_cons, jv_cat]
    by_cases hc : w.category = 2
    · rw [if_pos hc] at h ⊢
      match i, h with
      | 0, h => cases h; rfl
      | 1, h => cases h
      | i + 2, h => exact ih i v h
    · rw [if_neg hc] at h ⊢
      match i, h with
      | 0, h => cases h; rfl
      | i + 1, h => exact ih i v h
theorem jl_sl_len (vs : List Value) : (lg_sl (vs.map (jv G))).length = (jl_sl vs).length := by
  induction vs with
  | nil => rfl
  | cons w r ih =>
    unfold jl_sl lg_sl at *
    rw [List.map_cons, List.flatMap_cons, List.flatMap_cons, jv_cat, List.length_append, List.length_append, ih]
    split <;> rfl
theorem jl_en_ok {vs : List Value} (hle : (jl_sl vs).length ≤ nL) : jl G ((lg_sl (vs.map (jv G)) ++ List.replicate (nL - (lg_sl (vs.map (jv G))).length) Slot.unset).toArray) nL (jl_en vs nL) := by
  have h1 := lv_entry (vs.map (jv G)) (n := nL) (by rw [jl_sl_len]; exact hle)
  refine ⟨h1.1, h1.2.1, by unfold jl_en; rw [List.length_append, List.length_replicate]; omega, fun i v hv => ?_⟩
  unfold jl_en at hv
  by_cases hi : i < (jl_sl vs).length
  · rw [List.getElem?_append_left hi] at hv
    have h2 := jl_sl_at (G := G) vs i v hv
    rw [List.getElem?_toArray, List.getElem?_append_left (by rw [jl_sl_len]; exact hi)]
    exact h2
  · rw [List.getElem?_append_right (by omega)] at hv
    have := (List.getElem?_eq_some_iff.mp hv)
    obtain ⟨hk, hv⟩ := this
    rw [List.getElem_replicate] at hv
    cases hv
theorem jmet_of {l : Launch} {y : MethodName} {ws ws' : List Cond} {rm : Room} {Pc : Array Value → State → Prop} {Qc : Array Value → State → Outcome → State → Prop} {mc ms : Nat} {free : Addr → Prop} {cc : ByteArray} {maxL : Nat} {ret : Option FieldType}
    (hy : plainFor y = true) (hw : ws = Cond.code y cc maxL ret :: ws')
    (body : ∀ p e s m args below meth c s₁, BodyLoose p l y (headSpec ws rm) cc maxL ret e s m args below meth c s₁ → c.maxLocals = maxL → Pc args s →
      W p l e (headSpec ws rm).room s m args below meth c s.heap [] 0 0 (MQ below Qc args s mc ms free) (entryFrame m args maxL)) : Met l y ws rm Pc Qc mc ms free := by
  refine MetFree.of_bodySF (code := cc) (maxLocals := maxL) (ret := ret) hy ?_ ?_
  · intro args s m h hn
    obtain ⟨meth, c, h1, h2, h3, h4, h5, h6, -, -⟩ := Cond.code_spec hn (atoms_spec (ws := ws) h _ (by rw [hw]; exact List.mem_cons_self))
    exact ⟨meth, c, h1, h2, h3, h4, h5, h6⟩
  · intro p e s m args below meth c s₁ B hml hP _
    have hh0 : s₁.heap = s.heap := by rw [B.state]; rfl
    obtain ⟨t, a1, o, b1, b2, b3⟩ := body p e s m args below meth c s₁ B hml hP s₁ hh0 (Stand.of_body B)
    exact ⟨t, o, a1, b1, b2, ⟨b3.1, b3.2⟩⟩
theorem jsem_of {y : MethodName} {P : JP} (hy : plainFor y = true) (hown : y.cls = jt_own.getD own "") (hini : ini = true → y.name = "<init>") (hP : JFr G own ini cc d nL ret 0 P) : JSem G y cc nL ret d (jf_of P nL) := by
  intro av σ v σ' hf
  unfold jf_of at hf
  split at hf
  · rename_i hle
    obtain ⟨q, g1, g2⟩ := Option.bind_eq_some_iff.mp hf
    split at g2
    · rename_i hq
      cases g2
      obtain ⟨hn, hw⟩ := hP.1 _ _ g1
      have hn : jh_n σ ≤ jh_n q.2.2.2 := hn
      have hw : jh_w σ ≤ jh_w q.2.2.2 := hw
      refine ⟨hn, hw, ?_⟩
      refine jmet_of (cc := cc) (maxL := nL) (ret := ret) hy rfl ?_
      intro p e s m args below meth c s₁ B hml hv
      obtain ⟨rfl, hM, hG⟩ := hv
      have hownc : s.vm.findClass (jt_own.getD own "") = some m.cls := by rw [← hown]; exact findClass_of_methodNamed B.named
      have X : JX G p (headSpec [Cond.code y cc nL ret] (jrm d (jh_n q.2.2.2 - jh_n σ) (jh_w q.2.2.2 - jh_w σ))).room s m meth c cc nL (jh_n σ) (jh_w σ) (jh_n q.2.2.2) (jh_w q.2.2.2) own ini :=
        ⟨B.exec, B.bytes, hml, hownc, hG, rfl, rfl, fun h => (name_of_methodNamed B.named B.method).1.trans (hini h)⟩
      have hK := hP.2 p e _ s m (av.map (jv G)).toArray below meth c (jh_n σ) (jh_w σ) (jh_n q.2.2.2) (jh_w q.2.2.2) _ X ⟨Nat.le_refl _, Nat.le_refl _⟩ B.returns B.notSynchronized (jl_en av nL, [], σ) q g1 (fun _ => ⟨rfl, rfl, fun t ht => ht⟩) (fun h => absurd hq h)
      have hW := hK.2.2 s.heap [] _ (Nat.le_refl _) (Nat.le_refl _) hM (fun q hq => absurd hq List.not_mem_nil) (jl_en_ok hle)
      rw [lg_entry_eq]
      have e0 : jh_n σ - jh_n σ = 0 := Nat.sub_self _
      have e1 : jh_w σ - jh_w σ = 0 := Nat.sub_self _
      show W p (jg_l G) e _ s m _ below meth c s.heap [] 0 0 _ _
      have hW2 : W p (jg_l G) e _ s m (av.map (jv G)).toArray below meth c s.heap [] (jh_n σ - jh_n σ) (jh_w σ - jh_w σ) _ _ := hW
      rw [e0, e1] at hW2
      exact hW2
    · cases g2
  · cases hf
end JW

/-! ===== pair of the class, where it throws ===== -/
def jz_ap (σ : JH) : JH := (σ.1 ++ [(99, 6)], σ.2)
theorem jz_ap_n (σ : JH) : jh_n (jz_ap σ) = jh_n σ + 1 := by unfold jh_n jz_ap; simp
theorem jz_ap_w (σ : JH) : jh_w (jz_ap σ) = jh_w σ + 6 := by unfold jh_w jz_ap; simp
theorem jz_ap_m {G : JG} {s t : State} {H : Heap} {σ : JH} (h : jm G σ s H) (hvm : s.vm.Alike t.vm) (hz : H.size ≤ t.heap.size) (ho : ∀ q : Nat, q < H.size → t.heap[q]? = H[q]?) : jm G (jz_ap σ) t t.heap := by
  have hl : 64 ≤ σ.1.length := h.2.1.1
  refine ⟨fun hc => ?_, ⟨by rw [jz_ap_n]; have := h.2.1.1; omega, Nat.le_trans h.2.1.2 hz⟩, fun q hq => ?_, fun i t' n' hi hx => ?_, ?_, h.2.2.2.2.2⟩
  · exfalso
    unfold jh_clean jz_ap at hc
    rw [List.drop_append_of_le_length hl, List.all_append, Bool.and_eq_true] at hc
    exact absurd hc.2 (by decide)
  · rw [ho q (by have := h.2.1.2; omega)]
    exact h.2.2.1 q hq
  · have hx2 : (σ.1 ++ [(99, 6)])[i]? = some (t', n') := hx
    by_cases hi2 : i < σ.1.length
    · rw [List.getElem?_append_left hi2] at hx2
      have h9 := h.2.2.2.1 i t' n' hi hx2
      rcases id h9 with ⟨q1, q2, c0, q3, -⟩ | ⟨q1, q2, q3⟩ | q1
      · exact jc_same h9 (ho _ (Array.getElem?_eq_some_iff.mp q3).1) (fun j ty => rfl)
      · exact jc_same h9 (ho _ (Array.getElem?_eq_some_iff.mp q3).1) (fun j ty => rfl)
      · exact Or.inr (Or.inr q1)
    · rw [List.getElem?_append_right (by omega)] at hx2
      have h9 : i - σ.1.length < 1 := (List.getElem?_eq_some_iff.mp hx2).1
      rw [show i - σ.1.length = 0 by omega] at hx2
      cases hx2
      exact Or.inr (Or.inr rfl)
  · refine jst_same (jst.moved hvm h.2.2.2.2.1) (fun i hi => ?_) (fun _ _ _ => rfl) (fun _ _ _ => rfl) (fun _ _ _ => rfl)
    show (σ.1 ++ [(99, 6)])[i]? = _
    rw [List.getElem?_append_left (by omega)]
def jz_X (G : JG) (σ : JH) : String → State → State → Prop := fun E _ t => E = jz_N ∧ jm G (jz_ap σ) t t.heap
section JZ
variable {G : JG} {p : Program} {e : Env} {R : Room} {s : State} {m : MethodId} {args : Array Value} {below : List Frame} {meth : Method} {c : Code} {n0 w0 nE wE : Nat} {Q : State → Prop}
theorem jk_throw {pc is k : Nat} {text : String} {L : JL} {σ : JH} (X : JX G p R s m meth c c_Ct_pair 5 n0 w0 (jh_n σ + 1) (jh_w σ + 6) 10 false) (D : JD R 50) (hl : (jg_l G).stackTraces = false) (hstr : ("CellarTurns", is, text, k) ∈ jt_str)
    (d0 : decode c_Ct_pair pc = .ok (.new 270, 3)) (d3 : decode c_Ct_pair (pc + 3) = .ok (.dup, 1)) (d4 : decode c_Ct_pair (pc + 4) = .ok (.ldc_w is, 3)) (d7 : decode c_Ct_pair (pc + 7) = .ok (.invokespecial 274, 3)) (d10 : decode c_Ct_pair (pc + 10) = .ok (.athrow, 1))
    (ht : ∀ x ∈ c.exceptionTable.toList, False) (hlocks : meth.locks = false) :
    JK G p e R s m args below meth c 5 n0 w0 (jh_n σ + 1) (jh_w σ + 6) (vx_MQ below (fun _ _ _ _ => False) (jz_X G σ) args s (jh_n σ + 1 - n0) (jh_w σ + 6 - w0) (fun a => jg_sz G ≤ a)) pc (L, [], σ) := by
  obtain ⟨hx, hb, hml, hown, hG, hRc, hRs, -⟩ := X
  refine ⟨Nat.le_succ _, Nat.le_add_right _ _, fun H locs ls h1 h2 h3 h4 h5 => ?_⟩
  have h1 : n0 ≤ jh_n σ := h1
  have h2 : w0 ≤ jh_w σ := h2
  have h3 : jm G σ s H := h3
  have hk : ∀ a : Nat, a < (jg_H G).size → ¬ jt_A G a → H[a]? = (jg_H G)[a]? := fun a ha hn => h3.2.2.1 a (by unfold jt_A at hn; omega)
  exact jz_throw (G := G) (A := jt_A G) hx hb hl hown hG (hG.2.2.2.2.2.2.2.1 _ hstr) (hG.2.2.2.2.2.2.2.2.1.kept hk) (hG.2.2.2.2.2.2.2.2.2.kept hk) (h5.1.trans hml.symm) d0 d3 d4 d7 d10 (fun x hx => (ht x hx).elim) (by have := D.1; omega) (by have := D.2; show 0 + 82 ≤ R.locals; omega)
    (by rw [hRc]; show jh_n σ - n0 + 1 ≤ _; omega) (by rw [hRs]; show jh_w σ - w0 + 6 ≤ _; omega) hlocks (fun t hvm hz ho => ⟨rfl, jz_ap_m h3 hvm hz ho⟩) h4 (by show jh_n σ - n0 + 1 ≤ _; omega) (by show jh_w σ - w0 + 6 ≤ _; omega)
/-- a call of pair that throws -/
theorem jz_met (G : JG) (hl : (jg_l G).stackTraces = false) {av : List Value} {σ : JH} {q : Nat × JS} (hle : (jl_sl av).length ≤ 5) (hP : qp_Ct_pair (jl_en av 5, [], σ) = some q) (hq : q.1 = 37 ∨ q.1 = 71) (hs : q.2.2.1 = []) :
    jmono σ q.2.2.2 ∧ vx_Met (jg_l G) y_Ct_pair [Cond.code y_Ct_pair c_Ct_pair 5 (some .int)] (jrm 50 (jh_n q.2.2.2 + 1 - jh_n σ) (jh_w q.2.2.2 + 6 - jh_w σ)) (JPc G av σ) (fun _ _ _ _ => False) (jz_X G q.2.2.2) (jh_n q.2.2.2 + 1 - jh_n σ) (jh_w q.2.2.2 + 6 - jh_w σ) (fun a => jg_sz G ≤ a) := by
  have hmo := (fr_Ct_pair G).1 _ _ hP
  refine ⟨hmo, ?_⟩
  obtain ⟨hn, hw⟩ := hmo
  have hn : jh_n σ ≤ jh_n q.2.2.2 := hn
  have hw : jh_w σ ≤ jh_w q.2.2.2 := hw
  refine vx_ofW (cc := c_Ct_pair) (maxL := 5) (ret := some .int) (by decide +kernel) rfl ?_
  intro p e s m args below meth c s₁ B hml ht hv
  obtain ⟨rfl, hM, hG⟩ := hv
  have hownc : s.vm.findClass (jt_own.getD 10 "") = some m.cls := findClass_of_methodNamed B.named
  have X : JX G p (headSpec [Cond.code y_Ct_pair c_Ct_pair 5 (some .int)] (jrm 50 (jh_n q.2.2.2 + 1 - jh_n σ) (jh_w q.2.2.2 + 6 - jh_w σ))).room s m meth c c_Ct_pair 5 (jh_n σ) (jh_w σ) (jh_n q.2.2.2 + 1) (jh_w q.2.2.2 + 6) 10 false :=
    ⟨B.exec, B.bytes, hml, hownc, hG, rfl, rfl, fun h => by cases h⟩
  have D : JD (headSpec [Cond.code y_Ct_pair c_Ct_pair 5 (some .int)] (jrm 50 (jh_n q.2.2.2 + 1 - jh_n σ) (jh_w q.2.2.2 + 6 - jh_w σ))).room 50 := ⟨Nat.le_refl _, Nat.le_refl _⟩
  have hK := (fr_Ct_pair G).2 p e _ s m (av.map (jv G)).toArray below meth c (jh_n σ) (jh_w σ) (jh_n q.2.2.2 + 1) (jh_w q.2.2.2 + 6)
    (vx_MQ below (fun _ _ _ _ => False) (jz_X G q.2.2.2) (av.map (jv G)).toArray s (jh_n q.2.2.2 + 1 - jh_n σ) (jh_w q.2.2.2 + 6 - jh_w σ) (fun a => jg_sz G ≤ a)) X D B.returns B.notSynchronized (jl_en av 5, [], σ) q hP
    (fun h => by exfalso; rcases hq with h' | h' <;> omega) (fun _ => ?_)
  · have hW := hK.2.2 s.heap [] _ (Nat.le_refl _) (Nat.le_refl _) hM (fun q hq => absurd hq List.not_mem_nil) (jl_en_ok hle)
    rw [lg_entry_eq]
    have e0 : jh_n σ - jh_n σ = 0 := Nat.sub_self _
    have e1 : jh_w σ - jh_w σ = 0 := Nat.sub_self _
    show W p (jg_l G) e _ s m _ below meth c s.heap [] 0 0 _ _
    have hW2 : W p (jg_l G) e _ s m (av.map (jv G)).toArray below meth c s.heap [] (jh_n σ - jh_n σ) (jh_w σ - jh_w σ) _ _ := hW
    rw [e0, e1] at hW2
    exact hW2
  · obtain ⟨t, L, st, σ1⟩ := q
    have hs : st = [] := hs
    subst hs
    have hq : t = 37 ∨ t = 71 := hq
    rcases hq with rfl | rfl
    · exact jk_throw (pc := 37) (is := 272) (k := 26) (text := "no such turns or no such pair") X D hl (by simp [jt_str]) (by decide +kernel) (by decide +kernel) (by decide +kernel) (by decide +kernel) (by decide +kernel) ht B.notSynchronized
    · exact jk_throw (pc := 71) (is := 277) (k := 27) (text := "no row of turns fits what was seen") X D hl (by simp [jt_str]) (by decide +kernel) (by decide +kernel) (by decide +kernel) (by decide +kernel) (by decide +kernel) ht B.notSynchronized
end JZ
/-! ===== the law's pair: it returns 0 with out[0] set, or takes the exception and returns 1 ===== -/
noncomputable def jz_th (av : List Value) (σ : JH) : Option JH := if (jl_sl av).length ≤ 5 then (qp_Ct_pair (jl_en av 5, [], σ)).bind (fun q => if (q.1 = 37 ∨ q.1 = 71) ∧ q.2.2.1.isEmpty = true then some q.2.2.2 else none) else none
noncomputable def q_Lw_pairX : JF := fun vs σ => match vs with
  | [.ref x, .int a, .int b, .int c, .ref o] => if (σ.1[x]?).map (fun q => q.1) = some 10 then (jz_th [.ref x, .int a, .int b, .int c] σ).bind (fun σ' => some (some (.int 1), jz_ap σ')) else none
  | _ => none
noncomputable def q_Lw_pair : JF := fun vs σ => match q_Lw_pairX vs σ with
  | some r => some r
  | none => jf_of qp_Lw_pair 6 vs σ
abbrev jz_cw : Cond := Cond.codeWith y_Lw_pair c_Lw_pair 6 (some .int) [(0, 12, 15, 13)]
def JSemW (G : JG) (f : JF) : Prop :=
  ∀ (av : List Value) (σ : JH) (v : Option Value) (σ' : JH), f av σ = some (v, σ') → jmono σ σ' ∧
    Met (jg_l G) y_Lw_pair [jz_cw] (jrm 51 (jh_n σ' - jh_n σ) (jh_w σ' - jh_w σ)) (JPc G av σ) (JQc G v σ') (jh_n σ' - jh_n σ) (jh_w σ' - jh_w σ) (fun q => jg_sz G ≤ q)
theorem jmet_ofW {l : Launch} {y : MethodName} {ws ws' : List Cond} {rm : Room} {Pc : Array Value → State → Prop} {Qc : Array Value → State → Outcome → State → Prop} {mc ms : Nat} {free : Addr → Prop} {cc : ByteArray} {maxL : Nat} {ret : Option FieldType} {hh : List (Nat × Nat × Nat × Nat)}
    (hy : plainFor y = true) (hw : ws = Cond.codeWith y cc maxL ret hh :: ws')
    (body : ∀ p e s m args below meth c s₁, BodyLoose p l y (headSpec ws rm) cc maxL ret e s m args below meth c s₁ → c.maxLocals = maxL → c.exceptionTable.toList = tableOf hh → Pc args s →
      W p l e (headSpec ws rm).room s m args below meth c s.heap [] 0 0 (MQ below Qc args s mc ms free) (entryFrame m args maxL)) : Met l y ws rm Pc Qc mc ms free := by
  refine MetFree.of_bodySF (code := cc) (maxLocals := maxL) (ret := ret) hy ?_ ?_
  · intro args s m h hn
    obtain ⟨m9, meth, c, hn9, h1, h2, h3, h4, -, h5, h6, -⟩ := Cond.codeWith_spec (atoms_spec (ws := ws) h _ (by rw [hw]; exact List.mem_cons_self))
    cases Option.some.inj (hn.symm.trans hn9)
    exact ⟨meth, c, h1, h2, h3, h4, h5, h6⟩
  · intro p e s m args below meth c s₁ B hml hP _
    have hh0 : s₁.heap = s.heap := by rw [B.state]; rfl
    obtain ⟨t, a1, o, b1, b2, b3⟩ := body p e s m args below meth c s₁ B hml (vx_table B (atoms_spec (ws := ws) B.pre _ (by rw [hw]; exact List.mem_cons_self))) hP s₁ hh0 (Stand.of_body B)
    exact ⟨t, o, a1, b1, b2, ⟨b3.1, b3.2⟩⟩
theorem jsemW_r (G : JG) : JSemW G (jf_of qp_Lw_pair 6) := by
  intro av σ v σ' hf
  unfold jf_of at hf
  split at hf
  · rename_i hle
    obtain ⟨q, g1, g2⟩ := Option.bind_eq_some_iff.mp hf
    split at g2
    · rename_i hq
      cases g2
      have hmo := (fr_Lw_pair G).1 _ _ g1
      refine ⟨hmo, ?_⟩
      obtain ⟨hn, hw⟩ := hmo
      have hn : jh_n σ ≤ jh_n q.2.2.2 := hn
      have hw : jh_w σ ≤ jh_w q.2.2.2 := hw
      refine jmet_ofW (cc := c_Lw_pair) (maxL := 6) (ret := some .int) (hh := [(0, 12, 15, 13)]) (by decide +kernel) rfl ?_
      intro p e s m args below meth c s₁ B hml _ hv
      obtain ⟨rfl, hM, hG⟩ := hv
      have hownc : s.vm.findClass (jt_own.getD 12 "") = some m.cls := findClass_of_methodNamed B.named
      have X : JX G p (headSpec [jz_cw] (jrm 51 (jh_n q.2.2.2 - jh_n σ) (jh_w q.2.2.2 - jh_w σ))).room s m meth c c_Lw_pair 6 (jh_n σ) (jh_w σ) (jh_n q.2.2.2) (jh_w q.2.2.2) 12 false :=
        ⟨B.exec, B.bytes, hml, hownc, hG, rfl, rfl, fun h => by cases h⟩
      have hK := (fr_Lw_pair G).2 p e _ s m (av.map (jv G)).toArray below meth c (jh_n σ) (jh_w σ) (jh_n q.2.2.2) (jh_w q.2.2.2) _ X ⟨Nat.le_refl _, Nat.le_refl _⟩ B.returns B.notSynchronized (jl_en av 6, [], σ) q g1 (fun _ => ⟨rfl, rfl, fun t ht => ht⟩) (fun h => absurd hq h)
      have hW := hK.2.2 s.heap [] _ (Nat.le_refl _) (Nat.le_refl _) hM (fun q hq => absurd hq List.not_mem_nil) (jl_en_ok hle)
      rw [lg_entry_eq]
      have e0 : jh_n σ - jh_n σ = 0 := Nat.sub_self _
      have e1 : jh_w σ - jh_w σ = 0 := Nat.sub_self _
      show W p (jg_l G) e _ s m _ below meth c s.heap [] 0 0 _ _
      have hW2 : W p (jg_l G) e _ s m (av.map (jv G)).toArray below meth c s.heap [] (jh_n σ - jh_n σ) (jh_w σ - jh_w σ) _ _ := hW
      rw [e0, e1] at hW2
      exact hW2
    · cases g2
  · cases hf
theorem jsemW_x (G : JG) (hl : (jg_l G).stackTraces = false) : JSemW G q_Lw_pairX := by
  intro av σ v σ' hf
  unfold q_Lw_pairX at hf
  split at hf
  · rename_i x a b c o
    split at hf
    · rename_i hx
      obtain ⟨σ1, g1, g2⟩ := Option.bind_eq_some_iff.mp hf
      cases g2
      unfold jz_th at g1
      split at g1
      · rename_i hle
        obtain ⟨q, g2, g3⟩ := Option.bind_eq_some_iff.mp g1
        split at g3
        · rename_i hq
          cases g3
          obtain ⟨hmo, hMet⟩ := jz_met G hl hle g2 hq.1 (List.isEmpty_iff.mp hq.2)
          obtain ⟨σ1, hσ1⟩ : ∃ z, z = q.2.2.2 := ⟨_, rfl⟩
          rw [← hσ1] at hmo hMet ⊢
          obtain ⟨hn, hw⟩ := hmo
          have en := jz_ap_n σ1
          have ew := jz_ap_w σ1
          refine ⟨⟨by omega, by omega⟩, ?_⟩
          have hxx : ∃ n, σ.1[x]? = some (10, n) := by
            cases hz : σ.1[x]? with
            | none => rw [hz] at hx; cases hx
            | some z =>
              rw [hz] at hx
              obtain ⟨z1, z2⟩ := z
              have h9 : z1 = 10 := Option.some.inj hx
              exact ⟨z2, by rw [h9]⟩
          obtain ⟨nx, hxx⟩ := hxx
          refine jmet_ofW (cc := c_Lw_pair) (maxL := 6) (ret := some .int) (hh := [(0, 12, 15, 13)]) (by decide +kernel) rfl ?_
          intro p e s m args below meth cd s₁ B hml htab hv
          obtain ⟨rfl, hM, hG⟩ := hv
          have hownc : s.vm.findClass (jt_own.getD 12 "") = some m.cls := findClass_of_methodNamed B.named
          have X : JX G p (headSpec [jz_cw] (jrm 51 (jh_n (jz_ap σ1) - jh_n σ) (jh_w (jz_ap σ1) - jh_w σ))).room s m meth cd c_Lw_pair 6 (jh_n σ) (jh_w σ) (jh_n (jz_ap σ1)) (jh_w (jz_ap σ1)) 12 false :=
            ⟨B.exec, B.bytes, hml, hownc, hG, rfl, rfl, fun h => by cases h⟩
          have D : JD (headSpec [jz_cw] (jrm 51 (jh_n (jz_ap σ1) - jh_n σ) (jh_w (jz_ap σ1) - jh_w σ))).room 51 := ⟨Nat.le_refl _, Nat.le_refl _⟩
          obtain ⟨Rm, hRm⟩ : ∃ z, z = (headSpec [jz_cw] (jrm 51 (jh_n (jz_ap σ1) - jh_n σ) (jh_w (jz_ap σ1) - jh_w σ))).room := ⟨_, rfl⟩
          have hRc : Rm.cells = jh_n (jz_ap σ1) - jh_n σ := by rw [hRm]; rfl
          have hRs : Rm.slots = jh_w (jz_ap σ1) - jh_w σ := by rw [hRm]; rfl
          rw [← hRm] at X D ⊢
          obtain ⟨Lx, hLx⟩ : ∃ z, z = jl_en [Value.ref x, .int a, .int b, .int c, .ref o] 6 := ⟨_, rfl⟩
          have hK := (fr_Lw_pair7 G).2 p e Rm s m ([Value.ref x, .int a, .int b, .int c, .ref o].map (jv G)).toArray below meth cd (jh_n σ) (jh_w σ) (jh_n (jz_ap σ1)) (jh_w (jz_ap σ1))
            (MQ below (JQc G (some (.int 1)) (jz_ap σ1)) ([Value.ref x, .int a, .int b, .int c, .ref o].map (jv G)).toArray s (jh_n (jz_ap σ1) - jh_n σ) (jh_w (jz_ap σ1) - jh_w σ) (fun q => jg_sz G ≤ q)) X D
            (jl_en [Value.ref x, .int a, .int b, .int c, .ref o] 6, [], σ) (jl_en [Value.ref x, .int a, .int b, .int c, .ref o] 6, [.int c, .int b, .int a, .ref x, .int 0, .ref o], σ) rfl ?_
          · have hW := hK.2.2 s.heap [] _ (Nat.le_refl _) (Nat.le_refl _) hM (fun q hq => absurd hq List.not_mem_nil) (jl_en_ok (nL := 6) (vs := [Value.ref x, .int a, .int b, .int c, .ref o]) (by simp [jl_sl, Value.category]))
            rw [lg_entry_eq]
            have e0 : jh_n σ - jh_n σ = 0 := Nat.sub_self _
            have e1 : jh_w σ - jh_w σ = 0 := Nat.sub_self _
            have hW2 : W p (jg_l G) e Rm s m ([Value.ref x, .int a, .int b, .int c, .ref o].map (jv G)).toArray below meth cd s.heap [] (jh_n σ - jh_n σ) (jh_w σ - jh_w σ) _ _ := hW
            rw [e0, e1] at hW2
            exact hW2
          · refine ⟨by show jh_n σ ≤ _; omega, by show jh_w σ ≤ _; omega, fun H locs ls h1 h2 h3 h4 h5 => ?_⟩
            have h3 : jm G σ s H := h3
            have hcell : ∃ cellB : Cell, H[jr G x]? = some cellB ∧ cellB.vm.isStatics = false ∧ s.vm.findClass "CellarTurns" = some cellB.cls := by
              obtain ⟨-, -, cell, q1, q2, q3, -⟩ := jm_obj h3 hxx (by decide)
              exact ⟨cell, q1, by rw [q3]; rfl, by rw [q2]; exact (hG.2.1.1 10 _ (jt_cls_at (by decide))).2.1⟩
            have hrm := jm_room (k := jh_n σ1 + 1 - jh_n σ) (n := jh_w σ1 + 6 - jh_w σ) (d' := 50) (maxL := 5) (by decide) (by decide) D
            have hrun := vx_runV (args := ([Value.ref x, .int a, .int b, .int c, .ref o].map (jv G)).toArray) (locs := locs) (cells := jh_n σ - jh_n σ) (slots := jh_w σ - jh_w σ) (Ts := []) (As := [Value.int a, .int b, .int c]) (b := jr G x) (C := "CellarTurns") (own := jt_own.getD 12 "") (index := 7) (below := below) (meth := meth) (e := e) (g := F0 m 7 ls [.int c, .int b, .int a, .ref (jr G x), .int 0, .ref (jr G o)]) (rest := [.int 0, .ref (jr G o)]) ⟨B.exec, B.bytes, hml, hownc, fun w hw => absurd hw List.not_mem_nil⟩ hMet
              ⟨⟨rfl, rfl, hrm.1, hrm.2, jm_words hG mt_Ct_pair.1, List.mem_cons_self, jx_word hG mt_Ct_pair.1 rfl rfl, jx_word hG mt_Ct_pair.2.1 rfl rfl, mt_Ct_pair.2.2.1, jm_par mt_Ct_pair.2.2.2.1, jx_word hG ml_Ct_pair rfl rfl⟩, jx_word hG in_Ct_pair rfl rfl, jx_word hG sl_Ct_pair rfl rfl⟩
              ⟨jpc_blind, hcell, fun U hU hW => ⟨rfl, by rw [hU]; exact jm.moved hW.alike h3, hG.warm hW⟩⟩ rfl rfl h5.1 rfl (lv_room (Nat.le_of_ble_eq_true rfl)) (show decode c_Lw_pair 7 = _ by decide +kernel) ⟨by rw [hRc]; omega, by rw [hRs]; omega⟩
            intro T hT X0
            rcases hrun T hT X0 with ⟨v', st₀, t, T', L, e0, X', hL, e1, e2, hQ, st⟩ | ⟨q9, st₀, t, T', L, E, ce, e0, X', hL, e1, e2, ⟨rfl, hjm⟩, hce, hcv, hcl, st⟩
            · exact hQ.elim
            · have hjm' : jm G (jz_ap σ1) s T'.heap := by
                rw [e1]
                exact jm.moved (by rw [← e2]; exact X'.warmed.alike.symm) hjm
              have K17 := (fr_Lw_pair17 G).2 p e Rm s m ([Value.ref x, .int a, .int b, .int c, .ref o].map (jv G)).toArray below meth cd (jh_n σ) (jh_w σ) (jh_n (jz_ap σ1)) (jh_w (jz_ap σ1)) _ X D B.returns B.notSynchronized (List.replicate 6 none, [], jz_ap σ1) (1000000, (List.replicate 6 none, [.int 1], jz_ap σ1)) rfl (fun _ => ⟨rfl, rfl, fun t ht => ht⟩) (fun h => absurd rfl h)
              have ec : (jh_n σ - jh_n σ) + (jh_n σ1 + 1 - jh_n σ) = jh_n (jz_ap σ1) - jh_n σ := by omega
              have es : (jh_w σ - jh_w σ) + (jh_w σ1 + 6 - jh_w σ) = jh_w (jz_ap σ1) - jh_w σ := by omega
              rw [ec, es] at X'
              have kk : W p (jg_l G) e Rm s m ([Value.ref x, .int a, .int b, .int c, .ref o].map (jv G)).toArray below meth cd T'.heap (locs ++ L) (jh_n (jz_ap σ1) - jh_n σ) (jh_w (jz_ap σ1) - jh_w σ)
                  (MQ below (JQc G (some (.int 1)) (jz_ap σ1)) ([Value.ref x, .int a, .int b, .int c, .ref o].map (jv G)).toArray s (jh_n (jz_ap σ1) - jh_n σ) (jh_w (jz_ap σ1) - jh_w σ) (fun q => jg_sz G ≤ q)) (F0 m 15 ls [.ref q9]) := by
                refine lv_astore (cc := c_Lw_pair) (i := 5) B.exec B.bytes (by decide +kernel) (jl_has h5) (by decide) rfl (fun ls' h9 => ?_)
                exact K17.2.2 T'.heap (locs ++ L) ls' (by show jh_n σ ≤ jh_n (jz_ap σ1); omega) (by show jh_w σ ≤ jh_w (jz_ap σ1); omega) hjm' (fun q hq => by
                  rcases List.mem_append.mp hq with h | h
                  · exact h4 q h
                  · exact hL q h) ⟨h9.1, h9.2.1, rfl, fun i v hv => by
                    rw [List.getElem?_replicate] at hv
                    split at hv <;> cases hv⟩
              obtain ⟨t2, a1, b1⟩ := jq_catch (own := jt_own.getD 12 "") (E := jz_N) (name := jz_N) (pc := 7) (rest := [.int 0, .ref (jr G o)]) hownc ⟨0, 12, 15, 13⟩ [] htab (by decide) (by decide) (jx_word hG cl_Lw_nse rfl rfl) (jx_word hG (List.mem_of_getElem? (i := 1340) (by decide +kernel)) rfl rfl) (by rw [e1]; exact hce) hcv hcl kk T' rfl X'
              exact ⟨t2, st.trans a1, b1⟩
        · cases g3
      · cases g1
    · cases hf
  · cases hf
theorem jsemW (G : JG) (hl : (jg_l G).stackTraces = false) : JSemW G q_Lw_pair := by
  intro av σ v σ' hf
  unfold q_Lw_pair at hf
  split at hf
  · rename_i r hr
    cases hf
    exact jsemW_x G hl av σ v σ' hr
  · exact jsemW_r G av σ v σ' hf

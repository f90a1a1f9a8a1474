/-! ===== methods: what a call of one does, as a function ===== -/
section JW
variable {G : JG} {p : Program} {e : Env} {R : Room} {s : State} {m : MethodId} {args : Array Value} {below : List Frame} {meth : Method} {c : Code} {cc : ByteArray} {n0 w0 nE wE nL own : Nat} {ini : Bool} {Q : State → Prop} {pc : Nat} {σ : JH} {H : Heap} {locs : List Loc} {cells slots : Nat} {ls : Array Slot} {rest : List Value}
theorem jt_warm {w : Cond} {s U : State} (hg : jt_gw w = true) (hW : s.WarmedH U.vm) (h : w.before #[] s = true) : w.before #[] U = true := by
  unfold jt_gw at hg
  rw [Bool.or_eq_true] at hg
  rcases hg with hg | hg
  · exact word_at hW (good_of_word hg) h
  · split at hg
    · exact va_Nw.warmF hW h
    · exact va_Nw.warmM hW h
    · exact va_Nw.warmD hW h
    · exact va_Nw.warmC hW h
    · cases hg
theorem JGl.warm {s U : State} (h : JGl G s) (hW : s.WarmedH U.vm) : JGl G U := by
  obtain ⟨h1, h2, h3, h4, h5, h6, h7, h8, h9, h10⟩ := h
  exact ⟨fun w hw hg => jt_warm hg hW (h1 w hw hg), va_K.moved hW.alike h2, fun t a b => ⟨arrOfT_moved hW.alike (h3 t a b).1, (h3 t a b).2.moved hW.alike⟩, va_AO.moved hW.alike h4, fun q hq => va_Z.moved hW.alike (h5 q hq), h6, va_Z.moved hW.alike h7, fun q hq => vk_R.warm hW (h8 q hq), vx_Zq.moved hW.alike h9, vx_Zq.moved hW.alike h10⟩
theorem jst.moved {u U : State} (hvm : u.vm.Alike U.vm) (h : jst G σ u) : jst G σ U := by
  intro i t n hi hx
  obtain ⟨h1, h2, h3, h4, h5, h6⟩ := h i t n hi hx
  refine ⟨h1, fun ht => ?_, fun ht => va_T.moved hvm (h3 ht), fun ht => va_T.moved hvm (h4 ht), fun ht => va_T.moved hvm (h5 ht), fun ht => ?_⟩
  · obtain ⟨g1, g2, g3, g4⟩ := h2 ht
    exact ⟨va_O.moved hvm g1, va_OF.moved hvm g2, va_OF.moved hvm g3, va_OF.moved hvm g4⟩
  · obtain ⟨g1, g2, g3⟩ := h6 ht
    exact ⟨va_O.moved hvm g1, va_OF.moved hvm g2, va_OF.moved hvm g3⟩
theorem jm.moved {u U : State} (hvm : u.vm.Alike U.vm) (h : jm G σ u H) : jm G σ U H := by
  obtain ⟨h1, h2, h3, h4, h5, h6⟩ := h
  exact ⟨h1, h2, h3, h4, jst.moved hvm h5, h6⟩
def JPc (G : JG) (av : List Value) (σ : JH) : Array Value → State → Prop := fun a U => a = (av.map (jv G)).toArray ∧ jm G σ U U.heap ∧ JGl G U
def JQc (G : JG) (v : Option Value) (σ' : JH) : Array Value → State → Outcome → State → Prop := fun _ _ o t => o = .returned (v.map (jv G)) ∧ jm G σ' t t.heap
def jrm (d k n : Nat) : Room := { frames := d, cells := k, slots := n, locals := 64 * d }
/-- a call of y does what f says, with d frames at most -/
def JSem (G : JG) (y : MethodName) (cc : ByteArray) (maxL : Nat) (ret : Option FieldType) (d : Nat) (f : JF) : Prop :=
  ∀ (av : List Value) (σ : JH) (v : Option Value) (σ' : JH), f av σ = some (v, σ') → jh_n σ ≤ jh_n σ' ∧ jh_w σ ≤ jh_w σ' ∧
    Met (jg_l G) y [Cond.code y cc maxL ret] (jrm d (jh_n σ' - jh_n σ) (jh_w σ' - jh_w σ)) (JPc G av σ) (JQc G v σ') (jh_n σ' - jh_n σ) (jh_w σ' - jh_w σ) (fun q => jg_sz G ≤ q)
def JD (R : Room) (d : Nat) : Prop := d ≤ R.frames ∧ 64 * d ≤ R.locals
theorem jpc_blind {av : List Value} : FrameBlind (JPc G av σ) := by
  intro a U g mk h
  obtain ⟨h1, h2, h3⟩ := h
  refine ⟨h1, ?_, ?_⟩
  · exact jm.moved (u := U) (U := U.calling g mk a) (Vm.Alike.refl U.vm) h2
  · obtain ⟨g1, g2, g3, g4, g5, g6, g7, g8, g9, g10⟩ := h3
    have hvm : (U.calling g mk a).vm = U.vm := rfl
    refine ⟨fun w hw hg => ?_, va_K.moved (u := U) (Vm.Alike.refl U.vm) g2, fun t a1 b1 => ⟨arrOfT_moved (u := U) (Vm.Alike.refl U.vm) (g3 t a1 b1).1, (g3 t a1 b1).2.moved (u := U) (Vm.Alike.refl U.vm)⟩, va_AO.moved (u := U) (Vm.Alike.refl U.vm) g4, fun q hq => va_Z.moved (u := U) (Vm.Alike.refl U.vm) (g5 q hq), g6, va_Z.moved (u := U) (Vm.Alike.refl U.vm) g7, fun q hq => vk_R.same (u := U) rfl (g8 q hq), vx_Zq.moved (u := U) (Vm.Alike.refl U.vm) g9, vx_Zq.moved (u := U) (Vm.Alike.refl U.vm) g10⟩
    have hb := g1 w hw hg
    by_cases ht : w.onTables = true
    · exact va_tabs ht hvm.symm hb
    · cases w <;> first | exact hb | (exact absurd rfl ht) | (cases hg)
/-- behind a call -/
theorem jk_call {y : MethodName} {cY : ByteArray} {maxL d : Nat} {ret : Option FieldType} {f : JF} {av : List Value} {L : JL} {st st0 : List Value} {v : Option Value} {σ' : JH} (X : JX G p R s m meth c cc nL n0 w0 nE wE own ini) (hS : JSem G y cY maxL ret d f) (hf : f av σ = some (v, σ'))
    (hr : ∀ (H : Heap) (locs : List Loc) (ls : Array Slot) (cells slots : Nat), ls.size = nL → jm G σ s H → Met (jg_l G) y [Cond.code y cY maxL ret] (jrm d (jh_n σ' - jh_n σ) (jh_w σ' - jh_w σ)) (JPc G av σ) (JQc G v σ') (jh_n σ' - jh_n σ) (jh_w σ' - jh_w σ) (fun q => jg_sz G ≤ q) →
      cells + (jh_n σ' - jh_n σ) ≤ R.cells ∧ slots + (jh_w σ' - jh_w σ) ≤ R.slots → (∀ U : State, U.heap = H → s.WarmedH U.vm → JPc G av σ (av.map (jv G)).toArray U) →
      va_Run p (jg_l G) e R s m args below meth c H locs cells slots (jh_n σ' - jh_n σ) (jh_w σ' - jh_w σ) (F0 m pc ls (st0.map (jv G))) (st.map (jv G)) (JQc G v σ' (av.map (jv G)).toArray) (fun q => jg_sz G ≤ q))
    (k : JK G p e R s m args below meth c nL n0 w0 nE wE Q (pc + 3) (L, v.toList ++ st, σ')) : JK G p e R s m args below meth c nL n0 w0 nE wE Q pc (L, st0, σ) := by
  obtain ⟨hn, hw, hM⟩ := hS av σ v σ' hf
  obtain ⟨k1, k2, k3⟩ := k
  have k1 : jh_n σ' ≤ nE := k1
  have k2 : jh_w σ' ≤ wE := k2
  refine ⟨Nat.le_trans hn k1, Nat.le_trans hw k2, fun H locs ls h1 h2 h3 h4 h5 => ?_⟩
  have h1 : n0 ≤ jh_n σ := h1
  have h2 : w0 ≤ jh_w σ := h2
  have hcap : (jh_n σ - n0) + (jh_n σ' - jh_n σ) ≤ R.cells ∧ (jh_w σ - w0) + (jh_w σ' - jh_w σ) ≤ R.slots := by
    rw [X.2.2.2.2.2.1, X.2.2.2.2.2.2.1]
    omega
  have hrun := hr H locs ls (jh_n σ - n0) (jh_w σ - w0) h5.1 h3 hM hcap (fun U hU hWm => ⟨rfl, by rw [hU]; exact jm.moved hWm.alike h3, X.2.2.2.2.1.warm hWm⟩)
  intro T hT X0
  obtain ⟨v', st₀, t, T', L', e0, X', hL, e1, e2, hQ, hgo⟩ := hrun T hT X0
  obtain ⟨q1, q2⟩ := hQ
  have q1 : v' = v.map (jv G) := Outcome.returned.inj q1
  subst q1
  have hMt : jm G σ' s T'.heap := by
    rw [e1]
    exact jm.moved (by rw [← e2]; exact X'.warmed.alike.symm) q2
  have h9 := k3 T'.heap (locs ++ L') ls (Nat.le_trans h1 hn) (Nat.le_trans h2 hw) hMt (fun q hq => by
    rcases List.mem_append.mp hq with h | h
    · exact h4 q h
    · exact hL q h) h5
  have ec : (jh_n σ - n0) + (jh_n σ' - jh_n σ) = jh_n σ' - n0 := by omega
  have ew : (jh_w σ - w0) + (jh_w σ' - jh_w σ) = jh_w σ' - w0 := by omega
  rw [ec, ew] at X'
  obtain ⟨t2, a1, b1⟩ := h9 T' rfl X'
  refine ⟨t2, hgo t2 ?_, b1⟩
  have es : (v.map (jv G)).toList ++ st.map (jv G) = (v.toList ++ st).map (jv G) := by cases v <;> simp
  show Steps p.tables e below (T'.setTop { method := m, pc := pc + 3, locals := ls, stack := (v.map (jv G)).toList ++ st.map (jv G), locked := none }) t2
  rw [es]
  exact a1
end JW

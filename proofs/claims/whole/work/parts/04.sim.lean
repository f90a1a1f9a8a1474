/-! ===== the small machine and the real one: what a state of the one says of the other ===== -/
def jt_A (G : JG) : Nat → Prop := fun q => jg_sz G ≤ q
/-- a constant's cell: 50 a Word (its ordinal, letters, whether it is reserved), 51 a text (its coder, its bytes), 200 a row of ints, 201 a row of Words, 202 a row of bytes, 99 nothing is known -/
def jsc (G : JG) (σ : JH) (U : State) (i t n : Nat) : Prop :=
  (t = 50 ∨ t = 51 ∨ t = 99 ∨ t = 200 ∨ t = 201 ∨ t = 202) ∧
  (t = 50 → va_O "CellarTurns$Word" (jg_sa G i) (jt_A G) U (jg_H G) ∧ va_OF "java/lang/Enum" "ordinal" "I" (.int (σ.2.1 i 0)) (jg_sa G i) (jt_A G) U (jg_H G) ∧ va_OF "CellarTurns$Word" "letters" "J" (.long (σ.2.2.1 i 1)) (jg_sa G i) (jt_A G) U (jg_H G) ∧ va_OF "CellarTurns$Word" "reserved" "Z" (.int (σ.2.1 i 2)) (jg_sa G i) (jt_A G) U (jg_H G)) ∧
  (t = 200 → va_T .int (jg_sa G i) n (fun j => .int (σ.2.1 i j)) (jt_A G) U (jg_H G)) ∧
  (t = 201 → va_T (.object "CellarTurns$Word") (jg_sa G i) n (fun j => jv G (va_rf (σ.2.2.2 i j))) (jt_A G) U (jg_H G)) ∧
  (t = 202 → va_T .byte (jg_sa G i) n (fun j => .int (σ.2.1 i j)) (jt_A G) U (jg_H G)) ∧
  (t = 51 → va_O "java/lang/String" (jg_sa G i) (jt_A G) U (jg_H G) ∧ va_OF "java/lang/String" "coder" "B" (.int (σ.2.1 i 0)) (jg_sa G i) (jt_A G) U (jg_H G) ∧ va_OF "java/lang/String" "value" "[B" (jv G (va_rf (σ.2.2.2 i 1))) (jg_sa G i) (jt_A G) U (jg_H G))
def jst (G : JG) (σ : JH) (U : State) : Prop := ∀ i t n, i < 64 → σ.1[i]? = some (t, n) → jsc G σ U i t n
/-- a made cell -/
def jc (G : JG) (σ : JH) (H : Heap) (i t n : Nat) : Prop :=
  (t < 12 ∧ n = jt_N t ∧ t_OB (jr G i) ((jg_D G).1 t) n ((jg_D G).2 t) H (fun k => jv G (jf σ i k (jt_ty t k)))) ∨
  (100 ≤ t ∧ t ≤ 104 ∧ H[jr G i]? = some (arrV (jg_A G t) n (fun j => jv G (jf σ i j (jt_at t))))) ∨ t = 99
def jm (G : JG) (σ : JH) (U : State) (H : Heap) : Prop :=
  (jh_clean σ = true → H.size + 64 = jg_sz G + jh_n σ) ∧ (64 ≤ jh_n σ ∧ jg_sz G ≤ H.size) ∧ (∀ q : Nat, q < jg_sz G → H[q]? = (jg_H G)[q]?) ∧ (∀ i t n, 64 ≤ i → σ.1[i]? = some (t, n) → jc G σ H i t n) ∧ jst G σ U ∧ jg_sz G = (jg_H G).size
/-- what the tables say -/
def JGl (G : JG) (U : State) : Prop :=
  (∀ w ∈ lw_tbl, jt_gw w = true → w.before #[] U = true) ∧ va_K (jg_D G) jt_cls [] U ∧
  (∀ t, 100 ≤ t → t ≤ 104 → ArrOfT U (jg_A G t) (jt_at t) ∧ va_RA U (jg_A G t) (jt_at t)) ∧ va_AO "CellarTurns$Muddle" U ∧
  (∀ q ∈ jt_sts, va_Z q.1 q.2.1 q.2.2.1 (.ref (jg_sa G q.2.2.2)) (jt_A G) U (jg_H G)) ∧ (∀ i j, i < 22 → j < 22 → jg_sa G i = jg_sa G j → i = j) ∧
  va_Z "java/lang/String" "COMPACT_STRINGS" "Z" (.int 1) (jt_A G) U (jg_H G) ∧ (∀ q ∈ jt_str, vk_R q.1 q.2.1 q.2.2.1 (jg_sa G q.2.2.2) U) ∧ vx_Zq Bundle.tN "UNASSIGNED_STACK" Bundle.steD (jt_A G) U (jg_H G) ∧ vx_Zq Bundle.tN "SUPPRESSED_SENTINEL" Bundle.listD (jt_A G) U (jg_H G)
def jl (G : JG) (ls : Array Slot) (nL : Nat) (L : JL) : Prop := ls.size = nL ∧ lv_wf ls ∧ L.length = nL ∧ ∀ (i : Nat) (v : Value), L[i]? = some (some v) → ls[i]? = some (.val (jv G v))
section JW
variable {G : JG} {p : Program} {e : Env} {R : Room} {s : State} {m : MethodId} {args : Array Value} {below : List Frame} {meth : Method} {c : Code} {cc : ByteArray} {n0 w0 nE wE nL own : Nat} {ini : Bool} {Q : State → Prop}
/-- from this place with this state the method comes to its end -/
def JK (G : JG) (p : Program) (e : Env) (R : Room) (s : State) (m : MethodId) (args : Array Value) (below : List Frame) (meth : Method) (c : Code) (nL n0 w0 nE wE : Nat) (Q : State → Prop) (pc : Nat) (S : JS) : Prop :=
  jh_n S.2.2 ≤ nE ∧ jh_w S.2.2 ≤ wE ∧ ∀ (H : Heap) (locs : List Loc) (ls : Array Slot), n0 ≤ jh_n S.2.2 → w0 ≤ jh_w S.2.2 → jm G S.2.2 s H → (∀ q ∈ locs, jg_sz G ≤ q.base) → jl G ls nL S.1 →
    W p (jg_l G) e R s m args below meth c H locs (jh_n S.2.2 - n0) (jh_w S.2.2 - w0) Q (F0 m pc ls (S.2.1.map (jv G)))
/-- what stays the same along a method -/
def JX (G : JG) (p : Program) (R : Room) (s : State) (m : MethodId) (meth : Method) (c : Code) (cc : ByteArray) (nL n0 w0 nE wE own : Nat) (ini : Bool) : Prop :=
  p.tables.exec = Jvm.exec ∧ c.code = cc ∧ c.maxLocals = nL ∧ s.vm.findClass (jt_own.getD own "") = some m.cls ∧ JGl G s ∧ R.cells = nE - n0 ∧ R.slots = wE - w0 ∧ (ini = true → meth.name = "<init>")
theorem jx_word {w : Cond} (h : JGl G s) (hw : w ∈ lw_tbl) (hg : jt_gw w = true) (ht : w.onTables = true) : w.before args s = true := va_Nw.use ht (h.1 w hw hg)
theorem jk_st {pc pc' : Nat} {L : JL} {st st' : List Value} {σ : JH}
    (h : ∀ (H : Heap) (locs : List Loc) (ls : Array Slot) (cells slots : Nat), jl G ls nL L → jm G σ s H → W p (jg_l G) e R s m args below meth c H locs cells slots Q (F0 m pc' ls (st'.map (jv G))) → W p (jg_l G) e R s m args below meth c H locs cells slots Q (F0 m pc ls (st.map (jv G))))
    (k : JK G p e R s m args below meth c nL n0 w0 nE wE Q pc' (L, st', σ)) : JK G p e R s m args below meth c nL n0 w0 nE wE Q pc (L, st, σ) :=
  ⟨k.1, k.2.1, fun H locs ls h1 h2 h3 h4 h5 => h H locs ls _ _ h5 h3 (k.2.2 H locs ls h1 h2 h3 h4 h5)⟩
theorem jk_lo {pc pc' : Nat} {L L' : JL} {st st' : List Value} {σ : JH}
    (h : ∀ (H : Heap) (locs : List Loc) (ls : Array Slot) (cells slots : Nat), jl G ls nL L → (∀ ls', jl G ls' nL L' → W p (jg_l G) e R s m args below meth c H locs cells slots Q (F0 m pc' ls' (st'.map (jv G)))) → W p (jg_l G) e R s m args below meth c H locs cells slots Q (F0 m pc ls (st.map (jv G))))
    (k : JK G p e R s m args below meth c nL n0 w0 nE wE Q pc' (L', st', σ)) : JK G p e R s m args below meth c nL n0 w0 nE wE Q pc (L, st, σ) :=
  ⟨k.1, k.2.1, fun H locs ls h1 h2 h3 h4 h5 => h H locs ls _ _ h5 (fun ls' h => k.2.2 H locs ls' h1 h2 h3 h4 h)⟩
/-- a write: the shapes stay -/
theorem jk_wr {pc pc' : Nat} {L : JL} {st st' : List Value} {σ σ' : JH} (hs : σ'.1 = σ.1)
    (h : ∀ (H : Heap) (locs : List Loc) (ls : Array Slot) (cells slots : Nat), jm G σ s H → (∀ q ∈ locs, jg_sz G ≤ q.base) → (∀ (H' : Heap) (locs' : List Loc), jm G σ' s H' → (∀ q ∈ locs', jg_sz G ≤ q.base) → W p (jg_l G) e R s m args below meth c H' locs' cells slots Q (F0 m pc' ls (st'.map (jv G)))) → W p (jg_l G) e R s m args below meth c H locs cells slots Q (F0 m pc ls (st.map (jv G))))
    (k : JK G p e R s m args below meth c nL n0 w0 nE wE Q pc' (L, st', σ')) : JK G p e R s m args below meth c nL n0 w0 nE wE Q pc (L, st, σ) := by
  have hn : jh_n σ' = jh_n σ := by unfold jh_n; rw [hs]
  have hw : jh_w σ' = jh_w σ := by unfold jh_w; rw [hs]
  obtain ⟨k1, k2, k3⟩ := k
  refine ⟨hn ▸ k1, hw ▸ k2, fun H locs ls h1 h2 h3 h4 h5 => h H locs ls _ _ h3 h4 fun H' locs' g1 g2 => ?_⟩
  have := k3 H' locs' ls (by rw [hn]; exact h1) (by rw [hw]; exact h2) g1 g2 h5
  rwa [hn, hw] at this
/-- locals -/
theorem jl_at {ls : Array Slot} {L : JL} {i : Nat} {v : Value} (h : jl G ls nL L) (hi : L[i]? = some (some v)) : ls[i]? = some (.val (jv G v)) := h.2.2.2 i v hi
def jl_prs (G : JG) (L : JL) : List (Nat × Value) := (List.range L.length).filterMap (fun i => match L[i]? with
  | some (some v) => some (i, jv G v)
  | _ => none)
theorem jl_mem {L : JL} {q : Nat × Value} : q ∈ jl_prs G L ↔ ∃ v, L[q.1]? = some (some v) ∧ q.2 = jv G v := by
  unfold jl_prs
  rw [List.mem_filterMap]
  constructor
  · rintro ⟨i, hi, h⟩
    revert h
    split
    · rename_i v hv
      rintro ⟨⟩
      exact ⟨v, hv, rfl⟩
    · intro h; cases h
  · rintro ⟨v, h1, h2⟩
    refine ⟨q.1, List.mem_range.mpr (List.getElem?_eq_some_iff.mp h1).1, ?_⟩
    rw [h1]
    show some (q.1, jv G v) = some q
    rw [← h2]
theorem jl_has {ls : Array Slot} {L : JL} (h : jl G ls nL L) : lv_has ls nL (jl_prs G L) := ⟨h.1, h.2.1, fun q hq => by
  obtain ⟨v, h1, h2⟩ := jl_mem.mp hq
  rw [h2]
  exact h.2.2.2 _ _ h1⟩
theorem jv_cat (v : Value) : (jv G v).category = v.category := by cases v <;> rfl
theorem jl_clr_len (L : JL) (i : Nat) : (jl_clr L i).length = L.length := by
  unfold jl_clr
  split
  · rfl
  · split
    · split
      · exact List.length_set
      · rfl
    · rfl
theorem jl_clr_at {L : JL} {i j : Nat} {v : Value} (h : (jl_clr L i)[j]? = some (some v)) : L[j]? = some (some v) ∧ ¬ (j + 1 = i ∧ v.category = 2) := by
  unfold jl_clr at h
  cases i with
  | zero => exact ⟨h, fun q => by omega⟩
  | succ k =>
    simp only at h
    split at h
    · rename_i w hw
      split at h
      · rename_i hc
        by_cases hk : k = j
        · subst hk
          rw [List.getElem?_set_self' , hw] at h
          cases h
        · rw [List.getElem?_set_ne hk] at h
          exact ⟨h, fun q => hk (by omega)⟩
      · rename_i hc
        refine ⟨h, fun q => ?_⟩
        obtain ⟨q1, q2⟩ := q
        have : j = k := by omega
        subst this
        rw [hw] at h
        cases h
        exact hc q2
    · rename_i hn
      refine ⟨h, fun q => ?_⟩
      have : j = k := by omega
      subst this
      exact hn v h
theorem jl_set_ok {ls' : Array Slot} {L : JL} {i : Nat} {v : Value} (hlen : L.length = nL) (h : lv_has ls' nL ((i, jv G v) :: (jl_prs G L).filter (fun q => !(q.1 == i) && !(q.1 + 1 == i && q.2.category == 2)))) : jl G ls' nL (jl_set L i v) := by
  refine ⟨h.1, h.2.1, by unfold jl_set; rw [List.length_set, jl_clr_len]; exact hlen, fun j w hj => ?_⟩
  unfold jl_set at hj
  by_cases hij : i = j
  · subst hij
    rw [List.getElem?_set_self'] at hj
    cases hq : (jl_clr L i)[i]? with
    | none => rw [hq] at hj; cases hj
    | some z =>
      rw [hq] at hj
      cases hj
      exact h.2.2 (i, jv G v) List.mem_cons_self
  · rw [List.getElem?_set_ne hij] at hj
    obtain ⟨h1, h2⟩ := jl_clr_at hj
    refine h.2.2 (j, jv G w) (List.mem_cons_of_mem _ (List.mem_filter.mpr ⟨jl_mem.mpr ⟨w, h1, rfl⟩, ?_⟩))
    simp only [jv_cat, Bool.and_eq_true, Bool.not_eq_true', beq_eq_false_iff_ne, Bool.and_eq_false_iff, ne_eq]
    refine ⟨fun q => hij q.symm, ?_⟩
    by_cases q : j + 1 = i
    · exact Or.inr fun z => h2 ⟨q, z⟩
    · exact Or.inl q
theorem jl_set2_ok {ls' : Array Slot} {L : JL} {i : Nat} {v : Value} (hlen : L.length = nL) (h : lv_has ls' nL ((i, jv G v) :: (jl_prs G L).filter (fun q => !(q.1 == i) && (!(q.1 == i + 1) && !(q.1 + 1 == i && q.2.category == 2))))) : jl G ls' nL (jl_set2 L i v) := by
  refine ⟨h.1, h.2.1, by unfold jl_set2; rw [List.length_set, List.length_set, jl_clr_len]; exact hlen, fun j w hj => ?_⟩
  unfold jl_set2 at hj
  by_cases hij1 : i + 1 = j
  · subst hij1
    rw [List.getElem?_set_self'] at hj
    revert hj
    cases hz : ((jl_clr L i).set i (some v))[i + 1]? <;> intro hj <;> cases hj
  · rw [List.getElem?_set_ne hij1] at hj
    by_cases hij : i = j
    · subst hij
      rw [List.getElem?_set_self'] at hj
      cases hq : (jl_clr L i)[i]? with
      | none => rw [hq] at hj; cases hj
      | some z =>
        rw [hq] at hj
        cases hj
        exact h.2.2 (i, jv G v) List.mem_cons_self
    · rw [List.getElem?_set_ne hij] at hj
      obtain ⟨h1, h2⟩ := jl_clr_at hj
      refine h.2.2 (j, jv G w) (List.mem_cons_of_mem _ (List.mem_filter.mpr ⟨jl_mem.mpr ⟨w, h1, rfl⟩, ?_⟩))
      simp only [jv_cat, Bool.and_eq_true, Bool.not_eq_true', beq_eq_false_iff_ne, Bool.and_eq_false_iff, ne_eq]
      refine ⟨fun q => hij q.symm, fun q => hij1 q.symm, ?_⟩
      by_cases q : j + 1 = i
      · exact Or.inr fun z => h2 ⟨q, z⟩
      · exact Or.inl q
end JW

/-! ===== the start: constants, classes, the script ===== -/
def jw_nm : List String := ["PERSON", "NEW", "PRICE", "RING", "BEEN", "BAR", "OFTEN", "COSTS", "TURN", "ROUND", "FETCH", "PLAIN", "ILL", "SHY", "CAT", "NOT", "AND", "OR", "WRONG", "TURNS", "MET", "OTHER"]
def jw_let : List Int64 := [232608281, 10364, 8863997, 361240, 43160, 1503, 8104442, 1903978, 409469, 9876874, 3301730, 8740238, 6897, 14092, 2234, 10631, 1111, 423, 12588757, 11055682, 9632, 0]
def jw_res : List Int32 := [1, 1, 1, 1, 1, 1, 1, 1, 1, 1, 1, 1, 1, 1, 1, 1, 1, 1, 0, 0, 0, 0]
def jw_sm : List Int32 := [1, 2, 0, 3, 4, 5, 6, 7, 12, 13, 14, 8, 9, 10, 11, 0, 0, 0, 15, 16, 17, 0]
def jw_sg : List Int32 := [40, 41, 60, 61, 43, 45, 42, 59]
def js_sh (L : Nat) : List (Nat × Nat) := List.replicate 22 (50, 3) ++ ([(200, 22), (201, 22), (200, L), (51, 2), (99, 0), (99, 0), (202, 8)] ++ List.replicate 35 (99, 0))
def js_I (xs : Nat → Int32) : Nat → Nat → Int32 := fun a j => if a < 22 then (if j = 0 then nI a else if j = 2 then jw_res.getD a 0 else 0) else if a = 22 then jw_sm.getD j 0 else if a = 24 then xs j else if a = 28 then jw_sg.getD j 0 else 0
def js_J : Nat → Nat → Int64 := fun a j => if a < 22 ∧ j = 1 then jw_let.getD a 0 else 0
def js_R : Nat → Nat → Option Nat := fun a j => if a = 23 then some j else if a = 25 ∧ j = 1 then some 28 else none
/-- the small machine's heap at the law's begin -/
def js_0 (L : Nat) (xs : Nat → Int32) : JH := (js_sh L, js_I xs, js_J, js_R)
abbrev jn_F : List Cond := flatC (Jvm.Cond.and given_1 narrow_1)
abbrev jn_W (i : Nat) : Term := .static "CellarTurns$Word" (jw_nm.getD i "") "LCellarTurns$Word;"
abbrev jn_M : Term := .static "CellarTurns$1" "$SwitchMap$CellarTurns$Word" "[I"
abbrev jn_L : Term := .static "CellarTurns$Word" "ALL" "[LCellarTurns$Word;"
abbrev jn_S : Term := .string "CellarTurns$Tape" 80
abbrev jn_V : Term := .field jn_S "java/lang/String" "value" "[B"
theorem jn_w1 : ∀ i, i < 22 → Cond.exactly (jn_W i) "CellarTurns$Word" ∈ jn_F := by decide +kernel
theorem jn_w2 : ∀ i, i < 22 → Cond.eq (.field (jn_W i) "java/lang/Enum" "ordinal" "I") (.int (nI i)) ∈ jn_F := by decide +kernel
theorem jn_w3 : ∀ i, i < 22 → Cond.eq (.field (jn_W i) "CellarTurns$Word" "letters" "J") (.long (jw_let.getD i 0)) ∈ jn_F := by decide +kernel
theorem jn_w4 : ∀ i, i < 22 → Cond.eq (.field (jn_W i) "CellarTurns$Word" "reserved" "Z") (.int (jw_res.getD i 0)) ∈ jn_F := by decide +kernel
theorem jn_w5 : ∀ i, i < 22 → Cond.laysStatic "CellarTurns$Word" (jw_nm.getD i "") "LCellarTurns$Word;" ∈ lw_tbl := by decide +kernel
theorem jn_ne : ∀ i, i < 22 → ∀ j, j < 22 → i ≠ j → Cond.not (.eq (jn_W i) (jn_W j)) ∈ jn_F ∨ Cond.not (.eq (jn_W j) (jn_W i)) ∈ jn_F := by decide +kernel
theorem jn_m : Cond.arrayOf jn_M .int ∈ jn_F ∧ Cond.eq (.length jn_M) (.int (Int32.ofNat 22)) ∈ jn_F ∧ ∀ j, j < 22 → Cond.eq (.elem jn_M (.int (Int32.ofNat j))) (.int (jw_sm.getD j 0)) ∈ jn_F := by decide +kernel
theorem jn_l : Cond.arrayOf jn_L (.object "CellarTurns$Word") ∈ jn_F ∧ Cond.eq (.length jn_L) (.int (Int32.ofNat 22)) ∈ jn_F ∧ ∀ j, j < 22 → Cond.eq (.elem jn_L (.int (Int32.ofNat j))) (jn_W j) ∈ jn_F := by decide +kernel
theorem jn_s : Cond.exactly jn_S "java/lang/String" ∈ jn_F ∧ Cond.eq (.field jn_S "java/lang/String" "coder" "B") (.int 0) ∈ jn_F ∧ Cond.arrayOf jn_V .byte ∈ jn_F ∧ Cond.eq (.length jn_V) (.int (Int32.ofNat 8)) ∈ jn_F ∧ ∀ j, j < 8 → Cond.eq (.elem jn_V (.int (Int32.ofNat j))) (.int (jw_sg.getD j 0)) ∈ jn_F := by decide +kernel
theorem jn_t : Cond.exactly (.string "CellarTurns" 272) "java/lang/String" ∈ jn_F ∧ Cond.exactly (.string "CellarTurns" 277) "java/lang/String" ∈ jn_F ∧ Cond.eq (.static "java/lang/String" "COMPACT_STRINGS" "Z") (.int 1) ∈ jn_F ∧ Cond.isRef (.static Bundle.tN "UNASSIGNED_STACK" Bundle.steD) ∈ jn_F ∧ Cond.isRef (.static Bundle.tN "SUPPRESSED_SENTINEL" Bundle.listD) ∈ jn_F := by decide +kernel
theorem jn_b : Cond.laysStatic "CellarTurns$Word" "ALL" "[LCellarTurns$Word;" ∈ lw_tbl ∧ Cond.laysStatic "CellarTurns$1" "$SwitchMap$CellarTurns$Word" "[I" ∈ lw_tbl ∧ Cond.laysStatic "java/lang/String" "COMPACT_STRINGS" "Z" ∈ lw_tbl ∧ Cond.laysStatic Bundle.tN "UNASSIGNED_STACK" Bundle.steD ∈ lw_tbl ∧ Cond.laysStatic Bundle.tN "SUPPRESSED_SENTINEL" Bundle.listD ∈ lw_tbl ∧ Cond.initialized "CellarTurns$Word" ∈ lw_tbl ∧ Cond.initialized "CellarTurns$1" ∈ lw_tbl ∧ Cond.initialized "java/lang/String" ∈ lw_tbl ∧ Cond.initialized Bundle.tN ∈ lw_tbl ∧ Cond.arrayOver (.object "CellarTurns$Muddle") ∈ lw_tbl := by decide +kernel
theorem jn_r : ∀ q ∈ jt_str, Cond.stringRef q.1 q.2.1 q.2.2.1 ∈ lw_tbl := by decide +kernel
theorem jS_args {own tx : String} {k : Nat} {A A' : Array Value} {s : State} (h : (Cond.stringRef own k tx).before A s = true) : (Cond.stringRef own k tx).before A' s = true := h
theorem jS_ev {own : String} {k a : Nat} {A A' : Array Value} {s : State} (h : (Term.string own k).eval A s none [] s = some (.ref a)) : (Term.string own k).eval A' s none [] s = some (.ref a) := h
theorem jT_congr {ty : FieldType} {t N : Nat} {f g : Nat → Value} {A : Nat → Prop} {U : State} {H : Heap} (h : va_T ty t N f A U H) (hfg : ∀ j, j < N → f j = g j) : va_T ty t N g A U H := by
  obtain ⟨cell, h1, h2, h3, h4, h5, h6, h7⟩ := h
  exact ⟨cell, h1, h2, h3, h4, h5, fun j hj => by rw [← hfg j hj]; exact h6 j hj, h7⟩
theorem jA_of {s : State} {args : Array Value} {ty : FieldType} (h : (Cond.arrayClass ty).before args s = true) : ∃ cA, ArrOfT s cA ty ∧ s.vm.findClass ("[" ++ ty.toString) = some cA := by
  obtain ⟨c, k, comp, h1, h2, h3⟩ := Cond.arrayClass_spec h
  exact ⟨c, fun n z => ⟨fun k h => (by cases h), k, h2, comp, h3⟩, h1⟩
theorem jt_cls_lt {c : Nat} {q : vw_C} (h : jt_cls[c]? = some q) : c < 12 ∧ q = (jt_C c, jt_T c, jt_N c) := by
  have hc : c < 12 := by
    have h1 := (List.getElem?_eq_some_iff.mp h).1
    have h2 : jt_cls.length = 12 := by unfold jt_cls; rw [List.length_map, List.length_range]
    omega
  rw [jt_cls_at hc] at h
  exact ⟨hc, (Option.some.inj h).symm⟩
set_option maxHeartbeats 1000000 in
theorem js_start (l : Launch) {p : Program} {s : State} {m : MethodId} {meth : Method} {c : Code} {b L : Nat} {xs : Nat → Int32} (hL : L < 2 ^ 31) (C0 : lw_At p s m meth c b L xs) : ∃ G : JG, jg_l G = l ∧ jg_sz G = s.heap.size ∧ jg_H G = s.heap ∧ jg_sa G 24 = b ∧ JGl G s ∧ jm G (js_0 L xs) s s.heap := by
  obtain ⟨hx, hb, hr, hml, hown, hts, hX, hbl, hlk, hgv⟩ := C0
  have hs : ∀ w ∈ jn_F, w.before #[Value.ref b] s = true := flat_of_before _ hgv
  have hA : ∀ a : Nat, a < s.heap.size → ¬ (fun q : Nat => s.heap.size ≤ q) a := fun a h q => Nat.lt_irrefl _ (Nat.lt_of_lt_of_le h q)
  have hw : ∀ i : Nat, ∃ a : Nat, i < 22 → (jn_W i).eval #[Value.ref b] s none [] s = some (.ref a) ∧ va_O "CellarTurns$Word" a (fun q : Nat => s.heap.size ≤ q) s s.heap := by
    intro i
    by_cases hi : i < 22
    · obtain ⟨a, _, _, _, q1, -⟩ := Cond.exactly_spec (args := #[Value.ref b]) (first := s) (o := none) (s := s) (idx := []) (t := jn_W i) (cls := "CellarTurns$Word") (hs _ (jn_w1 i hi))
      exact ⟨a, fun _ => ⟨q1, va_Oof (hs _ (jn_w1 i hi)) q1 hA⟩⟩
    · exact ⟨0, fun h => absurd h hi⟩
  obtain ⟨ad, had⟩ := Classical.axiomOfChoice hw
  obtain ⟨t22, e22, T22⟩ := va_Tof (f := fun j => .int (jw_sm.getD j 0)) (N := 22) (by decide) (hs _ jn_m.1) (va_eqt (hs _ jn_m.2.1)) (fun j hj => va_eqt (hs _ (jn_m.2.2 j hj))) hA
  obtain ⟨t23, e23, T23⟩ := va_Tof (f := fun j => .ref (ad j)) (N := 22) (by decide) (hs _ jn_l.1) (va_eqt (hs _ jn_l.2.1)) (fun j hj => va_eqv (hs _ (jn_l.2.2 j hj)) (had j hj).1) hA
  obtain ⟨a25, _, _, _, e25, -⟩ := Cond.exactly_spec (args := #[Value.ref b]) (first := s) (o := none) (s := s) (idx := []) (t := jn_S) (cls := "java/lang/String") (hs _ jn_s.1)
  have O25 := va_Oof (hs _ jn_s.1) e25 hA
  obtain ⟨a28, e28, T28⟩ := va_Tof (f := fun j => .int (jw_sg.getD j 0)) (N := 8) (by decide) (hs _ jn_s.2.2.1) (va_eqt (hs _ jn_s.2.2.2.1)) (fun j hj => va_eqt (hs _ (jn_s.2.2.2.2 j hj))) hA
  obtain ⟨a26, _, _, _, e26, -⟩ := Cond.exactly_spec (args := #[Value.ref b]) (first := s) (o := none) (s := s) (idx := []) (t := .string "CellarTurns" 272) (cls := "java/lang/String") (hs _ jn_t.1)
  obtain ⟨a27, _, _, _, e27, -⟩ := Cond.exactly_spec (args := #[Value.ref b]) (first := s) (o := none) (s := s) (idx := []) (t := .string "CellarTurns" 277) (cls := "java/lang/String") (hs _ jn_t.2.1)
  have hK : ∀ ci : Nat, ∃ q : ClassId × (Nat → Nat), ci < 12 → u_Kn s (jt_C ci) (jt_T ci) (jt_N ci) q.1 q.2 := by
    intro ci
    by_cases hci : ci < 12
    · obtain ⟨cC, iS, h⟩ := u_known hts (jt_lay_in hci) (hts _ (List.mem_of_getElem? (jt_ix_ok ci hci).1))
      exact ⟨(cC, iS), fun _ => h⟩
    · exact ⟨(0, fun _ => 0), fun h => absurd h hci⟩
  obtain ⟨dq, hdq⟩ := Classical.axiomOfChoice hK
  obtain ⟨cI, AI, NI⟩ := jA_of (hts _ (jt_arrs .int (by decide)))
  obtain ⟨cJ, AJ, NJ⟩ := jA_of (hts _ (jt_arrs .long (by decide)))
  obtain ⟨cB, AB, NB⟩ := jA_of (hts _ (jt_arrs .byte (by decide)))
  obtain ⟨cZ, AZ, NZ⟩ := jA_of (hts _ (jt_arrs .boolean (by decide)))
  have hover := hts _ jn_b.2.2.2.2.2.2.2.2.2
  obtain ⟨comp, cM, kM, m1, -, m2, m3, m4⟩ := Cond.arrayOver_spec hover
  have AM : ArrOfT s cM (.object "CellarTurns$Muddle") := fun n z => ⟨fun k h => (by cases h), kM, m2, comp, m3⟩
  let sa : Nat → Nat := fun i => if i < 22 then ad i else if i = 22 then t22 else if i = 23 then t23 else if i = 24 then b else if i = 25 then a25 else if i = 26 then a26 else if i = 27 then a27 else a28
  have s0 : ∀ i, i < 22 → sa i = ad i := fun i h => if_pos h
  have hZ0 : ∀ i, i < 22 → va_Z "CellarTurns$Word" (jw_nm.getD i "") "LCellarTurns$Word;" (.ref (sa i)) (fun q : Nat => s.heap.size ≤ q) s s.heap := fun i hi => by
    rw [s0 i hi]
    exact va_Zof (hts _ (jn_w5 i hi)) (hts _ jn_b.2.2.2.2.2.1) (had i hi).1 hA
  refine ⟨(l, s.heap.size, s.heap, sa, (fun ci => (dq ci).1, fun ci => (dq ci).2), fun t => if t = 101 then cJ else if t = 102 then cB else if t = 103 then cZ else if t = 104 then cM else cI), rfl, rfl, rfl, rfl, ⟨?_, ?_, ?_, ?_, ?_, ?_, ?_, ?_, ?_, ?_⟩, ?_⟩
  · intro w hw' hg
    have h1 := hts w hw'
    by_cases ht : w.onTables = true
    · exact va_tabs ht rfl h1
    · cases w <;> first | exact h1 | (exact absurd rfl ht) | (cases hg)
  · refine ⟨fun c' q hq => ?_, fun k q hk => by cases hk⟩
    obtain ⟨hc, rfl⟩ := jt_cls_lt hq
    exact hdq c' hc
  · intro t h1 h2
    rcases (show t = 100 ∨ t = 101 ∨ t = 102 ∨ t = 103 ∨ t = 104 by omega) with rfl | rfl | rfl | rfl | rfl
    · exact ⟨AI, NI⟩
    · exact ⟨AJ, NJ⟩
    · exact ⟨AB, NB⟩
    · exact ⟨AZ, NZ⟩
    · exact ⟨AM, kM, comp, m2, m3, m1, m4⟩
  · exact va_AO.of hover
  · intro q hq
    simp only [jt_sts, List.mem_cons, List.not_mem_nil, or_false] at hq
    rcases hq with rfl | rfl | rfl | rfl | rfl | rfl | rfl
    · exact hZ0 21 (by decide)
    · exact va_Zof (hts _ jn_b.1) (hts _ jn_b.2.2.2.2.2.1) e23 hA
    · exact va_Zof (hts _ jn_b.2.1) (hts _ jn_b.2.2.2.2.2.2.1) e22 hA
    · exact hZ0 2 (by decide)
    · exact hZ0 15 (by decide)
    · exact hZ0 16 (by decide)
    · exact hZ0 17 (by decide)
  · intro i j hi hj e
    have e : ad i = ad j := (s0 i hi).symm.trans (e.trans (s0 j hj))
    by_cases hij : i = j
    · exact hij
    · rcases jn_ne i hi j hj hij with h | h
      · exact absurd e (va_neR (hs _ h) (had i hi).1 (had j hj).1)
      · exact absurd e.symm (va_neR (hs _ h) (had j hj).1 (had i hi).1)
  · exact va_Zof (hts _ jn_b.2.2.1) (hts _ jn_b.2.2.2.2.2.2.2.1) (va_eqi (hs _ jn_t.2.2.1)) hA
  · intro q hq
    have hq' := jn_r q hq
    simp only [jt_str, List.mem_cons, List.not_mem_nil, or_false] at hq
    rcases hq with rfl | rfl | rfl
    · exact vk_R.of (A := #[]) (jS_args (hts _ hq')) (jS_ev e25)
    · exact vk_R.of (A := #[]) (jS_args (hts _ hq')) (jS_ev e26)
    · exact vk_R.of (A := #[]) (jS_args (hts _ hq')) (jS_ev e27)
  · exact vx_Zqof (hts _ jn_b.2.2.2.1) (hts _ jn_b.2.2.2.2.2.2.2.2.1) (hs _ jn_t.2.2.2.1) hA
  · exact vx_Zqof (hts _ jn_b.2.2.2.2.1) (hts _ jn_b.2.2.2.2.2.2.2.2.1) (hs _ jn_t.2.2.2.2) hA
  · refine ⟨fun _ => by show s.heap.size + 64 = s.heap.size + jh_n (js_0 L xs); rfl, ⟨by show 64 ≤ jh_n (js_0 L xs); exact Nat.le_refl _, Nat.le_refl _⟩, fun q _ => rfl, fun i t n hi hx => ?_, ?_, rfl⟩
    · have : i < (js_sh L).length := (List.getElem?_eq_some_iff.mp hx).1
      have h64 : (js_sh L).length = 64 := rfl
      omega
    · intro i t n hi hx
      have hx : (js_sh L)[i]? = some (t, n) := hx
      unfold js_sh at hx
      by_cases h22 : i < 22
      · rw [List.getElem?_append_left (by rw [List.length_replicate]; exact h22), List.getElem?_replicate, if_pos h22] at hx
        cases hx
        refine ⟨Or.inl rfl, fun _ => ?_, fun h => absurd h (by decide), fun h => absurd h (by decide), fun h => absurd h (by decide), fun h => absurd h (by decide)⟩
        have hsa : jg_sa (l, s.heap.size, s.heap, sa, ((fun ci => (dq ci).1, fun ci => (dq ci).2) : va_G), fun t => if t = 101 then cJ else if t = 102 then cB else if t = 103 then cZ else if t = 104 then cM else cI) i = ad i := s0 i h22
        rw [hsa]
        have I0 : (js_0 L xs).2.1 i 0 = nI i := by show (if i < 22 then _ else _) = _; rw [if_pos h22]; rfl
        have I2 : (js_0 L xs).2.1 i 2 = jw_res.getD i 0 := by show (if i < 22 then _ else _) = _; rw [if_pos h22]; rfl
        have J1 : (js_0 L xs).2.2.1 i 1 = jw_let.getD i 0 := by show (if i < 22 ∧ 1 = 1 then _ else _) = _; rw [if_pos ⟨h22, rfl⟩]
        rw [I0, I2, J1]
        exact ⟨(had i h22).2, vk_OFof (had i h22).1 (va_eqt (hs _ (jn_w2 i h22))) hA, vk_OFof (had i h22).1 (va_eqtl (hs _ (jn_w3 i h22))) hA, vk_OFof (had i h22).1 (va_eqt (hs _ (jn_w4 i h22))) hA⟩
      · rw [List.getElem?_append_right (by rw [List.length_replicate]; omega), List.length_replicate] at hx
        rcases (show i = 22 ∨ i = 23 ∨ i = 24 ∨ i = 25 ∨ i = 26 ∨ i = 27 ∨ i = 28 ∨ 29 ≤ i by omega) with rfl | rfl | rfl | rfl | rfl | rfl | rfl | h29
        · cases hx
          exact ⟨by decide, fun h => absurd h (by decide), fun _ => T22, fun h => absurd h (by decide), fun h => absurd h (by decide), fun h => absurd h (by decide)⟩
        · cases hx
          refine ⟨by decide, fun h => absurd h (by decide), fun h => absurd h (by decide), fun _ => ?_, fun h => absurd h (by decide), fun h => absurd h (by decide)⟩
          refine jT_congr T23 (fun j hj => ?_)
          show Value.ref (ad j) = Value.ref (jr _ j)
          unfold jr
          rw [if_pos (by omega)]
          exact congrArg Value.ref (s0 j hj).symm
        · cases hx
          refine ⟨by decide, fun h => absurd h (by decide), fun _ => ?_, fun h => absurd h (by decide), fun h => absurd h (by decide), fun h => absurd h (by decide)⟩
          obtain ⟨scr, x1, x2, x3, x4, x5⟩ := hX
          exact ⟨scr, x1, x2, x3, by rw [x4]; exact Nat.le_refl _, by rw [x4]; rfl, x5, hA _ hbl⟩
        · cases hx
          refine ⟨by decide, fun h => absurd h (by decide), fun h => absurd h (by decide), fun h => absurd h (by decide), fun h => absurd h (by decide), fun _ => ⟨O25, vk_OFof e25 (va_eqt (hs _ jn_s.2.1)) hA, ?_⟩⟩
          exact vk_OFof e25 e28 hA
        · cases hx
          exact ⟨by decide, fun h => absurd h (by decide), fun h => absurd h (by decide), fun h => absurd h (by decide), fun h => absurd h (by decide), fun h => absurd h (by decide)⟩
        · cases hx
          exact ⟨by decide, fun h => absurd h (by decide), fun h => absurd h (by decide), fun h => absurd h (by decide), fun h => absurd h (by decide), fun h => absurd h (by decide)⟩
        · cases hx
          exact ⟨by decide, fun h => absurd h (by decide), fun h => absurd h (by decide), fun h => absurd h (by decide), fun _ => T28, fun h => absurd h (by decide)⟩
        · rw [List.getElem?_append_right (by show 7 ≤ _; omega)] at hx
          have hx9 := List.getElem?_eq_some_iff.mp hx
          obtain ⟨hlt, hx9⟩ := hx9
          rw [List.getElem_replicate] at hx9
          cases hx9
          exact ⟨by decide, fun h => absurd h (by decide), fun h => absurd h (by decide), fun h => absurd h (by decide), fun h => absurd h (by decide), fun h => absurd h (by decide)⟩

/-! ===== the start: constants, classes, the script ===== -/
def jw_nm : List String := ["PERSON", "NEW", "PRICE", "RING", "BEEN", "BAR", "OFTEN", "COSTS", "TURN", "ROUND", "FETCH", "PLAIN", "ILL", "SHY", "CAT", "NOT", "AND", "OR", "WRONG", "TURNS", "MET", "OTHER"]
def jw_let : List Int64 := [232608281, 10364, 8863997, 361240, 43160, 1503, 8104442, 1903978, 409469, 9876874, 3301730, 8740238, 6897, 14092, 2234, 10631, 1111, 423, 12588757, 11055682, 9632, 0]
def jw_res : List Int32 := [1, 1, 1, 1, 1, 1, 1, 1, 1, 1, 1, 1, 1, 1, 1, 1, 1, 1, 0, 0, 0, 0]
def jw_sm : List Int32 := [1, 2, 0, 3, 4, 5, 6, 7, 12, 13, 14, 8, 9, 10, 11, 0, 0, 0, 15, 16, 17, 0]
def jw_sg : List Int32 := [40, 41, 60, 61, 43, 45, 42, 59]
def js_sh (L : Nat) : List (Nat × Nat) := List.replicate 22 (50, 3) ++ ([(200, 22), (201, 22), (200, L), (51, 2), (99, 0), (99, 0), (202, 8)] ++ List.replicate 35 (99, 0))
def js_I (xs : Nat → Int32) : Nat → Nat → Int32 := fun a j => if a < 22 then (if j = 0 then nI a else if j = 2 then jw_res.getD a 0 else 0) else if a = 22 then jw_sm.getD j 0 else if a = 24 then xs j else if a = 28 then jw_sg.getD j 0 else 0
def js_J : Nat → Nat → Int64 := fun a j => if a < 22 ∧ j = 1 then jw_let.getD a 0 else 0
def js_R : Nat → Nat → Option Nat := fun a j => if a = 23 then some j else if a = 25 ∧ j = 1 then some 28 else none
/-- the small machine's heap at the law's begin -/
def js_0 (L : Nat) (xs : Nat → Int32) : JH := (js_sh L, js_I xs, js_J, js_R)
abbrev jn_F : List Cond := flatC (Jvm.Cond.and given_1 narrow_1)
abbrev jn_W (i : Nat) : Term := .static "CellarTurns$Word" (jw_nm.getD i "") "LCellarTurns$Word;"
abbrev jn_M : Term := .static "CellarTurns$1" "$SwitchMap$CellarTurns$Word" "[I"
abbrev jn_L : Term := .static "CellarTurns$Word" "ALL" "[LCellarTurns$Word;"
abbrev jn_S : Term := .string "CellarTurns$Tape" 80
abbrev jn_V : Term := .field jn_S "java/lang/String" "value" "[B"
theorem jn_w1 : ∀ i, i < 22 → Cond.exactly (jn_W i) "CellarTurns$Word" ∈ jn_F := by decide +kernel
theorem jn_w2 : ∀ i, i < 22 → Cond.eq (.field (jn_W i) "java/lang/Enum" "ordinal" "I") (.int (nI i)) ∈ jn_F := by decide +kernel
theorem jn_w3 : ∀ i, i < 22 → Cond.eq (.field (jn_W i) "CellarTurns$Word" "letters" "J") (.long (jw_let.getD i 0)) ∈ jn_F := by decide +kernel
theorem jn_w4 : ∀ i, i < 22 → Cond.eq (.field (jn_W i) "CellarTurns$Word" "reserved" "Z") (.int (jw_res.getD i 0)) ∈ jn_F := by decide +kernel
theorem jn_w5 : ∀ i, i < 22 → Cond.laysStatic "CellarTurns$Word" (jw_nm.getD i "") "LCellarTurns$Word;" ∈ lw_tbl := by decide +kernel
def jn_np : List (Nat × Nat × Nat) := [(0, 1, 111), (2, 0, 98), (2, 1, 107), (0, 3, 121), (1, 3, 122), (2, 3, 117), (0, 4, 132), (1, 4, 133), (2, 4, 128), (3, 4, 134), (0, 5, 144), (1, 5, 145), (2, 5, 140), (3, 5, 146), (4, 5, 147), (0, 6, 157), (1, 6, 158), (2, 6, 153), (3, 6, 159), (4, 6, 160), (5, 6, 161), (0, 7, 171), (1, 7, 172), (2, 7, 167), (3, 7, 173), (4, 7, 174), (5, 7, 175), (6, 7, 176), (0, 8, 186), (1, 8, 187), (2, 8, 182), (3, 8, 188), (4, 8, 189), (5, 8, 190), (6, 8, 191), (7, 8, 192), (0, 9, 202), (1, 9, 203), (2, 9, 198), (3, 9, 204), (4, 9, 205), (5, 9, 206), (6, 9, 207), (7, 9, 208), (8, 9, 209), (0, 10, 219), (1, 10, 220), (2, 10, 215), (3, 10, 221), (4, 10, 222), (5, 10, 223), (6, 10, 224), (7, 10, 225), (8, 10, 226), (9, 10, 227), (0, 11, 237), (1, 11, 238), (2, 11, 233), (3, 11, 239), (4, 11, 240), (5, 11, 241), (6, 11, 242), (7, 11, 243), (8, 11, 244), (9, 11, 245), (10, 11, 246), (0, 12, 256), (1, 12, 257), (2, 12, 252), (3, 12, 258), (4, 12, 259), (5, 12, 260), (6, 12, 261), (7, 12, 262), (8, 12, 263), (9, 12, 264), (10, 12, 265), (11, 12, 266), (0, 13, 276), (1, 13, 277), (2, 13, 272), (3, 13, 278), (4, 13, 279), (5, 13, 280), (6, 13, 281), (7, 13, 282), (8, 13, 283), (9, 13, 284), (10, 13, 285), (11, 13, 286), (12, 13, 287), (0, 14, 297), (1, 14, 298), (2, 14, 293), (3, 14, 299), (4, 14, 300), (5, 14, 301), (6, 14, 302), (7, 14, 303), (8, 14, 304), (9, 14, 305), (10, 14, 306), (11, 14, 307), (12, 14, 308), (13, 14, 309), (15, 0, 99), (15, 1, 108), (2, 15, 75), (15, 3, 118), (15, 4, 129), (15, 5, 141), (15, 6, 154), (15, 7, 168), (15, 8, 183), (15, 9, 199), (15, 10, 216), (15, 11, 234), (15, 12, 253), (15, 13, 273), (15, 14, 294), (16, 0, 100), (16, 1, 109), (2, 16, 81), (16, 3, 119), (16, 4, 130), (16, 5, 142), (16, 6, 155), (16, 7, 169), (16, 8, 184), (16, 9, 200), (16, 10, 217), (16, 11, 235), (16, 12, 254), (16, 13, 274), (16, 14, 295), (15, 16, 82), (17, 0, 101), (17, 1, 110), (2, 17, 88), (17, 3, 120), (17, 4, 131), (17, 5, 143), (17, 6, 156), (17, 7, 170), (17, 8, 185), (17, 9, 201), (17, 10, 218), (17, 11, 236), (17, 12, 255), (17, 13, 275), (17, 14, 296), (15, 17, 89), (16, 17, 90), (0, 18, 319), (1, 18, 320), (2, 18, 315), (3, 18, 321), (4, 18, 322), (5, 18, 323), (6, 18, 324), (7, 18, 325), (8, 18, 326), (9, 18, 327), (10, 18, 328), (11, 18, 329), (12, 18, 330), (13, 18, 331), (14, 18, 332), (15, 18, 316), (16, 18, 317), (17, 18, 318), (0, 19, 342), (1, 19, 343), (2, 19, 338), (3, 19, 344), (4, 19, 345), (5, 19, 346), (6, 19, 347), (7, 19, 348), (8, 19, 349), (9, 19, 350), (10, 19, 351), (11, 19, 352), (12, 19, 353), (13, 19, 354), (14, 19, 355), (15, 19, 339), (16, 19, 340), (17, 19, 341), (18, 19, 356), (0, 20, 366), (1, 20, 367), (2, 20, 362), (3, 20, 368), (4, 20, 369), (5, 20, 370), (6, 20, 371), (7, 20, 372), (8, 20, 373), (9, 20, 374), (10, 20, 375), (11, 20, 376), (12, 20, 377), (13, 20, 378), (14, 20, 379), (15, 20, 363), (16, 20, 364), (17, 20, 365), (18, 20, 380), (19, 20, 381), (21, 0, 97), (21, 1, 106), (21, 2, 69), (21, 3, 116), (21, 4, 127), (21, 5, 139), (21, 6, 152), (21, 7, 166), (21, 8, 181), (21, 9, 197), (21, 10, 214), (21, 11, 232), (21, 12, 251), (21, 13, 271), (21, 14, 292), (21, 15, 74), (21, 16, 80), (21, 17, 87), (21, 18, 314), (21, 19, 337), (21, 20, 361)]
theorem jn_npok : ∀ q ∈ jn_np, jn_F[q.2.2]? = some (Cond.not (.eq (jn_W q.1) (jn_W q.2.1))) := by decide +kernel
theorem jn_npal : ∀ i, i < 22 → ∀ j, j < 22 → i = j ∨ ∃ q ∈ jn_np, (q.1 = i ∧ q.2.1 = j) ∨ (q.1 = j ∧ q.2.1 = i) := by decide +kernel
theorem jn_ne : ∀ i, i < 22 → ∀ j, j < 22 → i ≠ j → Cond.not (.eq (jn_W i) (jn_W j)) ∈ jn_F ∨ Cond.not (.eq (jn_W j) (jn_W i)) ∈ jn_F := by
  intro i hi j hj hij
  rcases jn_npal i hi j hj with h | ⟨q, hq, ⟨rfl, rfl⟩ | ⟨rfl, rfl⟩⟩
  · exact absurd h hij
  · exact Or.inl (List.mem_of_getElem? (jn_npok q hq))
  · exact Or.inr (List.mem_of_getElem? (jn_npok q hq))
theorem jn_m : Cond.arrayOf jn_M .int ∈ jn_F ∧ Cond.eq (.length jn_M) (.int (Int32.ofNat 22)) ∈ jn_F ∧ ∀ j, j < 22 → Cond.eq (.elem jn_M (.int (Int32.ofNat j))) (.int (jw_sm.getD j 0)) ∈ jn_F := by decide +kernel
theorem jn_l : Cond.arrayOf jn_L (.object "CellarTurns$Word") ∈ jn_F ∧ Cond.eq (.length jn_L) (.int (Int32.ofNat 22)) ∈ jn_F ∧ ∀ j, j < 22 → Cond.eq (.elem jn_L (.int (Int32.ofNat j))) (jn_W j) ∈ jn_F := by decide +kernel
theorem jn_s : Cond.exactly jn_S "java/lang/String" ∈ jn_F ∧ Cond.eq (.field jn_S "java/lang/String" "coder" "B") (.int 0) ∈ jn_F ∧ Cond.arrayOf jn_V .byte ∈ jn_F ∧ Cond.eq (.length jn_V) (.int (Int32.ofNat 8)) ∈ jn_F ∧ ∀ j, j < 8 → Cond.eq (.elem jn_V (.int (Int32.ofNat j))) (.int (jw_sg.getD j 0)) ∈ jn_F := by decide +kernel
theorem jn_t : Cond.exactly (.string "CellarTurns" 272) "java/lang/String" ∈ jn_F ∧ Cond.exactly (.string "CellarTurns" 277) "java/lang/String" ∈ jn_F ∧ Cond.eq (.static "java/lang/String" "COMPACT_STRINGS" "Z") (.int 1) ∈ jn_F ∧ Cond.isRef (.static Bundle.tN "UNASSIGNED_STACK" Bundle.steD) ∈ jn_F ∧ Cond.isRef (.static Bundle.tN "SUPPRESSED_SENTINEL" Bundle.listD) ∈ jn_F := by decide +kernel
theorem jn_b : Cond.laysStatic "CellarTurns$Word" "ALL" "[LCellarTurns$Word;" ∈ lw_tbl ∧ Cond.laysStatic "CellarTurns$1" "$SwitchMap$CellarTurns$Word" "[I" ∈ lw_tbl ∧ Cond.laysStatic "java/lang/String" "COMPACT_STRINGS" "Z" ∈ lw_tbl ∧ Cond.laysStatic Bundle.tN "UNASSIGNED_STACK" Bundle.steD ∈ lw_tbl ∧ Cond.laysStatic Bundle.tN "SUPPRESSED_SENTINEL" Bundle.listD ∈ lw_tbl ∧ Cond.initialized "CellarTurns$Word" ∈ lw_tbl ∧ Cond.initialized "CellarTurns$1" ∈ lw_tbl ∧ Cond.initialized "java/lang/String" ∈ lw_tbl ∧ Cond.initialized Bundle.tN ∈ lw_tbl ∧ Cond.arrayOver (.object "CellarTurns$Muddle") ∈ lw_tbl := by decide +kernel
theorem jn_r : ∀ q ∈ jt_str, Cond.stringRef q.1 q.2.1 q.2.2.1 ∈ lw_tbl := by decide +kernel
theorem jS_args {own tx : String} {k : Nat} {A A' : Array Value} {s : State} (h : (Cond.stringRef own k tx).before A s = true) : (Cond.stringRef own k tx).before A' s = true := h
theorem jS_ev {own : String} {k a : Nat} {A A' : Array Value} {s : State} (h : (Term.string own k).eval A s none [] s = some (.ref a)) : (Term.string own k).eval A' s none [] s = some (.ref a) := h
theorem jT_congr {ty : FieldType} {t N : Nat} {f g : Nat → Value} {A : Nat → Prop} {U : State} {H : Heap} (h : va_T ty t N f A U H) (hfg : ∀ j, j < N → f j = g j) : va_T ty t N g A U H := by
  obtain ⟨cell, h1, h2, h3, h4, h5, h6, h7⟩ := h
  exact ⟨cell, h1, h2, h3, h4, h5, fun j hj => by rw [← hfg j hj]; exact h6 j hj, h7⟩
theorem jA_of {s : State} {args : Array Value} {ty : FieldType} (h : (Cond.arrayClass ty).before args s = true) : ∃ cA, ArrOfT s cA ty ∧ s.vm.findClass ("[" ++ ty.toString) = some cA := by
  obtain ⟨c, k, comp, h1, h2, h3⟩ := Cond.arrayClass_spec h
  exact ⟨c, fun n z => ⟨fun k h => (by cases h), k, h2, comp, h3⟩, h1⟩
theorem jt_cls_lt {c : Nat} {q : vw_C} (h : jt_cls[c]? = some q) : c < 12 ∧ q = (jt_C c, jt_T c, jt_N c) := by
  have hc : c < 12 := by
    have h1 := (List.getElem?_eq_some_iff.mp h).1
    have h2 : jt_cls.length = 12 := by unfold jt_cls; rw [List.length_map, List.length_range]
    omega
  rw [jt_cls_at hc] at h
  exact ⟨hc, (Option.some.inj h).symm⟩
set_option maxHeartbeats 1000000 in
theorem js_start (l : Launch) {p : Program} {s : State} {m : MethodId} {meth : Method} {c : Code} {b L : Nat} {xs : Nat → Int32} (hL : L < 2 ^ 31) (C0 : lw_At p s m meth c b L xs) : ∃ G : JG, jg_l G = l ∧ jg_sz G = s.heap.size ∧ jg_H G = s.heap ∧ jg_sa G 24 = b ∧ JGl G s ∧ jm G (js_0 L xs) s s.heap := by
  obtain ⟨hx, hb, hr, hml, hown, hts, hX, hbl, hlk, hgv⟩ := C0
  have hs : ∀ w ∈ jn_F, w.before #[Value.ref b] s = true := flat_of_before _ hgv
  have hA : ∀ a : Nat, a < s.heap.size → ¬ (fun q : Nat => s.heap.size ≤ q) a := fun a h q => Nat.lt_irrefl _ (Nat.lt_of_lt_of_le h q)
  have hw : ∀ i : Nat, ∃ a : Nat, i < 22 → (jn_W i).eval #[Value.ref b] s none [] s = some (.ref a) ∧ va_O "CellarTurns$Word" a (fun q : Nat => s.heap.size ≤ q) s s.heap := by
    intro i
    by_cases hi : i < 22
    · obtain ⟨a, _, _, _, q1, -⟩ := Cond.exactly_spec (args := #[Value.ref b]) (first := s) (o := none) (s := s) (idx := []) (t := jn_W i) (cls := "CellarTurns$Word") (hs _ (jn_w1 i hi))
      exact ⟨a, fun _ => ⟨q1, va_Oof (hs _ (jn_w1 i hi)) q1 hA⟩⟩
    · exact ⟨0, fun h => absurd h hi⟩
  obtain ⟨ad, had⟩ := Classical.axiomOfChoice hw
  obtain ⟨t22, e22, T22⟩ := va_Tof (f := fun j => .int (jw_sm.getD j 0)) (N := 22) (by decide) (hs _ jn_m.1) (va_eqt (hs _ jn_m.2.1)) (fun j hj => va_eqt (hs _ (jn_m.2.2 j hj))) hA
  obtain ⟨t23, e23, T23⟩ := va_Tof (f := fun j => .ref (ad j)) (N := 22) (by decide) (hs _ jn_l.1) (va_eqt (hs _ jn_l.2.1)) (fun j hj => va_eqv (hs _ (jn_l.2.2 j hj)) (had j hj).1) hA
  obtain ⟨a25, _, _, _, e25, -⟩ := Cond.exactly_spec (args := #[Value.ref b]) (first := s) (o := none) (s := s) (idx := []) (t := jn_S) (cls := "java/lang/String") (hs _ jn_s.1)
  have O25 := va_Oof (hs _ jn_s.1) e25 hA
  obtain ⟨a28, e28, T28⟩ := va_Tof (f := fun j => .int (jw_sg.getD j 0)) (N := 8) (by decide) (hs _ jn_s.2.2.1) (va_eqt (hs _ jn_s.2.2.2.1)) (fun j hj => va_eqt (hs _ (jn_s.2.2.2.2 j hj))) hA
  obtain ⟨a26, _, _, _, e26, -⟩ := Cond.exactly_spec (args := #[Value.ref b]) (first := s) (o := none) (s := s) (idx := []) (t := .string "CellarTurns" 272) (cls := "java/lang/String") (hs _ jn_t.1)
  obtain ⟨a27, _, _, _, e27, -⟩ := Cond.exactly_spec (args := #[Value.ref b]) (first := s) (o := none) (s := s) (idx := []) (t := .string "CellarTurns" 277) (cls := "java/lang/String") (hs _ jn_t.2.1)
  have hK : ∀ ci : Nat, ∃ q : ClassId × (Nat → Nat), ci < 12 → u_Kn s (jt_C ci) (jt_T ci) (jt_N ci) q.1 q.2 := by
    intro ci
    by_cases hci : ci < 12
    · obtain ⟨cC, iS, h⟩ := u_known hts (jt_lay_in hci) (hts _ (List.mem_of_getElem? (jt_ix_ok ci hci).1))
      exact ⟨(cC, iS), fun _ => h⟩
    · exact ⟨(0, fun _ => 0), fun h => absurd h hci⟩
  obtain ⟨dq, hdq⟩ := Classical.axiomOfChoice hK
  obtain ⟨cI, AI, NI⟩ := jA_of (hts _ (jt_arrs .int (by decide)))
  obtain ⟨cJ, AJ, NJ⟩ := jA_of (hts _ (jt_arrs .long (by decide)))
  obtain ⟨cB, AB, NB⟩ := jA_of (hts _ (jt_arrs .byte (by decide)))
  obtain ⟨cZ, AZ, NZ⟩ := jA_of (hts _ (jt_arrs .boolean (by decide)))
  have hover := hts _ jn_b.2.2.2.2.2.2.2.2.2
  obtain ⟨comp, cM, kM, m1, -, m2, m3, m4⟩ := Cond.arrayOver_spec hover
  have AM : ArrOfT s cM (.object "CellarTurns$Muddle") := fun n z => ⟨fun k h => (by cases h), kM, m2, comp, m3⟩
  let sa : Nat → Nat := fun i => if i < 22 then ad i else if i = 22 then t22 else if i = 23 then t23 else if i = 24 then b else if i = 25 then a25 else if i = 26 then a26 else if i = 27 then a27 else a28
  have s0 : ∀ i, i < 22 → sa i = ad i := fun i h => if_pos h
  have hZ0 : ∀ i, i < 22 → va_Z "CellarTurns$Word" (jw_nm.getD i "") "LCellarTurns$Word;" (.ref (sa i)) (fun q : Nat => s.heap.size ≤ q) s s.heap := fun i hi => by
    rw [s0 i hi]
    exact va_Zof (hts _ (jn_w5 i hi)) (hts _ jn_b.2.2.2.2.2.1) (had i hi).1 hA
  refine ⟨(l, s.heap.size, s.heap, sa, (fun ci => (dq ci).1, fun ci => (dq ci).2), fun t => if t = 101 then cJ else if t = 102 then cB else if t = 103 then cZ else if t = 104 then cM else cI), rfl, rfl, rfl, rfl, ⟨?_, ?_, ?_, ?_, ?_, ?_, ?_, ?_, ?_, ?_⟩, ?_⟩
  · intro w hw' hg
    have h1 := hts w hw'
    by_cases ht : w.onTables = true
    · exact va_tabs ht rfl h1
    · cases w <;> first | exact h1 | (exact absurd rfl ht) | (cases hg)
  · refine ⟨fun c' q hq => ?_, fun k q hk => by cases hk⟩
    obtain ⟨hc, rfl⟩ := jt_cls_lt hq
    exact hdq c' hc
  · intro t h1 h2
    rcases (show t = 100 ∨ t = 101 ∨ t = 102 ∨ t = 103 ∨ t = 104 by omega) with rfl | rfl | rfl | rfl | rfl
    · exact ⟨AI, NI⟩
    · exact ⟨AJ, NJ⟩
    · exact ⟨AB, NB⟩
    · exact ⟨AZ, NZ⟩
    · exact ⟨AM, kM, comp, m2, m3, m1, m4⟩
  · exact va_AO.of hover
  · intro q hq
    simp only [jt_sts, List.mem_cons, List.not_mem_nil, or_false] at hq
    rcases hq with rfl | rfl | rfl | rfl | rfl | rfl | rfl
    · exact hZ0 21 (by decide)
    · exact va_Zof (hts _ jn_b.1) (hts _ jn_b.2.2.2.2.2.1) e23 hA
    · exact va_Zof (hts _ jn_b.2.1) (hts _ jn_b.2.2.2.2.2.2.1) e22 hA
    · exact hZ0 2 (by decide)
    · exact hZ0 15 (by decide)
    · exact hZ0 16 (by decide)
    · exact hZ0 17 (by decide)
  · intro i j hi hj e
    have e : ad i = ad j := (s0 i hi).symm.trans (e.trans (s0 j hj))
    by_cases hij : i = j
    · exact hij
    · rcases jn_ne i hi j hj hij with h | h
      · exact absurd e (va_neR (hs _ h) (had i hi).1 (had j hj).1)
      · exact absurd e.symm (va_neR (hs _ h) (had j hj).1 (had i hi).1)
  · exact va_Zof (hts _ jn_b.2.2.1) (hts _ jn_b.2.2.2.2.2.2.2.1) (va_eqi (hs _ jn_t.2.2.1)) hA
  · intro q hq
    have hq' := jn_r q hq
    simp only [jt_str, List.mem_cons, List.not_mem_nil, or_false] at hq
    rcases hq with rfl | rfl | rfl
    · exact vk_R.of (A := #[]) (jS_args (hts _ hq')) (jS_ev e25)
    · exact vk_R.of (A := #[]) (jS_args (hts _ hq')) (jS_ev e26)
    · exact vk_R.of (A := #[]) (jS_args (hts _ hq')) (jS_ev e27)
  · exact vx_Zqof (hts _ jn_b.2.2.2.1) (hts _ jn_b.2.2.2.2.2.2.2.2.1) (hs _ jn_t.2.2.2.1) hA
  · exact vx_Zqof (hts _ jn_b.2.2.2.2.1) (hts _ jn_b.2.2.2.2.2.2.2.2.1) (hs _ jn_t.2.2.2.2) hA
  · refine ⟨fun _ => by show s.heap.size + 64 = s.heap.size + jh_n (js_0 L xs); rfl, ⟨by show 64 ≤ jh_n (js_0 L xs); exact Nat.le_refl _, Nat.le_refl _⟩, fun q _ => rfl, fun i t n hi hx => ?_, ?_, rfl⟩
    · have : i < (js_sh L).length := (List.getElem?_eq_some_iff.mp hx).1
      have h64 : (js_sh L).length = 64 := rfl
      omega
    · intro i t n hi hx
      have hx : (js_sh L)[i]? = some (t, n) := hx
      unfold js_sh at hx
      by_cases h22 : i < 22
      · rw [List.getElem?_append_left (by rw [List.length_replicate]; exact h22), List.getElem?_replicate, if_pos h22] at hx
        cases hx
        refine ⟨Or.inl rfl, fun _ => ?_, fun h => absurd h (by decide), fun h => absurd h (by decide), fun h => absurd h (by decide), fun h => absurd h (by decide)⟩
        have hsa : jg_sa (l, s.heap.size, s.heap, sa, ((fun ci => (dq ci).1, fun ci => (dq ci).2) : va_G), fun t => if t = 101 then cJ else if t = 102 then cB else if t = 103 then cZ else if t = 104 then cM else cI) i = ad i := s0 i h22
        rw [hsa]
        have I0 : (js_0 L xs).2.1 i 0 = nI i := by show (if i < 22 then _ else _) = _; rw [if_pos h22]; rfl
        have I2 : (js_0 L xs).2.1 i 2 = jw_res.getD i 0 := by show (if i < 22 then _ else _) = _; rw [if_pos h22]; rfl
        have J1 : (js_0 L xs).2.2.1 i 1 = jw_let.getD i 0 := by show (if i < 22 ∧ 1 = 1 then _ else _) = _; rw [if_pos ⟨h22, rfl⟩]
        rw [I0, I2, J1]
        exact ⟨(had i h22).2, vk_OFof (had i h22).1 (va_eqt (hs _ (jn_w2 i h22))) hA, vk_OFof (had i h22).1 (va_eqtl (hs _ (jn_w3 i h22))) hA, vk_OFof (had i h22).1 (va_eqt (hs _ (jn_w4 i h22))) hA⟩
      · rw [List.getElem?_append_right (by rw [List.length_replicate]; omega), List.length_replicate] at hx
        rcases (show i = 22 ∨ i = 23 ∨ i = 24 ∨ i = 25 ∨ i = 26 ∨ i = 27 ∨ i = 28 ∨ 29 ≤ i by omega) with rfl | rfl | rfl | rfl | rfl | rfl | rfl | h29
        · cases hx
          exact ⟨by decide, fun h => absurd h (by decide), fun _ => T22, fun h => absurd h (by decide), fun h => absurd h (by decide), fun h => absurd h (by decide)⟩
        · cases hx
          refine ⟨by decide, fun h => absurd h (by decide), fun h => absurd h (by decide), fun _ => ?_, fun h => absurd h (by decide), fun h => absurd h (by decide)⟩
          refine jT_congr T23 (fun j hj => ?_)
          show Value.ref (ad j) = Value.ref (jr _ j)
          unfold jr
          rw [if_pos (by omega)]
          exact congrArg Value.ref (s0 j hj).symm
        · cases hx
          refine ⟨by decide, fun h => absurd h (by decide), fun _ => ?_, fun h => absurd h (by decide), fun h => absurd h (by decide), fun h => absurd h (by decide)⟩
          obtain ⟨scr, x1, x2, x3, x4, x5⟩ := hX
          exact ⟨scr, x1, x2, x3, by rw [x4]; first | done | exact Nat.le_refl _, by first | rw [x4] | (rw [x4]; rfl), x5, hA _ hbl⟩
        · cases hx
          refine ⟨by decide, fun h => absurd h (by decide), fun h => absurd h (by decide), fun h => absurd h (by decide), fun h => absurd h (by decide), fun _ => ⟨O25, vk_OFof e25 (va_eqt (hs _ jn_s.2.1)) hA, ?_⟩⟩
          exact vk_OFof e25 e28 hA
        · cases hx
          exact ⟨by decide, fun h => absurd h (by decide), fun h => absurd h (by decide), fun h => absurd h (by decide), fun h => absurd h (by decide), fun h => absurd h (by decide)⟩
        · cases hx
          exact ⟨by decide, fun h => absurd h (by decide), fun h => absurd h (by decide), fun h => absurd h (by decide), fun h => absurd h (by decide), fun h => absurd h (by decide)⟩
        · cases hx
          exact ⟨by decide, fun h => absurd h (by decide), fun h => absurd h (by decide), fun h => absurd h (by decide), fun _ => T28, fun h => absurd h (by decide)⟩
        · rw [List.getElem?_append_right (by show 7 ≤ _; omega)] at hx
          have hx9 := List.getElem?_eq_some_iff.mp hx
          obtain ⟨hlt, hx9⟩ := hx9
          rw [List.getElem_replicate] at hx9
          cases hx9
          exact ⟨by decide, fun h => absurd h (by decide), fun h => absurd h (by decide), fun h => absurd h (by decide), fun h => absurd h (by decide), fun h => absurd h (by decide)⟩

/-! ===== switches ===== -/
section JW
variable {G : JG} {cc : ByteArray} {nL own d : Nat} {ini : Bool} {ret : Option FieldType} {i j k h : Nat}
variable {p : Program} {e : Env} {R : Room} {s : State} {m : MethodId} {args : Array Value} {below : List Frame} {meth : Method} {c : Code} {n0 w0 nE wE : Nat} {Q : State → Prop}
def jx_sw (cc : ByteArray) (j : Nat) (lo : Int) (ts : List Nat) (df : Nat) : Bool := match decode cc j with
  | .ok (.tableswitch dd l hh offs, _) => l == lo && hh + 1 == lo + (ts.length : Int) && (j : Int) + dd == (df : Int) && offs.toList.map (fun o => (j : Int) + o) == ts.map (fun t : Nat => (t : Int)) && !(ts.contains 1000000) && !(df == 1000000)
  | _ => false
theorem jfr_sw {F : JN} {lo : Int} {ts : List Nat} {df : Nat} (h1 : JSl G own ini cc d nL i j F) (hj : jx_sw cc j lo ts df = true) : JFr G own ini cc d nL ret i (jb_sw F lo ts df) := by
  have inv : ∀ S q, jb_sw F lo ts df S = some q → ∃ S1 x st, F S = some S1 ∧ S1.2.1 = .int x :: st ∧ q = (if x.toInt < lo ∨ lo + ts.length ≤ x.toInt then df else ts.getD (x.toInt - lo).toNat df, S1.1, st, S1.2.2) := by
    intro S q hq
    obtain ⟨S1, g1, g2⟩ := Option.bind_eq_some_iff.mp hq
    split at g2
    · rename_i x st hs; cases g2; exact ⟨S1, x, st, g1, hs, rfl⟩
    · cases g2
  unfold jx_sw at hj
  split at hj
  · rename_i dd l hh offs len hd
    simp only [Bool.and_eq_true, beq_iff_eq, Bool.not_eq_true'] at hj
    obtain ⟨⟨⟨⟨⟨hl, hhi⟩, hdf⟩, hof⟩, hno⟩, hnd⟩ := hj
    subst hl
    refine ⟨fun S q hq => ?_, fun p e R s m args below meth c n0 w0 nE wE Q X D hr hlk S q hq a b => ?_⟩
    · obtain ⟨S1, x, st, g1, g2, rfl⟩ := inv S q hq
      have h9 := h1.1 S S1 g1
      exact h9
    · obtain ⟨S1, x, st, g1, g2, rfl⟩ := inv S q hq
      obtain ⟨L, st0, σ⟩ := S1
      have g2 : st0 = _ := g2
      subst g2
      obtain ⟨hx, hb, -⟩ := id X
      have hne : ∀ n, ¬ ts.getD n df = 1000000 := by
        intro n hn
        by_cases hl : n < ts.length
        · have : ts.getD n df ∈ ts := by
            rw [List.getD_eq_getElem?_getD, List.getElem?_eq_getElem hl]
            exact List.getElem_mem hl
          rw [hn] at this
          have h9 : ts.contains 1000000 = true := by simpa using this
          rw [h9] at hno
          cases hno
        · rw [List.getD_eq_getElem?_getD, List.getElem?_eq_none (by omega)] at hn
          have hn : df = 1000000 := hn
          rw [hn] at hnd
          cases hnd
      by_cases hout : x.toInt < l ∨ l + ts.length ≤ x.toInt
      · simp only [if_pos hout] at b
        refine h1.2 p e R s m args below meth c n0 w0 nE wE _ X D S _ g1 (jk_st (fun H locs ls cells slots _ _ kk => lv_tableOut hx hb hd ?_ hdf kk) (b (by intro z; rw [z] at hnd; cases hnd)))
        rcases hout with h9 | h9
        · exact Or.inl h9
        · exact Or.inr (by omega)
      · simp only [if_neg hout] at b
        have hlt : (x.toInt - l).toNat < ts.length := by omega
        have hm : (offs.toList.map (fun o => (j : Int) + o))[(x.toInt - l).toNat]? = (ts.map (fun t : Nat => (t : Int)))[(x.toInt - l).toNat]? := by rw [hof]
        rw [List.getElem?_map, List.getElem?_map, List.getElem?_eq_getElem hlt, Array.getElem?_toList] at hm
        cases ho : offs[(x.toInt - l).toNat]? with
        | none => rw [ho] at hm; cases hm
        | some off =>
          rw [ho] at hm
          have hm : (j : Int) + off = (ts[(x.toInt - l).toNat] : Int) := Option.some.inj hm
          have hg : ts.getD (x.toInt - l).toNat df = ts[(x.toInt - l).toNat] := by
            rw [List.getD_eq_getElem?_getD, List.getElem?_eq_getElem hlt]; rfl
          refine h1.2 p e R s m args below meth c n0 w0 nE wE _ X D S _ g1 (jk_st (fun H locs ls cells slots _ _ kk => lv_tableIn hx hb hd (fun z => hout (Or.inl z)) (fun z => hout (Or.inr (by omega))) ho (by rw [hg]; exact hm) kk) (b (hne _)))
  · cases hj
def jx_lk (cc : ByteArray) (j : Nat) (ps : List (Int × Nat)) (df : Nat) : Bool := match decode cc j with
  | .ok (.lookupswitch dd prs, _) => (prs.toList.zip (prs.toList.drop 1)).all (fun (a, next) => a.1 < next.1) && (j : Int) + dd == (df : Int) && prs.toList.map (fun q => (q.1, (j : Int) + q.2)) == ps.map (fun q : Int × Nat => (q.1, (q.2 : Int))) && !((ps.map (fun q => q.2)).contains 1000000) && !(df == 1000000)
  | _ => false
theorem jx_lk_off {prs : List (Int × Int)} {ps : List (Int × Nat)} {dd : Int} {df : Nat} {x : Int} (hd : (j : Int) + dd = (df : Int)) (h : prs.map (fun q => (q.1, (j : Int) + q.2)) = ps.map (fun q : Int × Nat => (q.1, (q.2 : Int)))) : (j : Int) + Op.lookupswitch.offset prs dd x = ((ps.lookup x).getD df : Nat) := by
  induction prs generalizing ps with
  | nil =>
    cases ps with
    | nil => exact hd
    | cons q r => cases h
  | cons a r ih =>
    cases ps with
    | nil => cases h
    | cons q r' =>
      obtain ⟨a1, a2⟩ := a
      obtain ⟨q1, q2⟩ := q
      rw [List.map_cons, List.map_cons] at h
      injection h with h1 h2
      have h3 : a1 = q1 := congrArg Prod.fst h1
      have h4 : (j : Int) + a2 = (q2 : Int) := congrArg Prod.snd h1
      subst h3
      rw [Op.lookupswitch.offset_cons, List.lookup_cons]
      by_cases hx : a1 = x
      · subst hx
        rw [if_pos rfl]
        simp [h4]
      · rw [if_neg hx, ih h2]
        have : (x == a1) = false := by simp [Ne.symm hx]
        rw [this]
theorem jfr_lk {F : JN} {ps : List (Int × Nat)} {df : Nat} (h1 : JSl G own ini cc d nL i j F) (hj : jx_lk cc j ps df = true) : JFr G own ini cc d nL ret i (jb_lk F ps df) := by
  have inv : ∀ S q, jb_lk F ps df S = some q → ∃ S1 x st, F S = some S1 ∧ S1.2.1 = .int x :: st ∧ q = ((ps.lookup x.toInt).getD df, S1.1, st, S1.2.2) := by
    intro S q hq
    obtain ⟨S1, g1, g2⟩ := Option.bind_eq_some_iff.mp hq
    split at g2
    · rename_i x st hs; cases g2; exact ⟨S1, x, st, g1, hs, rfl⟩
    · cases g2
  unfold jx_lk at hj
  split at hj
  · rename_i dd prs len hd
    simp only [Bool.and_eq_true, beq_iff_eq, Bool.not_eq_true'] at hj
    obtain ⟨⟨⟨⟨hall, hdf⟩, hof⟩, hno⟩, hnd⟩ := hj
    refine ⟨fun S q hq => ?_, fun p e R s m args below meth c n0 w0 nE wE Q X D hr hlk S q hq a b => ?_⟩
    · obtain ⟨S1, x, st, g1, g2, rfl⟩ := inv S q hq
      have h9 := h1.1 S S1 g1
      exact h9
    · obtain ⟨S1, x, st, g1, g2, rfl⟩ := inv S q hq
      obtain ⟨L, st0, σ⟩ := S1
      have g2 : st0 = _ := g2
      subst g2
      obtain ⟨hx, hb, -⟩ := id X
      have hne : ¬ (ps.lookup x.toInt).getD df = 1000000 := by
        intro hn
        cases hl : ps.lookup x.toInt with
        | none =>
          rw [hl] at hn
          have hn : df = 1000000 := hn
          rw [hn] at hnd
          cases hnd
        | some t =>
          rw [hl] at hn
          have hn : t = 1000000 := hn
          have : t ∈ ps.map (fun q => q.2) := List.mem_map.mpr ⟨_, jt_look hl, rfl⟩
          rw [hn] at this
          have h9 : (ps.map (fun q => q.2)).contains 1000000 = true := by simpa using this
          rw [h9] at hno
          cases hno
      exact h1.2 p e R s m args below meth c n0 w0 nE wE _ X D S _ g1 (jk_st (fun H locs ls cells slots _ _ kk => lv_lookup hx hb hd hall rfl (jx_lk_off hdf hof) kk) (b hne))
  · cases hj
end JW

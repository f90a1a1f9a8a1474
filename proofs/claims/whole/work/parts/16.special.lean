/-! ===== copies of rows; calls of inherited methods and on constants ===== -/
def jh_cpy (σ : JH) (a b sp dp n : Nat) : JH := (σ.1, (fun q j => if q = b ∧ dp ≤ j ∧ j < dp + n then σ.2.1 a (sp + (j - dp)) else σ.2.1 q j), σ.2.2)
def jx_ac : JN := fun s => match s.2.1 with
  | .int n :: .int dp :: .ref b :: .int sp :: .ref a :: st => match s.2.2.1[a]?, s.2.2.1[b]? with
    | some (ta, na), some (tb, nb) => if ta = 100 ∧ tb = 100 ∧ ¬ sp < 0 ∧ ¬ dp < 0 ∧ ¬ n < 0 ∧ sp.toNatClampNeg + n.toNatClampNeg ≤ na ∧ dp.toNatClampNeg + n.toNatClampNeg ≤ nb ∧ (st.map (fun v => v.category)).sum ≤ 8 then some (s.1, st, jh_cpy s.2.2 a b sp.toNatClampNeg dp.toNatClampNeg n.toNatClampNeg) else none
    | _, _ => none
  | _ => none
theorem jx_ac_i {S S' : JS} (h : jx_ac S = some S') : ∃ n dp b sp a st na nb, S.2.1 = .int n :: .int dp :: .ref b :: .int sp :: .ref a :: st ∧ S.2.2.1[a]? = some (100, na) ∧ S.2.2.1[b]? = some (100, nb) ∧ ¬ sp < 0 ∧ ¬ dp < 0 ∧ ¬ n < 0 ∧ sp.toNatClampNeg + n.toNatClampNeg ≤ na ∧ dp.toNatClampNeg + n.toNatClampNeg ≤ nb ∧ (st.map (fun v => v.category)).sum ≤ 8 ∧ S' = (S.1, st, jh_cpy S.2.2 a b sp.toNatClampNeg dp.toNatClampNeg n.toNatClampNeg) := by
  unfold jx_ac at h
  split at h
  · rename_i n dp b sp a st hs
    split at h
    · rename_i ta na tb nb h1 h2
      split at h
      · rename_i hc
        cases h
        obtain ⟨c1, c2, c3, c4, c5, c6, c7, c8⟩ := hc
        subst c1; subst c2
        exact ⟨n, dp, b, sp, a, st, na, nb, hs, h1, h2, c3, c4, c5, c6, c7, c8, rfl⟩
      · cases h
    · cases h
  · cases h
section JW
variable {G : JG} {p : Program} {e : Env} {R : Room} {s : State} {m : MethodId} {args : Array Value} {below : List Frame} {meth : Method} {c : Code} {cc : ByteArray} {n0 w0 nE wE nL own d : Nat} {ini : Bool} {Q : State → Prop} {pc i j k : Nat} {σ : JH} {H H' : Heap}
theorem jm_cpy {a b na nb sp dp n : Nat} (h : jm G σ s H) (hb : σ.1[b]? = some (100, nb)) (h' : H'[jr G b]? = some (arrV (jg_A G 100) nb (fun j => .int (va_cpy (σ.2.1 a) (σ.2.1 b) sp dp n j)))) (hz : H'.size = H.size) (ho : ∀ q : Nat, q ≠ jr G b → H'[q]? = H[q]?) : jm G (jh_cpy σ a b sp dp n) s H' := by
  obtain ⟨h64, -⟩ := jm_arr h hb (by decide) (by decide)
  have hfe : ∀ q j ty, q ≠ b → jf (jh_cpy σ a b sp dp n) q j ty = jf σ q j ty := by
    intro q j ty hq
    unfold jf jh_cpy
    simp only
    rw [if_neg (fun z => hq z.1)]
  refine ⟨by rw [hz]; exact h.1, by rw [hz]; exact h.2.1, fun q hq => ?_, fun i t' n' hi hx => ?_, ?_, h.2.2.2.2.2⟩
  · rw [ho q (by have := jr_ge (G := G) h64; omega)]
    exact h.2.2.1 q hq
  · have hx9 : σ.1[i]? = some (t', n') := hx
    clear hx
    by_cases hib : i = b
    · subst hib
      rw [hb] at hx9
      cases hx9
      refine Or.inr (Or.inl ⟨by decide, by decide, ?_⟩)
      rw [h']
      congr 2
      funext j
      rw [jf_0 rfl]
      show Value.int _ = Value.int _
      unfold va_cpy jh_cpy
      simp only [true_and]
    · exact jc_same (h.2.2.2.1 i t' n' hi hx9) (ho _ (jr_ne hi h64 hib)) (fun j ty => hfe i j ty hib)
  · refine jst_same h.2.2.2.2.1 (fun i _ => rfl) (fun q j hq => ?_) (fun q j hq => rfl) (fun q j hq => rfl)
    show (if q = b ∧ _ then _ else _) = _
    rw [if_neg (fun z => by omega)]
theorem jsl_ac {ix : Nat} (hl : Cond.methodLink (jt_own.getD own "") ix arraycopyName ∈ lw_tbl) (hd1 : 1 ≤ d) (hd : decode cc i = .ok (.invokestatic ix, 3)) : JSl G own ini cc d nL i (i + 3) jx_ac := by
  refine ⟨fun S S' q => ?_, fun p e R s m args below meth c n0 w0 nE wE Q X D S S' q kk => ?_⟩
  · obtain ⟨n, dp, b, sp, a, st, na, nb, hs, ha, hb, h1, h2, h3, h4, h5, h8, rfl⟩ := jx_ac_i q
    exact jh_set_mono rfl
  · obtain ⟨L, st0, σ⟩ := S
    obtain ⟨n, dp, b, sp, a, st, na, nb, hs, ha, hb2, h1, h2, h3, h4, h5, h8, rfl⟩ := jx_ac_i q
    have hs : st0 = _ := hs
    subst hs
    obtain ⟨hx, hb, hml, hown, hG, hRc, hRs, hini⟩ := id X
    have kk : JK G p e R s m args below meth c nL n0 w0 nE wE Q (i + 3) (L, st, jh_cpy σ a b sp.toNatClampNeg dp.toNatClampNeg n.toNatClampNeg) := kk
    obtain ⟨k1, k2, k3⟩ := kk
    refine ⟨k1, k2, fun H locs ls g1 g2 hM hlo hl5 => ?_⟩
    obtain ⟨a64, hc0⟩ := jm_arr hM ha (by decide) (by decide)
    obtain ⟨b64, hc1⟩ := jm_arr hM hb2 (by decide) (by decide)
    have nn : ∀ z : Int32, ¬ z < 0 → z.toInt = ((z.toNatClampNeg : Nat) : Int) := by
      intro z hz
      have hz0 : (0 : Int) ≤ z.toInt := by
        have := Int32.not_lt.mp hz
        simpa using Int32.le_iff_toInt_le.mp this
      show z.toInt = ((z.toInt.toNat : Nat) : Int)
      omega
    intro T hT X0
    obtain ⟨-, kA, hkA, cmA, hkkA⟩ := (hG.2.2.1 100 (by decide) (by decide)).1 na (fun j => jv G (jf σ a j (jt_at 100)))
    obtain ⟨-, kB, hkB, cmB, hkkB⟩ := (hG.2.2.1 100 (by decide) (by decide)).1 nb (fun j => jv G (jf σ b j (jt_at 100)))
    have hnat : (Cond.native arraycopyName).before args s = true := jx_word hG (List.mem_of_getElem? (i := 935) (by decide +kernel)) rfl rfl
    have hstat : (Cond.static arraycopyName).before args s = true := jx_word hG (List.mem_of_getElem? (i := 934) (by decide +kernel)) rfl rfl
    have hini : (Cond.initialized "java/lang/System").before args s = true := jx_word hG (List.mem_of_getElem? (i := 140) (by decide +kernel)) rfl rfl
    obtain ⟨vm', X', step⟩ := X0.arraycopy hx hown (jx_word hG hl rfl rfl) hnat hstat hini (src := jr G a) (dst := jr G b) (cs := arrV (jg_A G 100) na (fun j => jv G (jf σ a j (jt_at 100)))) (cd := arrV (jg_A G 100) nb (fun j => jv G (jf σ b j (jt_at 100)))) (srcPos := sp) (destPos := dp) (n := n) (by rw [hT]; exact hc0) (by rw [hT]; exact hc1)
      (fun _ h => by cases h) (fun _ h => by cases h) (fun h => by cases h) (fun h => by cases h) hkA hkB hkkA hkkB (by rfl) h1 h2 h3
      (by rw [nn sp h1, nn n h3, arrV_size]; omega)
      (by rw [nn dp h2, nn n h3, arrV_size]; omega)
      (fun vm₁ _ z hz => by
        have e9 : (arrV (jg_A G 100) na (fun j => jv G (jf σ a j (jt_at 100)))).slots.getD (sp.toNatClampNeg + z) .null = .int (σ.2.1 a (sp.toNatClampNeg + z)) := by
          rw [Array.getD_eq_getD_getElem?, arrV_read _ _ (by omega)]
          rfl
        refine ⟨?_, ?_⟩
        · rw [e9]; rfl
        · rw [e9]; exact trivial)
      (g := F0 m i ls (.int n :: .int dp :: .ref (jr G b) :: .int sp :: .ref (jr G a) :: st.map (jv G))) rfl (by rw [hml]; exact hl5.1) (rest := st.map (jv G)) rfl (by rw [hb]; exact hd) (Nat.le_trans hd1 D.1)
      (by
        have e8 := jm_cats (G := G) h8
        have := D.2
        show 2 * 0 + _ + (nativeFrameWords "java/lang/System" "arraycopy" 5 + 11) ≤ _
        have e7 : nativeFrameWords "java/lang/System" "arraycopy" 5 + 11 ≤ 50 := by decide +kernel
        omega)
    have e1 : copied (arrV (jg_A G 100) na (fun j => jv G (jf σ a j (jt_at 100)))) (arrV (jg_A G 100) nb (fun j => jv G (jf σ b j (jt_at 100)))) sp dp n = arrV (jg_A G 100) nb (fun j => .int (va_cpy (σ.2.1 a) (σ.2.1 b) sp.toNatClampNeg dp.toNatClampNeg n.toNatClampNeg j)) := va_copied (fun z => .int z) _ _ (σ.2.1 a) (σ.2.1 b) h4
    rw [e1] at X' step
    have hlt : jr G b < H.size := (Array.getElem?_eq_some_iff.mp hc1).1
    have hheap : ((T.setVm vm').setCell (jr G b) (arrV (jg_A G 100) nb (fun j => .int (va_cpy (σ.2.1 a) (σ.2.1 b) sp.toNatClampNeg dp.toNatClampNeg n.toNatClampNeg j)))).heap = H.setIfInBounds (jr G b) (arrV (jg_A G 100) nb (fun j => .int (va_cpy (σ.2.1 a) (σ.2.1 b) sp.toNatClampNeg dp.toNatClampNeg n.toNatClampNeg j))) := by rw [← hT]; rfl
    have hM' : jm G (jh_cpy σ a b sp.toNatClampNeg dp.toNatClampNeg n.toNatClampNeg) s (H.setIfInBounds (jr G b) (arrV (jg_A G 100) nb (fun j => .int (va_cpy (σ.2.1 a) (σ.2.1 b) sp.toNatClampNeg dp.toNatClampNeg n.toNatClampNeg j)))) :=
      jm_cpy (na := na) hM hb2 (by simp [Array.getElem?_setIfInBounds, hlt]) (by simp) (fun q hq => by simp [Array.getElem?_setIfInBounds, Ne.symm hq])
    obtain ⟨t, a1, b1⟩ := k3 _ _ ls g1 g2 hM' (fun q hq => by
      rcases List.mem_append.mp hq with h | h
      · exact hlo q h
      · obtain ⟨z, -, hz⟩ := List.mem_map.mp h
        rw [← hz]
        exact jr_ge b64) hl5 _ hheap X'
    exact ⟨t, step t a1, b1⟩
/-- nothing is known of what it does: it isn't called -/
def jf_no : JF := fun _ _ => none
theorem jsem_no (y : MethodName) (cY : ByteArray) (maxL : Nat) (ret : Option FieldType) (d : Nat) : JSem G y cY maxL ret d jf_no := fun _ _ _ _ h => by cases h
theorem jw_ct {a t n : Nat} {C : String} (hM : jm G σ s H) (ha : σ.1[a]? = some (t, n)) (ht : (t = 50 ∧ C = "CellarTurns$Word") ∨ (t = 51 ∧ C = "java/lang/String")) : ∃ cellB : Cell, H[jr G a]? = some cellB ∧ cellB.vm.isStatics = false ∧ s.vm.findClass C = some cellB.cls := by
  have ht2 : t = 50 ∨ t = 51 := ht.elim (fun h => Or.inl h.1) (fun h => Or.inr h.1)
  obtain ⟨h64, hr⟩ := jw_wt hM ha ht2
  have hO : va_O C (jg_sa G a) (jt_A G) s (jg_H G) := by
    rcases ht with ⟨h1, h2⟩ | ⟨h1, h2⟩
    · rw [h2]; exact ((hM.2.2.2.2.1 a t n h64 ha).2.1 h1).1
    · rw [h2]; exact ((hM.2.2.2.2.1 a t n h64 ha).2.2.2.2.2 h1).1
  obtain ⟨cell, g1, g2, g3, g4⟩ := hO
  exact ⟨cell, by rw [hr, jm_old hM g4]; exact g1, g2, g3⟩
theorem jsl_cvs {y : MethodName} {cY : ByteArray} {maxL d' n ix : Nat} {ret : Option FieldType} {f : JF} (hm : JMt y cY maxL ret n) (hin : Cond.instanceMethod y ∈ lw_tbl) (hse : Cond.selects y.cls y y ∈ lw_tbl) (hcls : y.cls = "java/lang/String") (hS : JSem G y cY maxL ret d' f) (hdd : d' + 1 ≤ d)
    (hl : Cond.methodLink (jt_own.getD own "") ix y ∈ lw_tbl) (hd : decode cc i = .ok (.invokevirtual ix, 3)) : JSl G own ini cc d nL i (i + 3) (jx_cv (n + 1) 51 f) := by
  refine ⟨fun S S' q => ?_, fun p e R s m args below meth c n0 w0 nE wE Q X D S S' q kk => ?_⟩
  · obtain ⟨a, r, t, v, σ', h1, h2, h3, h4, h5, rfl⟩ := jx_cv_i q
    obtain ⟨g1, g2, -⟩ := hS _ _ _ _ h5
    exact ⟨g1, g2⟩
  · obtain ⟨L, st0, σ⟩ := S
    obtain ⟨a, r, t, v, σ', h1, h2, h3, h4, h5, rfl⟩ := jx_cv_i q
    obtain ⟨hx, hb, hml, hown, hG, hRc, hRs, hini⟩ := id X
    refine jk_call X hS h5 (fun H locs ls cells slots hls hM hMet hcap hP => ?_) kk
    have hcell := jw_ct (C := "java/lang/String") hM h2 (Or.inr ⟨rfl, rfl⟩)
    have hrm := jm_room (k := jh_n σ' - jh_n σ) (n := jh_w σ' - jh_w σ) hdd hm.2.2.2.2 D
    exact va_runV (Ts := []) (As := r.map (jv G)) (b := jr G a) (C := "java/lang/String") ⟨hx, hb, hml, hown, fun w hw => absurd hw List.not_mem_nil⟩ hMet
      ⟨⟨rfl, rfl, hrm.1, hrm.2, jm_words hG hm.1, List.mem_cons_self, jx_word hG hm.1 rfl rfl, jx_word hG hm.2.1 rfl rfl, hm.2.2.1, jm_par hm.2.2.2.1, jx_word hG hl rfl rfl⟩, jx_word hG hin rfl rfl, by have h9 := jx_word (args := args) hG hse rfl rfl; rw [hcls] at h9; exact h9⟩
      ⟨jpc_blind, hcell, fun U hU hW => hP U hU hW⟩ rfl (by rw [List.length_map]; omega) hls (jst_split h1) (lv_room (jm_cats h3)) hd hcap
/-- a Word's ordinal: a method of Enum -/
def jt_ordx : MethodName := ⟨"CellarTurns$Word", "ordinal", "()I"⟩
theorem jsl_cu {y : MethodName} {cY : ByteArray} {maxL d' ix : Nat} {ret : Option FieldType} {f : JF} (hyx : y = ⟨"java/lang/Enum", "ordinal", "()I"⟩) (hm : JMt y cY maxL ret 0) (hin : Cond.instanceMethod y ∈ lw_tbl) (hse : Cond.selects "CellarTurns$Word" jt_ordx y ∈ lw_tbl) (hsa : Cond.sameMethod "CellarTurns$Word" "java/lang/Enum" "ordinal" "()I" ∈ lw_tbl) (hS : JSem G y cY maxL ret d' f) (hdd : d' + 1 ≤ d)
    (hl : Cond.methodLink (jt_own.getD own "") ix jt_ordx ∈ lw_tbl) (hd : decode cc i = .ok (.invokevirtual ix, 3)) : JSl G own ini cc d nL i (i + 3) (jx_cv 1 50 f) := by
  refine ⟨fun S S' q => ?_, fun p e R s m args below meth c n0 w0 nE wE Q X D S S' q kk => ?_⟩
  · obtain ⟨a, r, t, v, σ', h1, h2, h3, h4, h5, rfl⟩ := jx_cv_i q
    obtain ⟨g1, g2, -⟩ := hS _ _ _ _ h5
    exact ⟨g1, g2⟩
  · obtain ⟨L, st0, σ⟩ := S
    obtain ⟨a, r, t, v, σ', h1, h2, h3, h4, h5, rfl⟩ := jx_cv_i q
    obtain ⟨hx, hb, hml, hown, hG, hRc, hRs, hini⟩ := id X
    refine jk_call X hS h5 (fun H locs ls cells slots hls hM hMet hcap hP => ?_) kk
    have hcell := jw_ct (C := "CellarTurns$Word") hM h2 (Or.inl ⟨rfl, rfl⟩)
    have hrm := jm_room (k := jh_n σ' - jh_n σ) (n := jh_w σ' - jh_w σ) hdd hm.2.2.2.2 D
    exact va_runU (Ts := []) (As := r.map (jv G)) (b := jr G a) (C := "CellarTurns$Word") (owner := "java/lang/Enum") (x := jt_ordx) ⟨hx, hb, hml, hown, fun w hw => absurd hw List.not_mem_nil⟩ hMet
      ⟨⟨rfl, rfl, hrm.1, hrm.2, jm_words hG hm.1, List.mem_cons_self⟩, jx_word hG hm.1 rfl rfl, jx_word hG hm.2.1 rfl rfl, ⟨by decide, by decide⟩, jm_par (y := jt_ordx) (n := 0) (by decide +kernel), jx_word hG hl rfl rfl, jx_word hG hsa rfl rfl, by
        have h9 : va_Decl s y := va_Decl.of (args := args) (jx_word hG hin rfl rfl) (jx_word hG hm.1 rfl rfl)
        rw [hyx] at h9
        exact h9, jx_word hG hse rfl rfl, jx_word hG hin rfl rfl⟩
      ⟨jpc_blind, hcell, fun U hU hW => hP U hU hW⟩ rfl (by rw [List.length_map]; omega) hls (jst_split h1) (lv_room (jm_cats h3)) hd hcap
end JW

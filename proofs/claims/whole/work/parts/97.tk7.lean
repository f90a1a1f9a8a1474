section TK7
variable {s t σ : JH} {ts : List Nat} {i c k p : Nat} {T : Tok}
/-! the model's row of tokens -/
def mTo (T : Tok) (j : Nat) (σ : JH) : Prop := σ.2.1 206 j = nI (Tk T) ∧ σ.2.1 207 j = nI (Tp T) ∧ (Tk T = 1 → σ.2.2.1 208 j = lN (wrd 37 (Tl T))) ∧ (Tk T = 2 → σ.2.2.1 208 j = lN (Tv T)) ∧ (Tk T = 3 → σ.2.2.1 208 j = lN (Tv T))
def mTs (ts : List Nat) (n : Nat) (σ : JH) : Prop := n ≤ 1000 ∧ Tk (tok ts n) = 0 ∧ ∀ j, j ≤ n → mTo (tok ts j) j σ
def PCu (b j : Nat) : Prop := (b = 204 ∧ (j = 2 ∨ j = 3 ∨ j = 7 ∨ j = 8)) ∨ (206 ≤ b ∧ b ≤ 208)
theorem m_isSignOf (hl : Ly s) (hc : c < 127) : q_Md_isSignOf [.int (nI c)] s = some (some (.int (bI (isSn c))), s) := by
  have : ∀ c, c < 127 → isSn c = (if nI c = nI 40 then true else if nI c = nI 41 then true else if nI c = nI 59 then true else if nI c = nI 61 then true else if nI c = nI 60 then true else if nI c = nI 43 then true else if nI c = nI 45 then true else if nI c = nI 42 then true else false) := by decide +kernel
  refine WE_o (w_Md_isSignOf _ hl ?_)
  rw [this c hc]
  by_cases c1 : nI c = nI 40
  · rw [if_pos c1, if_pos c1]; rfl
  rw [if_neg c1, if_neg c1]
  by_cases c1 : nI c = nI 41
  · rw [if_pos c1, if_pos c1]; rfl
  rw [if_neg c1, if_neg c1]
  by_cases c1 : nI c = nI 59
  · rw [if_pos c1, if_pos c1]; rfl
  rw [if_neg c1, if_neg c1]
  by_cases c1 : nI c = nI 61
  · rw [if_pos c1, if_pos c1]; rfl
  rw [if_neg c1, if_neg c1]
  by_cases c1 : nI c = nI 60
  · rw [if_pos c1, if_pos c1]; rfl
  rw [if_neg c1, if_neg c1]
  by_cases c1 : nI c = nI 43
  · rw [if_pos c1, if_pos c1]; rfl
  rw [if_neg c1, if_neg c1]
  by_cases c1 : nI c = nI 45
  · rw [if_pos c1, if_pos c1]; rfl
  rw [if_neg c1, if_neg c1]
  by_cases c1 : nI c = nI 42
  · rw [if_pos c1, if_pos c1]; rfl
  rw [if_neg c1, if_neg c1]
  rfl
theorem m_rank (hl : Ly s) (hc : isLt c = true) : q_Md_rank [.int (nI c)] s = some (some (.int (nI (c - 96))), s) := by
  have hb := isLt_b hc
  refine WE_o (w_Md_rank _ hl (WE_i (m_isLetter hl (by omega)) ?_))
  rw [hc, if_neg (by decide), nI_subN (by omega)]
set_option maxHeartbeats 1000000 in
theorem m_cutAll (hl : Ly σ) (hT : mTp ts σ) (ok : okTp ts) : WM q_Md_cutAll [.ref 204] σ (kV fun s => Ly s ∧ Fg PCu σ s ∧ (∃ n, mTs ts n s) ∧ s.2.1 204 7 = nI 0 ∧ s.2.1 204 8 = nI 0 ∧ s.2.1 204 2 = nI 0) := by
  have ok1 := ok.1
  refine w_Md_cutAll hl ?_
  simp only [lt]
  rw [hT.1]
  have f0 : Fi PCu σ (jh_setI (jh_setI σ 204 3 (nI ts.length)) 204 2 (nI 0)) := Fi_s (Fi_s (Fi_r _ _) (by unfold PCu; omega)) (by unfold PCu; omega)
  have z2 : (jh_setI (jh_setI σ 204 3 (nI ts.length)) 204 2 (nI 0)).2.1 204 2 = nI 0 := rI_eq
  have z3 : (jh_setI (jh_setI σ 204 3 (nI ts.length)) 204 2 (nI 0)).2.1 204 3 = nI ts.length := (rI_ne (by omega)).trans rI_eq
  generalize jh_setI (jh_setI σ 204 3 (nI ts.length)) 204 2 (nI 0) = s0 at f0 z2 z3
  refine Lp6_inv (I := fun m v3 v4 _ _ _ s => ∃ j q, q ≤ ts.length ∧ m = ts.length - q ∧ v3 = nI j ∧ v4 = nI q ∧ j ≤ psq ts j ∧ psq ts j ≤ q ∧ skp ts (psq ts j) = skp ts q ∧ Ly s ∧ Fg PCu σ s ∧ s.2.1 204 2 = nI 0 ∧ s.2.1 204 3 = nI ts.length ∧ ∀ j', j' < j → mTo (tok ts j') j' s) ?_ (m := ts.length) ⟨0, 0, Nat.zero_le _, rfl, rfl, rfl, Nat.le_refl _, Nat.le_refl _, rfl, Fi_ly f0 hl, Fi_g f0, z2, z3, fun j h => absurd h (Nat.not_lt_zero _)⟩
  rintro m v3 v4 o5 o6 o7 s ⟨j, q, hq, rfl, rfl, rfl, hj1, hj2, hs, l, f, g2, g3, hm⟩ X hX
  have hjn : j ≤ 1000 := by omega
  refine ⟨l, ?_⟩
  have hin : inb (nI j) 1002 := by rw [inb_nI (by omega) (by omega)]; omega
  have htp : ∀ i c, ts[i]? = some c → s.2.1 205 i = nI c := fun i c e => (f.2.1 205 i (by unfold PCu; omega)).trans (hT.2 i c e)
  have keep : ∀ {t : JH}, (∀ i, i ≠ j → t.2.1 206 i = s.2.1 206 i) → (∀ i, i ≠ j → t.2.1 207 i = s.2.1 207 i) → (∀ i, i ≠ j → t.2.2.1 208 i = s.2.2.1 208 i) → ∀ j', j' < j → mTo (tok ts j') j' t := by
    intro t h1 h2 h3 j' hj'
    obtain ⟨a1, a2, a3, a4, a5⟩ := hm j' hj'
    exact ⟨(h1 _ (by omega)).trans a1, (h2 _ (by omega)).trans a2, fun z => (h3 _ (by omega)).trans (a3 z), fun z => (h3 _ (by omega)).trans (a4 z), fun z => (h3 _ (by omega)).trans (a5 z)⟩
  by_cases cq : ts.length ≤ q
  · rw [if_pos (by rw [g3, nI_leN (by omega) (by omega)]; exact cq)]
    refine ⟨hin, hin, ?_⟩
    rw [cl_nI (by omega), show (jh_setI s 206 j (nI 0)).2.1 204 3 = nI ts.length from (rI_ne (by omega)).trans g3]
    have ft : Fi (fun b i => (b = 206 ∧ i = j) ∨ (b = 207 ∧ i = j) ∨ (b = 204 ∧ (i = 7 ∨ i = 8))) s (jh_setI (jh_setI (jh_setI (jh_setI s 206 j (nI 0)) 207 j (nI ts.length)) 204 7 (nI 0)) 204 8 (nI 0)) := Fi_s (Fi_s (Fi_s (Fi_s (Fi_r _ _) (by omega)) (by omega)) (by omega)) (by omega)
    have t8 : (jh_setI (jh_setI (jh_setI (jh_setI s 206 j (nI 0)) 207 j (nI ts.length)) 204 7 (nI 0)) 204 8 (nI 0)).2.1 204 8 = nI 0 := rI_eq
    have t7 : (jh_setI (jh_setI (jh_setI (jh_setI s 206 j (nI 0)) 207 j (nI ts.length)) 204 7 (nI 0)) 204 8 (nI 0)).2.1 204 7 = nI 0 := (rI_ne (by omega)).trans rI_eq
    have t6 : (jh_setI (jh_setI (jh_setI (jh_setI s 206 j (nI 0)) 207 j (nI ts.length)) 204 7 (nI 0)) 204 8 (nI 0)).2.1 206 j = nI 0 := (rI_ne (by omega)).trans ((rI_ne (by omega)).trans ((rI_ne (by omega)).trans rI_eq))
    have t5 : (jh_setI (jh_setI (jh_setI (jh_setI s 206 j (nI 0)) 207 j (nI ts.length)) 204 7 (nI 0)) 204 8 (nI 0)).2.1 207 j = nI ts.length := (rI_ne (by omega)).trans ((rI_ne (by omega)).trans rI_eq)
    generalize jh_setI (jh_setI (jh_setI (jh_setI s 206 j (nI 0)) 207 j (nI ts.length)) 204 7 (nI 0)) 204 8 (nI 0) = t at ft t8 t7 t6 t5
    have ek : Tp (tok ts j) = ts.length := by
      rw [(tok_ok ok j).2.1, hs]
      unfold skp
      rw [spn_end cq]
      omega
    have e0 : Tk (tok ts j) = 0 := (tok_ok ok j).2.2.2.1.mpr ek
    refine ⟨Fi_ly ft l, Fg_t f (Fi_g (Fi_m ft (fun b i h => by unfold PCu; omega))), ⟨j, hjn, e0, fun j' hj' => ?_⟩, t7, t8, (ft.2.2 204 2 (by omega)).trans g2⟩
    by_cases c : j' = j
    · subst c
      exact ⟨by rw [t6, e0], by rw [t5, ek], fun z => by omega, fun z => by omega, fun z => by omega⟩
    · exact keep (fun i h => ft.2.2 206 i (by omega)) (fun i h => ft.2.2 207 i (by omega)) (fun i h => by rw [ft.2.1]) j' (by omega)
  · rw [if_neg (by rw [g3, nI_leN (by omega) (by omega)]; exact cq)]
    have ed : ts[q]? = some ts[q] := List.getElem?_eq_getElem (by omega)
    generalize ts[q] = d at ed
    obtain ⟨hq9, hd⟩ := tp_i ok ed
    refine ⟨by rw [inb_nI (by omega) (by omega)]; exact hq9, ?_⟩
    have e205 : s.2.1 205 (cl (nI q)) = nI d := by rw [cl_nI (by omega)]; exact htp q d ed
    rw [e205]
    have space : isSp d = true → ∀ o1 o2 o3, X (nI j) (nI q + nI 1) o1 o2 o3 s := fun z o1 o2 o3 => by
      rw [nI_add]
      refine hX (ts.length - (q + 1)) _ _ _ _ _ _ (by omega) ⟨j, q + 1, by omega, rfl, rfl, rfl, hj1, by omega, ?_, l, f, g2, g3, hm⟩
      rw [hs]
      unfold skp
      rw [spn_yes ed z]
      omega
    by_cases c1 : d = 10
    · rw [if_pos (by rw [c1])]
      exact space (by rw [c1]; rfl) _ _ _
    · rw [if_neg (by rw [nI_eqN (by omega) (by omega)]; exact c1)]
      by_cases c2 : d = 32
      · rw [if_pos (by rw [c2])]
        exact space (by rw [c2]; rfl) _ _ _
      · rw [if_neg (by rw [nI_eqN (by omega) (by omega)]; exact c2)]
        have hsq : skp ts (psq ts j) = q := by
          rw [hs]
          unfold skp
          rw [spn_no ed (isSp_no c1 c2)]
          omega
        have etok : tok ts j = (tkn ts q).1 := by
          show (tkn ts (skp ts (psq ts j))).1 = _
          rw [hsq]
        have epsq : psq ts (j + 1) = (tkn ts q).2 := by
          show (tkn ts (skp ts (psq ts j))).2 = _
          rw [hsq]
        have hkn := tkn_ok ok (show q ≤ ts.length by omega)
        refine ⟨hin, ?_⟩
        rw [cl_nI (show j < 2147483648 by omega)]
        have f14 : Fi (fun b i => b = 207 ∧ i = j) s (jh_setI s 207 j (nI q)) := Fi_s (Fi_r _ _) ⟨rfl, rfl⟩
        have e14 : (jh_setI s 207 j (nI q)).2.1 207 j = nI q := rI_eq
        generalize jh_setI s 207 j (nI q) = s14 at f14 e14 ⊢
        have l14 := Fi_ly f14 l
        have put : ∀ (kd r : Nat) (v : Int64) (o1 o2 o3 : Option Value), Tk (tok ts j) = kd → (kd = 1 → v = lN (wrd 37 (Tl (tok ts j)))) → (kd = 2 → v = lN (Tv (tok ts j))) → (kd = 3 → v = lN (Tv (tok ts j))) → r = psq ts (j + 1) → q < r → inb (nI j) 1002 ∧ inb (nI j) 1002 ∧ X (nI j + nI 1) (nI r) o1 o2 o3 (jh_setJ (jh_setI s14 206 j (nI kd)) 208 j v) := by
          intro kd r v o1 o2 o3 h1 h2 h3 h4 h5 h6
          refine ⟨hin, hin, ?_⟩
          rw [nI_add]
          have hle := psq_le ok (j + 1)
          have eI : ∀ b i, ¬ (b = 207 ∧ i = j) → ¬ (b = 206 ∧ i = j) → (jh_setJ (jh_setI s14 206 j (nI kd)) 208 j v).2.1 b i = s.2.1 b i := fun b i z1 z2 => (rI_ne (by omega) : (jh_setI s14 206 j (nI kd)).2.1 b i = s14.2.1 b i).trans (f14.2.2 b i z1)
          refine hX (ts.length - r) _ _ _ _ _ _ (by omega) ⟨j + 1, r, by omega, rfl, rfl, rfl, by omega, by omega, by rw [h5], ly_setJ (ly_setI l14), Fg_sJ (Fg_sI (Fg_t f (Fi_g (Fi_m f14 (fun b i h => by unfold PCu; omega)))) (by unfold PCu; omega)) (by unfold PCu; omega), (eI _ _ (by omega) (by omega)).trans g2, (eI _ _ (by omega) (by omega)).trans g3, fun j' hj' => ?_⟩
          by_cases c : j' = j
          · subst c
            have v8 : (jh_setJ (jh_setI s14 206 j' (nI kd)) 208 j' v).2.2.1 208 j' = v := rJ_eq
            refine ⟨?_, ?_, fun z => ?_, fun z => ?_, fun z => ?_⟩
            · rw [h1, rJ_1, rI_eq]
            · rw [rJ_1, rI_ne (by omega), e14, etok, hkn.2.1]
            · rw [v8]; exact h2 (by omega)
            · rw [v8]; exact h3 (by omega)
            · rw [v8]; exact h4 (by omega)
          · exact keep (fun i h => eI _ _ (by omega) (by omega)) (fun i h => eI _ _ (by omega) (by omega)) (fun i h => (rJ_ne (by omega)).trans (by rw [rI_J, f14.2.1])) j' (by omega)
        rw [tkn_some ed] at etok epsq
        refine WE_i (m_isLetter l14 (by omega)) ?_
        by_cases d1 : isLt d = true
        · rw [if_pos d1] at etok epsq
          have s1 := spn_yes ed d1
          have s2 := spn_le isLt ts q (by omega)
          rw [d1, if_neg (by decide)]
          have fin : ∀ (r : Nat) (v : Int64) (o1 o2 o3 : Option Value), r = q + spn isLt ts q → (spn isLt ts q ≤ 8 → v = lN (wrd 37 (ltr ts q))) → (if nI r - nI q ≤ nI 8 then inb (nI j) 1002 ∧ inb (nI j) 1002 ∧ X (nI j + nI 1) (nI r) o1 o2 o3 (jh_setJ (jh_setI s14 206 j (nI 1)) 208 j v) else inb (nI j) 1002 ∧ inb (nI j) 1002 ∧ X (nI j + nI 1) (nI r) o1 o2 o3 (jh_setJ (jh_setI s14 206 j (nI 4)) 208 j v)) := by
            intro r v o1 o2 o3 hr hv
            subst hr
            rw [nI_subN (by omega), show q + spn isLt ts q - q = spn isLt ts q by omega]
            by_cases c8 : spn isLt ts q ≤ 8
            · rw [if_pos (by rw [nI_leN (by omega) (by omega)]; exact c8)]
              rw [if_pos c8] at etok
              exact put 1 _ v o1 o2 o3 (by rw [etok]) (fun _ => by rw [etok]; exact hv c8) (fun z => ab_ne z rfl) (fun z => ab_ne z rfl) epsq.symm (by omega)
            · rw [if_neg (by rw [nI_leN (by omega) (by omega)]; exact c8)]
              rw [if_neg c8] at etok
              exact put 4 _ v o1 o2 o3 (by rw [etok]) (fun z => ab_ne z rfl) (fun z => ab_ne z rfl) (fun z => ab_ne z rfl) epsq.symm (by omega)
          refine Lp2_inv (I := fun m v w => ∃ r u, q ≤ r ∧ r ≤ ts.length ∧ m = ts.length - r ∧ v = nI r ∧ w = lN u ∧ (spn isLt ts q ≤ 8 → flw 37 ts r u = wrd 37 (ltr ts q)) ∧ r + spn isLt ts r = q + spn isLt ts q) ?_ (m := ts.length - q) ⟨q, 0, by omega, by omega, rfl, rfl, rfl, fun _ => flw_wrd 37 ts q, rfl⟩
          rintro m v w ⟨r, u, hr1, hr2, rfl, rfl, rfl, hf, hr3⟩ Y hY
          by_cases cr : ts.length ≤ r
          · rw [if_pos (by rw [f14.2.2 204 3 (by omega), g3, nI_leN (by omega) (by omega)]; exact cr)]
            rw [spn_end cr] at hr3
            rw [flw_end cr] at hf
            exact fin r _ _ _ _ (by omega) (fun z => by rw [hf z])
          · rw [if_neg (by rw [f14.2.2 204 3 (by omega), g3, nI_leN (by omega) (by omega)]; exact cr)]
            have ee : ts[r]? = some ts[r] := List.getElem?_eq_getElem (by omega)
            generalize ts[r] = x at ee
            obtain ⟨hr9, hx⟩ := tp_i ok ee
            have hinr : inb (nI r) 1000 := by rw [inb_nI (by omega) (by omega)]; exact hr9
            refine ⟨hinr, ?_⟩
            rw [cl_nI (show r < 2147483648 by omega), f14.2.2 205 r (by omega), htp r x ee]
            refine WE_i (m_isLetter l14 (by omega)) ?_
            by_cases cx : isLt x = true
            · have t1 := spn_yes ee cx
              rw [cx, if_neg (by decide), nI_subN (by omega)]
              by_cases c8 : 8 ≤ r - q
              · rw [if_pos (by rw [nI_leN (by omega) (by omega)]; exact c8), nI_add]
                exact hY (ts.length - (r + 1)) _ _ (by omega) ⟨r + 1, u, by omega, by omega, rfl, rfl, rfl, fun z => by omega, by omega⟩
              · rw [if_neg (by rw [nI_leN (by omega) (by omega)]; exact c8)]
                refine ⟨hinr, WE_i (m_rank l14 cx) ?_⟩
                have xb := isLt_b cx
                rw [nI_add, nI_l (by omega), show (37 : Int64) = lN 37 from rfl, lN_mul, lN_add]
                exact hY (ts.length - (r + 1)) _ _ (by omega) ⟨r + 1, 37 * u + (x - 96), by omega, by omega, rfl, rfl, rfl, fun z => by rw [← hf z, flw_yes ee cx], by omega⟩
            · rw [Bool.not_eq_true] at cx
              rw [cx, if_pos (by decide)]
              rw [spn_no ee cx] at hr3
              rw [flw_no ee cx] at hf
              exact fin r _ _ _ _ (by omega) (fun z => by rw [hf z])
        · rw [if_neg d1] at etok epsq
          rw [Bool.not_eq_true] at d1
          rw [d1, if_pos (by decide)]
          refine WE_i (m_isDigit l14 (by omega)) ?_
          by_cases d2 : isDg d = true
          · rw [if_pos d2] at etok epsq
            have s1 := spn_yes ed d2
            have s2 := spn_le isDg ts q (by omega)
            rw [d2, if_neg (by decide)]
            have fin : ∀ (r : Nat) (v : Int64) (o1 o2 o3 : Option Value), r = q + spn isDg ts q → (spn isDg ts q ≤ 4 → v = lN (dgv ts q)) → (if nI r - nI q ≤ nI 4 then inb (nI j) 1002 ∧ inb (nI j) 1002 ∧ X (nI j + nI 1) (nI r) o1 o2 o3 (jh_setJ (jh_setI s14 206 j (nI 2)) 208 j v) else inb (nI j) 1002 ∧ inb (nI j) 1002 ∧ X (nI j + nI 1) (nI r) o1 o2 o3 (jh_setJ (jh_setI s14 206 j (nI 4)) 208 j v)) := by
              intro r v o1 o2 o3 hr hv
              subst hr
              rw [nI_subN (by omega), show q + spn isDg ts q - q = spn isDg ts q by omega]
              by_cases c8 : spn isDg ts q ≤ 4
              · rw [if_pos (by rw [nI_leN (by omega) (by omega)]; exact c8)]
                rw [if_pos c8] at etok
                exact put 2 _ v o1 o2 o3 (by rw [etok]) (fun z => ab_ne z rfl) (fun _ => by rw [etok]; exact hv c8) (fun z => ab_ne z rfl) epsq.symm (by omega)
              · rw [if_neg (by rw [nI_leN (by omega) (by omega)]; exact c8)]
                rw [if_neg c8] at etok
                exact put 4 _ v o1 o2 o3 (by rw [etok]) (fun z => ab_ne z rfl) (fun z => ab_ne z rfl) (fun z => ab_ne z rfl) epsq.symm (by omega)
            refine Lp2_inv (I := fun m v w => ∃ r u, q ≤ r ∧ r ≤ ts.length ∧ m = ts.length - r ∧ v = nI r ∧ w = lN u ∧ (spn isDg ts q ≤ 4 → fld ts r u = dgv ts q) ∧ r + spn isDg ts r = q + spn isDg ts q) ?_ (m := ts.length - q) ⟨q, 0, by omega, by omega, rfl, rfl, rfl, fun _ => rfl, rfl⟩
            rintro m v w ⟨r, u, hr1, hr2, rfl, rfl, rfl, hf, hr3⟩ Y hY
            by_cases cr : ts.length ≤ r
            · rw [if_pos (by rw [f14.2.2 204 3 (by omega), g3, nI_leN (by omega) (by omega)]; exact cr)]
              rw [spn_end cr] at hr3
              rw [fld_end cr] at hf
              exact fin r _ _ _ _ (by omega) (fun z => by rw [hf z])
            · rw [if_neg (by rw [f14.2.2 204 3 (by omega), g3, nI_leN (by omega) (by omega)]; exact cr)]
              have ee : ts[r]? = some ts[r] := List.getElem?_eq_getElem (by omega)
              generalize ts[r] = x at ee
              obtain ⟨hr9, hx⟩ := tp_i ok ee
              have hinr : inb (nI r) 1000 := by rw [inb_nI (by omega) (by omega)]; exact hr9
              refine ⟨hinr, ?_⟩
              rw [cl_nI (show r < 2147483648 by omega), f14.2.2 205 r (by omega), htp r x ee]
              refine WE_i (m_isDigit l14 (by omega)) ?_
              by_cases cx : isDg x = true
              · have t1 := spn_yes ee cx
                rw [cx, if_neg (by decide), nI_subN (by omega)]
                by_cases c8 : 4 ≤ r - q
                · rw [if_pos (by rw [nI_leN (by omega) (by omega)]; exact c8), nI_add]
                  exact hY (ts.length - (r + 1)) _ _ (by omega) ⟨r + 1, u, by omega, by omega, rfl, rfl, rfl, fun z => by omega, by omega⟩
                · rw [if_neg (by rw [nI_leN (by omega) (by omega)]; exact c8)]
                  refine ⟨hinr, ?_⟩
                  have xb := isDg_b cx
                  rw [nI_add, nI_l (by omega), show (10 : Int64) = lN 10 from rfl, show (48 : Int64) = lN 48 from rfl, lN_mul, lN_add, lN_sub (by omega), show 10 * u + x - 48 = 10 * u + (x - 48) by omega]
                  exact hY (ts.length - (r + 1)) _ _ (by omega) ⟨r + 1, 10 * u + (x - 48), by omega, by omega, rfl, rfl, rfl, fun z => by rw [← hf z, fld_yes ee cx], by omega⟩
              · rw [Bool.not_eq_true] at cx
                rw [cx, if_pos (by decide)]
                rw [spn_no ee cx] at hr3
                rw [fld_no ee cx] at hf
                exact fin r _ _ _ _ (by omega) (fun z => by rw [hf z])
          · rw [if_neg d2] at etok epsq
            rw [Bool.not_eq_true] at d2
            rw [d2, if_pos (by decide)]
            refine WE_i (m_isSignOf l14 (by omega)) ?_
            rw [nI_l (by omega), nI_add q 1]
            by_cases d3 : isSn d = true
            · rw [if_pos d3] at etok
              rw [d3, if_neg (by decide)]
              exact put 3 _ _ _ _ _ (by rw [etok]) (fun z => ab_ne z rfl) (fun z => ab_ne z rfl) (fun _ => by rw [etok]) epsq.symm (by omega)
            · rw [if_neg d3] at etok
              rw [Bool.not_eq_true] at d3
              rw [d3, if_pos (by decide)]
              exact put 4 _ _ _ _ _ (by rw [etok]) (fun z => ab_ne z rfl) (fun z => ab_ne z rfl) (fun z => ab_ne z rfl) epsq.symm (by omega)
end TK7

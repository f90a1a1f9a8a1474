section SR3
variable {Z : Ste} {x y w : Int32} {h pl : Nat} {s t σ : JH} {P : Nat → Nat → Prop} {H : Hou} {L : Option Lws}
def fhV (o : Option (List Nat)) : Int32 := match o with
  | none => mI 1
  | some r => nI r.length
set_option maxHeartbeats 1000000 in
theorem m_fewestIn {S : Mud} {c : Int32} {T : Nat} (hW : WH H) (hS : WS H S) (M : Ms H L S c σ) (hT : T ≤ 5) : WM q_Md_fewestIn [.ref 204, .int (nI T)] σ (kI fun y s => y = fhV (fhA H S (T + 1) 0) ∧ Ms H L S c s ∧ Fi PRw σ s ∧ mU (fhA H S (T + 1) 0) s) := by
  refine w_Md_fewestIn _ M.1 ?_
  refine Lp2_inv (I := fun m v s => ∃ D, D ≤ T + 1 ∧ m = T + 1 - D ∧ v = nI D ∧ Ms H L S c s ∧ Fi PRw σ s ∧ fhA H S (T + 1 - D) D = fhA H S (T + 1) 0) ?_ (m := T + 1) ⟨0, by omega, by omega, rfl, M, Fi_r _ _, rfl⟩
  rintro m v s ⟨D, hD, rfl, rfl, Ms1, f1, hf⟩ X hX
  refine ⟨Ms1.1, ?_⟩
  by_cases c1 : T < D
  · rw [if_pos (by rw [nI_ltN (by omega) (by omega)]; exact c1)]
    rw [show T + 1 - D = 0 by omega] at hf
    have hf : none = fhA H S (T + 1) 0 := hf
    rw [← hf]
    exact ⟨rfl, Ms1, f1, trivial⟩
  · rw [if_neg (by rw [nI_ltN (by omega) (by omega)]; exact c1)]
    rw [show T + 1 - D = (T - D) + 1 by omega] at hf
    have hf : (match undoR H D S [] with | some r => some r | none => fhA H S (T - D) (D + 1)) = fhA H S (T + 1) 0 := hf
    refine WM_I (m_undoes hW 40 D (by omega) S c [] s (by show D + 0 ≤ 5; omega) hS Ms1 (fun i p e => by cases e)) fun y t ⟨hy, Mt, ft, _, ut⟩ => ⟨Mt.1, ?_⟩
    cases hu : undoR H D S [] with
    | none =>
      rw [hu] at hy hf
      rw [hy, if_pos (by rfl), nI_add]
      refine hX (T + 1 - (D + 1)) _ _ (by omega) ⟨D + 1, by omega, rfl, rfl, Mt, Fi_t f1 ft, ?_⟩
      rw [show T + 1 - (D + 1) = T - D by omega]
      exact hf
    | some r =>
      rw [hu] at hy hf ut
      have hf : some r = fhA H S (T + 1) 0 := hf
      rw [hy, if_neg (by show ¬ bI true = 0; decide), ← hf]
      have hl := lh_len hW D S [] r hu
      have h0 : ([] : List Nat).length = 0 := rfl
      refine ⟨?_, Mt, Fi_t f1 ft, ut⟩
      show nI D = nI r.length
      rw [hl, h0, Nat.zero_add]
set_option maxHeartbeats 1000000 in
theorem a_fewest (hZ : WZ Z) : Agr q_Ct_fewest [.ref 64, .int x, .int y] q_Md_fewest [.ref 204, .int x, .int y] Z := by
  have hW := hZ.1
  rcases rng_c (m := 5) (by omega) x with ⟨d, hd, rfl⟩ | ⟨g1, g2⟩
  · by_cases c : y < 0
    · refine Agr_q (mI 1) hZ (fun h pl σ z => w_Ct_fewest _ _ z.1.1 (yes_c hd (by omega) ?_)) (fun σ z => w_Md_fewest _ _ z.1 (lt_thr hZ z fun s z' f' => ?_))
      · rw [if_pos c]; exact ⟨rfl, z, Fg_r _ _⟩
      · refine WE_i (yes_m z'.1 hd (by omega)) ?_
        rw [if_neg (by decide)]
        exact rows_no c ⟨rfl, z', f'⟩
    · obtain ⟨j, hj, rfl⟩ := Int32_nat c
      have hlen := fhA_len hW (S := (tF Z).1) (d + 1) 0
      refine Agr_q (match fhA (tH Z) (tF Z).1 (d + 1) 0 with | none => mI 1 | some r => if j = 0 then nI r.length else rAt r (j - 1)) hZ (fun h pl σ z => w_Ct_fewest _ _ z.1.1 (yes_c hd (by omega) ?_)) (fun σ z => w_Md_fewest _ _ z.1 (lt_thr hZ z fun s z' f' => ?_))
      · rw [if_neg c]
        by_cases e : j ≤ d
        · rw [if_pos (by rw [nI_leN hj (by omega)]; exact e)]
          refine WM_I (c_findHome mu_114 (by omega) hW hZ.2.1 (Rc_Cs z) (by omega)) fun v s2 ⟨l2, f2, e2, w2⟩ => ⟨l2, ?_⟩
          obtain ⟨r1, r2⟩ := Rc_ok z f2 l2 (fun b j q => by unfold PSk at q; unfold PcT; omega)
          rw [e2]
          cases hA : fhA (tH Z) (tF Z).1 (d + 1) 0 with
          | none => exact ⟨rfl, r1, r2⟩
          | some r =>
            have w3 := w2 r hA
            rw [if_neg (by show ¬ bI true = 0; decide)]
            simp only
            by_cases c0 : j = 0
            · rw [if_pos (by rw [c0]; rfl), if_pos c0]; exact ⟨w3.1, r1, r2⟩
            rw [if_neg (by rw [nI_eq0 hj]; exact c0), if_neg c0, nI_subN (by omega)]
            exact WE_i (c_turnAt l2 (by omega) w3) ⟨rfl, r1, r2⟩
        · rw [if_neg (by rw [nI_leN hj (by omega)]; exact e)]
          refine ⟨?_, z, Fg_r _ _⟩
          cases hA : fhA (tH Z) (tF Z).1 (d + 1) 0 with
          | none => rfl
          | some r =>
            have := hlen r hA
            simp only
            rw [if_neg (by omega), rAt_ge (by omega)]
      · refine WE_i (yes_m z'.1 hd (by omega)) ?_
        rw [if_neg (by decide)]
        refine rows_yes hj ?_
        refine m_toOther hW (Rm_Mb z') fun s1 M1 f1 => ⟨M1.1, ?_⟩
        refine WM_I (m_fewestIn hW hZ.2.1 M1 hd) fun v s6 ⟨hv, M6, f6, B6⟩ => ⟨M6.1, ?_⟩
        have f : Fi (fun b j => PC 2376 91 b j ∨ PRw b j) s s6 := Fi_t (Fi_m f1 (fun b j q => Or.inl q)) (Fi_m f6 (fun b j q => Or.inr q))
        obtain ⟨r1, r2⟩ := Rm_ok hZ z' (Fi_g f) M6.1 (fun b j q => by unfold PC PRw PT at q; unfold PmT; omega)
        have r2 := Fg_t f' r2
        rw [hv]
        cases hA : fhA (tH Z) (tF Z).1 (d + 1) 0 with
        | none => exact ⟨rfl, r1, r2⟩
        | some r =>
          rw [hA] at B6
          obtain ⟨_, b2, b3, b4⟩ : s6.2.1 204 38 = nI 0 ∧ s6.2.1 204 37 = nI r.length ∧ (0 < 100000 ∧ r.length ≤ 5) ∧ ∀ i p, r[i]? = some p → s6.2.1 225 i = nI p := B6
          show if nI r.length < 0 then _ else _
          rw [if_neg (by rw [nI_lt0 (by omega)]; exact id)]
          by_cases c0 : j = 0
          · rw [if_pos (by rw [c0]; rfl)]; exact ⟨(if_pos c0).symm, r1, r2⟩
          rw [if_neg (by rw [nI_eq0 hj]; exact c0)]
          simp only
          rw [if_neg c0]
          show if nI r.length < nI j then _ else _
          by_cases c2 : r.length < j
          · rw [if_pos (by rw [nI_ltN (by omega) hj]; exact c2), rAt_ge (by omega)]; exact ⟨rfl, r1, r2⟩
          · rw [if_neg (by rw [nI_ltN (by omega) hj]; exact c2), nI_subN (by omega)]
            refine ⟨by rw [inb_nI (by omega) (by omega)]; omega, ?_, r1, r2⟩
            rw [cl_nI (by omega)]
            exact rAt_lt (by omega) (fun p e => b4 _ p e)
  · refine Agr_q (mI 1) hZ (fun h pl σ z => w_Ct_fewest _ _ z.1.1 (no_c (α := True) g1 ⟨rfl, z, Fg_r _ _⟩)) (fun σ z => w_Md_fewest _ _ z.1 (lt_thr hZ z fun s z' f' => WE_i (m_within z'.1) ?_))
    rw [g2]
    exact ⟨rfl, z', f'⟩
/-! BEST -/
def bEn (b : Bst) : Nat × List Nat := match b with
  | none => (9, [])
  | some q => q
def bOk (b : Bst) : Prop := ∀ q, b = some q → q.1 ≤ 8 ∧ q.2.length = 1
theorem best_fold (hW : WH H) {S : Mud} : ∀ (l : List Nat) (b : Bst), bOk b → l.foldl (fun b p => lsR H 0 (trnC S p) ([] ++ [p]) b) (bEn b) = bEn (l.foldl (bstS H S) b) ∧ bOk (l.foldl (bstS H S) b) := by
  intro l
  induction l with
  | nil => intro b hb; exact ⟨rfl, hb⟩
  | cons p l ih =>
    intro b hb
    have hw := wrs_le (trnC S p) hW
    have e : lsR H 0 (trnC S p) ([] ++ [p]) (bEn b) = bEn (bstS H S b p) := by
      show (if wrs H (trnC S p) < (bEn b).1 then (wrs H (trnC S p), [p]) else bEn b) = _
      cases b with
      | none => exact if_pos (show wrs H (trnC S p) < 9 by omega)
      | some q =>
        show (if wrs H (trnC S p) < q.1 then (wrs H (trnC S p), [p]) else q) = bEn (if wrs H (trnC S p) < q.1 then some (wrs H (trnC S p), [p]) else some (q.1, q.2))
        split <;> rfl
    have ok : bOk (bstS H S b p) := by
      cases b with
      | none => intro q hq; obtain rfl := Option.some.inj hq; exact ⟨hw, rfl⟩
      | some q =>
        intro r hr
        have hr : (if wrs H (trnC S p) < q.1 then some (wrs H (trnC S p), [p]) else some (q.1, q.2)) = some r := hr
        split at hr
        · obtain rfl := Option.some.inj hr; exact ⟨hw, rfl⟩
        · obtain rfl := Option.some.inj hr; exact hb q rfl
    rw [List.foldl_cons, List.foldl_cons, e]
    exact ih _ ok
theorem best_eq (hW : WH H) {S : Mud} (hS : WS H S) : lsR H 1 S [] (9, []) = bEn (bstR H S) ∧ bOk (bstR H S) := by
  obtain ⟨b1, b2⟩ := best_fold hW (S := S) (opl H S) none (fun q e => by cases e)
  refine ⟨?_, b2⟩
  show (if fww H S 1 < 9 then (opl H S).foldl (fun b p => lsR H 0 (trnC S p) ([] ++ [p]) b) (9, []) else (9, [])) = _
  by_cases c : fww H S 1 < 9
  · rw [if_pos c]; exact b1
  · rw [if_neg c]
    have e : opl H S = [] := by
      cases ho : opl H S with
      | nil => rfl
      | cons p l =>
        exfalso
        have hx : (wrs H (trnC S p), [p]) ∈ Gw H none (lfL H) 1 S [] 0 := by
          show _ ∈ (opl H S).flatMap _
          rw [ho]
          exact List.mem_flatMap.mpr ⟨p, List.mem_cons_self .., List.mem_singleton.mpr rfl⟩
        have h1 := fww_lw hW hS hx
        have h2 := wrs_le (trnC S p) hW
        have h1 : fww H S 1 ≤ wrs H (trnC S p) := h1
        omega
    unfold bstR
    rw [e]
    rfl
set_option maxHeartbeats 1000000 in
theorem a_best (hZ : WZ Z) : Agr q_Ct_best [.ref 64] q_Md_best [.ref 204] Z := by
  have hW := hZ.1
  obtain ⟨e1, e2⟩ := best_eq hW hZ.2.1
  refine Agr_q (bstV (bstR (tH Z) (tF Z).1)) hZ (fun h pl σ z => w_Ct_best z.1.1 ?_) (fun σ z => w_Md_best z.1 (lt_thr hZ z fun s z' f' => ?_))
  · refine WM_I (c_findLeast mu_114 (by omega) hW hZ.2.1 (Rc_Cs z) (by omega) true) fun v s2 ⟨l2, f2, _, w2⟩ => ⟨l2, ?_⟩
    obtain ⟨r1, r2⟩ := Rc_ok z f2 l2 (fun b j q => by unfold PSk at q; unfold PcT; omega)
    obtain ⟨hv, w3⟩ := w2 rfl rfl
    rw [e1] at hv w3
    rw [hv]
    cases hb : bstR (tH Z) (tF Z).1 with
    | none => exact ⟨rfl, r1, r2⟩
    | some q =>
      obtain ⟨q1, q2⟩ := e2 q hb
      rw [hb] at w3
      have w3 : cW q s2 := w3
      show if bI (decide (q.1 ≤ 8)) = 0 then _ else _
      rw [decide_eq_true q1, if_neg (by decide)]
      refine WE_i (c_turnAt l2 (by omega) w3.2.2) ⟨?_, r1, r2⟩
      show rAt q.2 0 = nI (q.2.headD 0)
      cases hq : q.2 with
      | nil => rw [hq] at q2; cases q2
      | cons p l => rfl
  · refine m_toOther hW (Rm_Mb z') fun s1 M1 f1 => ⟨M1.1, ?_⟩
    refine m_bestLoop hW hZ.2.1 M1 fun t Mt ft => ?_
    have f : Fi (fun b j => PC 2376 91 b j ∨ PS 2376 b j) s t := Fi_t (Fi_m f1 (fun b j q => Or.inl q)) (Fi_m ft (fun b j q => Or.inr q))
    obtain ⟨r1, r2⟩ := Rm_ok hZ z' (Fi_g f) Mt.1 (fun b j q => by unfold PC PS at q; unfold PmT; omega)
    exact ⟨rfl, r1, Fg_t f' r2⟩
end SR3

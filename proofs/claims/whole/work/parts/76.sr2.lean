section SR2
variable {Z : Ste} {x y w : Int32} {h pl : Nat} {s t σ : JH} {P : Nat → Nat → Prop} {H : Hou} {L : Option Lws}
theorem fold_keep {α β : Type} {Q : β → Prop} {f : β → α → β} : ∀ (l : List α) (b : β), (∀ b a, a ∈ l → Q b → Q (f b a)) → Q b → Q (l.foldl f b) := by
  intro l
  induction l with
  | nil => intro b _ q; exact q
  | cons a l ih => intro b h q; exact ih _ (fun b' a' ha q' => h b' a' (List.mem_cons_of_mem _ ha) q') (h b a (List.mem_cons_self ..) q)
theorem lsR_len {n : Nat} : ∀ (d : Nat) (S : Mud) (pre : List Nat) (b : Nat × List Nat), pre.length + d ≤ n → b.2.length ≤ n → (lsR H d S pre b).2.length ≤ n := by
  intro d
  induction d with
  | zero => intro S pre b h1 h2; unfold lsR; split; exact h1; exact h2
  | succ d ih =>
    intro S pre b h1 h2
    unfold lsR
    split
    · exact fold_keep (Q := fun b : Nat × List Nat => b.2.length ≤ n) _ _ (fun b p _ hb => ih _ _ _ (by rw [len_app]; omega) hb) h2
    · exact h2
theorem lsA_len {S : Mud} : ∀ T, (lsA H S T).2.length ≤ T := by
  intro T
  induction T with
  | zero => exact Nat.le_refl _
  | succ T ih => exact lsR_len (T + 1) S [] _ (by show 0 + (T + 1) ≤ T + 1; omega) (Nat.le_succ_of_le ih)
def bLn (n : Nat) (b : Bst) : Prop := ∀ q, b = some q → q.2.length ≤ n
theorem chC_len {n : Nat} : ∀ (d : Nat) (S : Mud) (pre : List Nat) (sp : Nat) (b : Bst), pre.length + d ≤ n → bLn n b → bLn n (chC H L d S pre sp b) := by
  intro d
  induction d with
  | zero =>
    intro S pre sp b h1 h2
    unfold chC
    split
    · exact h2
    · split
      · intro q e; cases e; exact h1
      · exact h2
  | succ d ih =>
    intro S pre sp b h1 h2
    unfold chC
    split
    · exact h2
    · exact fold_keep (Q := bLn n) _ _ (fun b p _ hb => ih _ _ _ _ (by rw [len_app]; omega) hb) h2
theorem chA_len {S : Mud} : ∀ T, bLn T (chA H L S T) := by
  intro T
  induction T with
  | zero =>
    show bLn 0 (if cbh H S 0 = true then chC H L 0 S [] 0 none else none)
    split
    · exact chC_len 0 S [] 0 none (Nat.le_refl _) (fun q e => by cases e)
    · intro q e; cases e
  | succ T ih =>
    have ih' : bLn (T + 1) (chA H L S T) := fun q e => Nat.le_succ_of_le (ih q e)
    show bLn (T + 1) (if cbh H S (T + 1) = true then chC H L (T + 1) S [] 0 (chA H L S T) else chA H L S T)
    split
    · exact chC_len (T + 1) S [] 0 _ (by show 0 + (T + 1) ≤ T + 1; omega) ih'
    · exact ih'
theorem fhA_len (hW : WH H) {S : Mud} : ∀ (m D : Nat) (r : List Nat), fhA H S m D = some r → r.length < m + D := by
  intro m
  induction m with
  | zero => intro D r e; cases e
  | succ m ih =>
    intro D r e
    have e : (match undoR H D S [] with | some r => some r | none => fhA H S m (D + 1)) = some r := e
    cases hu : undoR H D S [] with
    | none => rw [hu] at e; have := ih _ _ e; omega
    | some r' =>
      rw [hu] at e
      obtain rfl := Option.some.inj e
      have hl := lh_len hW D S [] r' hu
      have h0 : ([] : List Nat).length = 0 := rfl
      omega
def rAt (r : List Nat) (i : Nat) : Int32 := match r[i]? with
  | some p => nI p
  | none => mI 1
theorem rAt_lt {r : List Nat} {i : Nat} {v : Int32} (h : i < r.length) (hv : ∀ p, r[i]? = some p → v = nI p) : v = rAt r i := by
  unfold rAt
  rw [List.getElem?_eq_getElem h]
  exact hv _ (List.getElem?_eq_getElem h)
theorem rAt_ge {r : List Nat} {i : Nat} (h : r.length ≤ i) : rAt r i = mI 1 := by
  unfold rAt
  rw [List.getElem?_eq_none h]
theorem c_turnAt {r : List Nat} {i : Nat} (hl : Ly s) (hi : i < 2147483648) (k : cK r s) : q_Se_turnAt [.ref 100, .int (nI i)] s = some (some (.int (rAt r i)), s) := by
  refine WE_o (w_Se_turnAt _ hl ?_)
  have h5 := k.2.1
  rw [if_neg (by rw [nI_lt0 hi]; exact id), k.1]
  by_cases c : r.length ≤ i
  · rw [if_pos (by rw [nI_leN (by omega) hi]; exact c), rAt_ge c]
  · rw [if_neg (by rw [nI_leN (by omega) hi]; exact c), if_neg (by rw [nI_leN (by omega) hi]; omega)]
    refine ⟨by rw [inb_nI (by omega) (by omega)]; omega, ?_⟩
    rw [cl_nI (by omega)]
    exact rAt_lt (by omega) (fun p e => k.2.2 i p e)
theorem rows_no {y : Int32} (g : y < 0) {A B : Prop} (h : B) : if 0 ≤ y then A else B := by
  rw [if_neg]
  · exact h
  · intro q
    exact absurd g (Int32.not_lt.mpr q)
theorem rows_yes {j : Nat} (hj : j < 2147483648) {A B : Prop} (h : A) : if 0 ≤ nI j then A else B := by
  rw [if_pos (by rw [nI_0le hj]; trivial)]
  exact h
set_option maxHeartbeats 1000000 in
theorem a_least (hZ : WZ Z) : Agr q_Ct_least [.ref 64, .int x, .int y] q_Md_least [.ref 204, .int x, .int y] Z := by
  have hW := hZ.1
  rcases rng_c (m := 4) (by omega) x with ⟨d, hd, rfl⟩ | ⟨g1, g2⟩
  · by_cases c : y < 0
    · refine Agr_q (mI 1) hZ (fun h pl σ z => w_Ct_least _ _ z.1.1 (yes_c hd (by omega) ?_)) (fun σ z => w_Md_least _ _ z.1 (lt_thr hZ z fun s z' f' => ?_))
      · rw [if_pos c]; exact ⟨rfl, z, Fg_r _ _⟩
      · refine WE_i (yes_m z'.1 hd (by omega)) ?_
        rw [if_neg (by decide)]
        exact rows_no c ⟨rfl, z', f'⟩
    · obtain ⟨j, hj, rfl⟩ := Int32_nat c
      have hlen := lsA_len (H := tH Z) (S := (tF Z).1) d
      refine Agr_q (if j = 0 then nI (lsA (tH Z) (tF Z).1 d).1 else if j = 1 then nI (lsA (tH Z) (tF Z).1 d).2.length else rAt (lsA (tH Z) (tF Z).1 d).2 (j - 2)) hZ (fun h pl σ z => w_Ct_least _ _ z.1.1 (yes_c hd (by omega) ?_)) (fun σ z => w_Md_least _ _ z.1 (lt_thr hZ z fun s z' f' => ?_))
      · rw [if_neg c, nI_add]
        by_cases e : j ≤ d + 1
        · rw [if_pos (by rw [nI_leN hj (by omega)]; exact e)]
          refine WM_I (c_findLeast mu_114 (by omega) hW hZ.2.1 (Rc_Cs z) (by omega) false) fun v s2 ⟨l2, f2, w2, _⟩ => ⟨l2, ?_⟩
          have w2 := w2 rfl
          obtain ⟨r1, r2⟩ := Rc_ok z f2 l2 (fun b j q => by unfold PSk at q; unfold PcT; omega)
          by_cases c0 : j = 0
          · rw [if_pos (by rw [c0]), if_pos c0]; exact ⟨w2.1, r1, r2⟩
          rw [if_neg (by rw [nI_eqN hj (by omega)]; exact c0), if_neg c0]
          by_cases c1 : j = 1
          · rw [if_pos (by rw [c1]), if_pos c1]; exact ⟨w2.2.2.1, r1, r2⟩
          rw [if_neg (by rw [nI_eqN hj (by omega)]; exact c1), if_neg c1, nI_subN (by omega)]
          exact WE_i (c_turnAt l2 (by omega) w2.2.2) ⟨rfl, r1, r2⟩
        · rw [if_neg (by rw [nI_leN hj (by omega)]; exact e)]
          refine ⟨?_, z, Fg_r _ _⟩
          rw [if_neg (by omega), if_neg (by omega), rAt_ge (by omega)]
      · refine WE_i (yes_m z'.1 hd (by omega)) ?_
        rw [if_neg (by decide)]
        refine rows_yes hj ?_
        refine m_toOther hW (Rm_Mb z') fun s1 M1 f1 => ⟨M1.1, ?_⟩
        simp only [lt]
        have f2 : Fi (fun b j => b = 204 ∧ (j = 37 ∨ j = 38)) s1 (jh_setI (jh_setI s1 204 38 (mI 1)) 204 37 (nI 0)) := Fi_s (Fi_s (Fi_r _ _) ⟨rfl, by omega⟩) ⟨rfl, by omega⟩
        have M2 := Ms_f hW M1 f2 (fun b j _ _ => by omega) (fun j => by omega)
        have B2 : mB none (jh_setI (jh_setI s1 204 38 (mI 1)) 204 37 (nI 0)) := ⟨(rI_ne (by omega)).trans rI_eq, rI_eq⟩
        generalize jh_setI (jh_setI s1 204 38 (mI 1)) 204 37 (nI 0) = s5 at f2 M2 B2 ⊢
        refine WM_V (m_leastFrom hW 40 d (by omega) _ _ [] none _ (by show d + 0 ≤ 5; omega) hZ.2.1 M2 (fun i p e => by cases e) B2) fun s6 ⟨M6, f6, _, B6⟩ => ⟨M6.1, ?_⟩
        rw [least_eq hW hZ.2.1] at B6
        obtain ⟨b1, b2, b3, b4⟩ : s6.2.1 204 38 = nI (lsA (tH Z) (tF Z).1 d).1 ∧ s6.2.1 204 37 = nI (lsA (tH Z) (tF Z).1 d).2.length ∧ ((lsA (tH Z) (tF Z).1 d).1 < 100000 ∧ (lsA (tH Z) (tF Z).1 d).2.length ≤ 5) ∧ ∀ i p, (lsA (tH Z) (tF Z).1 d).2[i]? = some p → s6.2.1 225 i = nI p := B6
        have f : Fi (fun b j => PC 2376 91 b j ∨ PRw b j) s s6 := Fi_t (Fi_m f1 (fun b j q => Or.inl q)) (Fi_t (Fi_m f2 (fun b j q => Or.inr (by unfold PRw; omega))) (Fi_m f6 (fun b j q => Or.inr q)))
        obtain ⟨r1, r2⟩ := Rm_ok hZ z' (Fi_g f) M6.1 (fun b j q => by unfold PC PRw PT at q; unfold PmT; omega)
        have r2 := Fg_t f' r2
        by_cases c0 : j = 0
        · rw [if_pos (by rw [c0]; rfl), if_pos c0]; exact ⟨b1, r1, r2⟩
        rw [if_neg (by rw [nI_eq0 hj]; exact c0), if_neg c0]
        by_cases c1 : j = 1
        · rw [if_pos (by rw [c1]), if_pos c1]; exact ⟨b2, r1, r2⟩
        rw [if_neg (by rw [nI_eqN hj (by omega)]; exact c1), if_neg c1, b2, nI_add]
        by_cases c2 : (lsA (tH Z) (tF Z).1 d).2.length + 2 ≤ j
        · rw [if_pos (by rw [nI_leN (by omega) hj]; exact c2), rAt_ge (by omega)]; exact ⟨rfl, r1, r2⟩
        · rw [if_neg (by rw [nI_leN (by omega) hj]; exact c2), nI_subN (by omega)]
          refine ⟨by rw [inb_nI (by omega) (by omega)]; omega, ?_, r1, r2⟩
          rw [cl_nI (by omega)]
          exact rAt_lt (by omega) (fun p e => b4 _ p e)
  · refine Agr_q (mI 1) hZ (fun h pl σ z => w_Ct_least _ _ z.1.1 (no_c (α := True) g1 ⟨rfl, z, Fg_r _ _⟩)) (fun σ z => w_Md_least _ _ z.1 (lt_thr hZ z fun s z' f' => WE_i (m_within z'.1) ?_))
    rw [g2]
    exact ⟨rfl, z', f'⟩
set_option maxHeartbeats 1000000 in
theorem a_cheap (hZ : WZ Z) : Agr q_Ct_cheap [.ref 64, .int x, .int y] q_Md_cheap [.ref 204, .int x, .int y] Z := by
  have hW := hZ.1
  rcases rng_c (m := 5) (by omega) x with ⟨d, hd, rfl⟩ | ⟨g1, g2⟩
  · by_cases c : y < 0
    · refine Agr_q (mI 1) hZ (fun h pl σ z => w_Ct_cheap _ _ z.1.1 (yes_c hd (by omega) ?_)) (fun σ z => w_Md_cheap _ _ z.1 (lt_thr hZ z fun s z' f' => ?_))
      · rw [if_pos c]; exact ⟨rfl, z, Fg_r _ _⟩
      · refine WE_i (yes_m z'.1 hd (by omega)) ?_
        rw [if_neg (by decide)]
        exact rows_no c ⟨rfl, z', f'⟩
    · obtain ⟨j, hj, rfl⟩ := Int32_nat c
      have hlen := chA_len (H := tH Z) (L := tL Z) (S := (tF Z).1) d
      refine Agr_q (match chA (tH Z) (tL Z) (tF Z).1 d with | none => mI 1 | some q => if j = 0 then nI q.1 else if j = 1 then nI q.2.length else rAt q.2 (j - 2)) hZ (fun h pl σ z => w_Ct_cheap _ _ z.1.1 (yes_c hd (by omega) ?_)) (fun σ z => w_Md_cheap _ _ z.1 (lt_thr hZ z fun s z' f' => ?_))
      · rw [if_neg c, nI_add]
        by_cases e : j ≤ d + 1
        · rw [if_pos (by rw [nI_leN hj (by omega)]; exact e)]
          refine WM_I (c_findCheap mu_114 (by omega) hW hZ.2.1 (Rc_Cs z) z.2.2.1 (by omega)) fun v s2 ⟨l2, f2, e2, w2⟩ => ⟨l2, ?_⟩
          obtain ⟨r1, r2⟩ := Rc_ok z f2 l2 (fun b j q => by unfold PSk at q; unfold PcT; omega)
          rw [e2]
          cases hA : chA (tH Z) (tL Z) (tF Z).1 d with
          | none => exact ⟨rfl, r1, r2⟩
          | some q =>
            rw [hA] at w2
            obtain ⟨w1, _, w3⟩ : s2.2.1 100 6 = nI q.1 ∧ q.1 < 100000 ∧ cK q.2 s2 := w2
            rw [if_neg (by show ¬ bI true = 0; decide)]
            simp only
            by_cases c0 : j = 0
            · rw [if_pos (by rw [c0]), if_pos c0]; exact ⟨w1, r1, r2⟩
            rw [if_neg (by rw [nI_eqN hj (by omega)]; exact c0), if_neg c0]
            by_cases c1 : j = 1
            · rw [if_pos (by rw [c1]), if_pos c1]; exact ⟨w3.1, r1, r2⟩
            rw [if_neg (by rw [nI_eqN hj (by omega)]; exact c1), if_neg c1, nI_subN (by omega)]
            exact WE_i (c_turnAt l2 (by omega) w3) ⟨rfl, r1, r2⟩
        · rw [if_neg (by rw [nI_leN hj (by omega)]; exact e)]
          refine ⟨?_, z, Fg_r _ _⟩
          cases hA : chA (tH Z) (tL Z) (tF Z).1 d with
          | none => rfl
          | some q =>
            have := hlen q hA
            simp only
            rw [if_neg (by omega), if_neg (by omega), rAt_ge (by omega)]
      · refine WE_i (yes_m z'.1 hd (by omega)) ?_
        rw [if_neg (by decide)]
        refine rows_yes hj ?_
        refine m_toOther hW (Rm_Mb z') fun s1 M1 f1 => ⟨M1.1, ?_⟩
        simp only [lt]
        have f2 : Fi (fun b j => b = 204 ∧ (j = 37 ∨ j = 38)) s1 (jh_setI (jh_setI s1 204 38 (mI 1)) 204 37 (nI 0)) := Fi_s (Fi_s (Fi_r _ _) ⟨rfl, by omega⟩) ⟨rfl, by omega⟩
        have M2 := Ms_f hW M1 f2 (fun b j _ _ => by omega) (fun j => by omega)
        have B2 : mB none (jh_setI (jh_setI s1 204 38 (mI 1)) 204 37 (nI 0)) := ⟨(rI_ne (by omega)).trans rI_eq, rI_eq⟩
        generalize jh_setI (jh_setI s1 204 38 (mI 1)) 204 37 (nI 0) = s5 at f2 M2 B2 ⊢
        refine WM_V (m_cheapFrom hW 40 d (by omega) _ _ [] 0 none _ (by show d + 0 ≤ 5; omega) (by omega) hZ.2.1 M2 (fun i p e => by cases e) B2) fun s6 ⟨M6, f6, _, B6⟩ => ⟨M6.1, ?_⟩
        rw [cheap_eq hW hZ.2.1] at B6
        have f : Fi (fun b j => PC 2376 91 b j ∨ PRw b j) s s6 := Fi_t (Fi_m f1 (fun b j q => Or.inl q)) (Fi_t (Fi_m f2 (fun b j q => Or.inr (by unfold PRw; omega))) (Fi_m f6 (fun b j q => Or.inr q)))
        obtain ⟨r1, r2⟩ := Rm_ok hZ z' (Fi_g f) M6.1 (fun b j q => by unfold PC PRw PT at q; unfold PmT; omega)
        have r2 := Fg_t f' r2
        cases hA : chA (tH Z) (tL Z) (tF Z).1 d with
        | none =>
          rw [hA] at B6
          obtain ⟨b1, _⟩ : s6.2.1 204 38 = mI 1 ∧ s6.2.1 204 37 = nI 0 := B6
          rw [b1, if_neg (by decide)]
          exact ⟨rfl, r1, r2⟩
        | some q =>
          rw [hA] at B6
          obtain ⟨b1, b2, b3, b4⟩ : s6.2.1 204 38 = nI q.1 ∧ s6.2.1 204 37 = nI q.2.length ∧ (q.1 < 100000 ∧ q.2.length ≤ 5) ∧ ∀ i p, q.2[i]? = some p → s6.2.1 225 i = nI p := B6
          rw [b1]
          refine rows_yes (by omega) ?_
          simp only
          by_cases c0 : j = 0
          · rw [if_pos (by rw [c0]; rfl), if_pos c0]; exact ⟨rfl, r1, r2⟩
          rw [if_neg (by rw [nI_eq0 hj]; exact c0), if_neg c0]
          by_cases c1 : j = 1
          · rw [if_pos (by rw [c1]), if_pos c1]; exact ⟨b2, r1, r2⟩
          rw [if_neg (by rw [nI_eqN hj (by omega)]; exact c1), if_neg c1, b2, nI_add]
          by_cases c2 : q.2.length + 2 ≤ j
          · rw [if_pos (by rw [nI_leN (by omega) hj]; exact c2), rAt_ge (by omega)]; exact ⟨rfl, r1, r2⟩
          · rw [if_neg (by rw [nI_leN (by omega) hj]; exact c2), nI_subN (by omega)]
            refine ⟨by rw [inb_nI (by omega) (by omega)]; omega, ?_, r1, r2⟩
            rw [cl_nI (by omega)]
            exact rAt_lt (by omega) (fun p e => b4 _ p e)
  · refine Agr_q (mI 1) hZ (fun h pl σ z => w_Ct_cheap _ _ z.1.1 (no_c (α := True) g1 ⟨rfl, z, Fg_r _ _⟩)) (fun σ z => w_Md_cheap _ _ z.1 (lt_thr hZ z fun s z' f' => WE_i (m_within z'.1) ?_))
    rw [g2]
    exact ⟨rfl, z', f'⟩
end SR2

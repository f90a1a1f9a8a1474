/-! ===== LEAST and CHEAP: rows by their lengths, and rows as the model walks through them ===== -/
abbrev Lf : Type := Mud → List Nat → Nat → List Cd
def Gw (H : Hou) (L : Option Lws) (lf : Lf) : Nat → Mud → List Nat → Nat → List Cd
  | 0, S, pre, sp => lf S pre sp
  | d + 1, S, pre, sp => (opl H S).flatMap (fun p => Gw H L lf d (trnC S p) (pre ++ [p]) (sp + ctn H L S (p / 8) (p % 8)))
def Gp (H : Hou) (L : Option Lws) (lf : Lf) : Nat → Mud → List Nat → Nat → List Cd
  | 0, S, pre, sp => lf S pre sp
  | d + 1, S, pre, sp => lf S pre sp ++ (opl H S).flatMap (fun p => Gp H L lf d (trnC S p) (pre ++ [p]) (sp + ctn H L S (p / 8) (p % 8)))
def lfOk (lf : Lf) : Prop := ∀ S pre sp x, x ∈ lf S pre sp → x.2 = pre
section E3
variable {H : Hou} {L : Option Lws} {lf : Lf} {S : Mud} {p d : Nat}
theorem Gw_len (hlf : lfOk lf) : ∀ (d : Nat) (S : Mud) (pre : List Nat) (sp : Nat) (x : Cd), x ∈ Gw H L lf d S pre sp → x.2.length = pre.length + d := by
  intro d
  induction d with
  | zero => intro S pre sp x hx; rw [hlf S pre sp x hx]; rfl
  | succ d ih =>
    intro S pre sp x hx
    obtain ⟨p, _, h⟩ := List.mem_flatMap.mp hx
    have := ih _ _ _ _ h
    rw [len_app] at this
    omega
theorem Gp_len (hlf : lfOk lf) : ∀ (d : Nat) (S : Mud) (pre : List Nat) (sp : Nat) (x : Cd), x ∈ Gp H L lf d S pre sp → pre.length ≤ x.2.length := by
  intro d
  induction d with
  | zero => intro S pre sp x hx; rw [hlf S pre sp x hx]; exact Nat.le_refl _
  | succ d ih =>
    intro S pre sp x hx
    rcases List.mem_append.mp hx with h | h
    · rw [hlf S pre sp x h]; exact Nat.le_refl _
    · obtain ⟨p, _, h⟩ := List.mem_flatMap.mp h
      have := ih _ _ _ _ h
      rw [len_app] at this
      omega
theorem flt_all {l : List Cd} {n : Nat} (h : ∀ x, x ∈ l → x.2.length = n) : l.filter (fun x => decide (x.2.length = n)) = l := List.filter_eq_self.mpr (fun x hx => decide_eq_true (h x hx))
theorem flt_none {l : List Cd} {n : Nat} (h : ∀ x, x ∈ l → x.2.length ≠ n) : l.filter (fun x => decide (x.2.length = n)) = [] := List.filter_eq_nil_iff.mpr (fun x hx q => h x hx (of_decide_eq_true q))
theorem Gp_flt (hlf : lfOk lf) : ∀ (T : Nat) (S : Mud) (pre : List Nat) (sp m : Nat), (Gp H L lf T S pre sp).filter (fun x => decide (x.2.length = pre.length + m)) = if m ≤ T then Gw H L lf m S pre sp else [] := by
  intro T
  induction T with
  | zero =>
    intro S pre sp m
    show (lf S pre sp).filter _ = _
    by_cases c : m = 0
    · rw [if_pos (by omega), c]
      exact flt_all (fun x hx => by rw [hlf S pre sp x hx]; rfl)
    · rw [if_neg (by omega)]
      exact flt_none (fun x hx => by rw [hlf S pre sp x hx]; omega)
  | succ T ih =>
    intro S pre sp m
    show (lf S pre sp ++ (opl H S).flatMap _).filter _ = _
    rw [List.filter_append, List.filter_flatMap]
    cases m with
    | zero =>
      rw [if_pos (by omega), flt_all (fun x hx => by rw [hlf S pre sp x hx]; rfl)]
      have : (opl H S).flatMap (fun a => (Gp H L lf T (trnC S a) (pre ++ [a]) (sp + ctn H L S (a / 8) (a % 8))).filter (fun x => decide (x.2.length = pre.length + 0))) = [] := by
        rw [List.flatMap_eq_nil_iff]
        intro p _
        refine flt_none (fun x hx => ?_)
        have := Gp_len hlf _ _ _ _ _ hx
        rw [len_app] at this
        omega
      rw [this, List.append_nil]
      rfl
    | succ m =>
      rw [flt_none (fun x hx => by rw [hlf S pre sp x hx]; omega), List.nil_append]
      have e : ∀ a, (Gp H L lf T (trnC S a) (pre ++ [a]) (sp + ctn H L S (a / 8) (a % 8))).filter (fun x => decide (x.2.length = pre.length + (m + 1))) = if m ≤ T then Gw H L lf m (trnC S a) (pre ++ [a]) (sp + ctn H L S (a / 8) (a % 8)) else [] := by
        intro a
        rw [← ih, len_app, show pre.length + 1 + m = pre.length + (m + 1) by omega]
      simp only [e]
      by_cases c : m ≤ T
      · rw [if_pos (by omega)]
        simp only [if_pos c]
        rfl
      · rw [if_neg (by omega)]
        simp only [if_neg c]
        rw [List.flatMap_eq_nil_iff]
        intro _ _
        rfl
/-- all rows of at most T turns, shorter ones first -/
def Gs (H : Hou) (L : Option Lws) (lf : Lf) (S : Mud) : Nat → List Cd
  | 0 => Gw H L lf 0 S [] 0
  | T + 1 => Gs H L lf S T ++ Gw H L lf (T + 1) S [] 0
theorem Gs_len (hlf : lfOk lf) : ∀ T x, x ∈ Gs H L lf S T → x.2.length ≤ T := by
  intro T
  induction T with
  | zero => intro x hx; rw [Gw_len hlf _ _ _ _ _ hx]; exact Nat.le_refl _
  | succ T ih =>
    intro x hx
    rcases List.mem_append.mp hx with h | h
    · have := ih x h; omega
    · have := Gw_len hlf _ _ _ _ _ h; simp at this; omega
theorem Gs_flt (hlf : lfOk lf) (m : Nat) : ∀ T, (Gs H L lf S T).filter (fun x => decide (x.2.length = m)) = if m ≤ T then Gw H L lf m S [] 0 else [] := by
  intro T
  induction T with
  | zero =>
    show (Gw H L lf 0 S [] 0).filter _ = _
    by_cases c : m = 0
    · rw [if_pos (by omega), c]
      exact flt_all (fun x hx => by have := Gw_len hlf _ _ _ _ _ hx; simpa using this)
    · rw [if_neg (by omega)]
      exact flt_none (fun x hx => by have := Gw_len hlf _ _ _ _ _ hx; simp at this; rw [this]; simp; omega)
  | succ T ih =>
    show (Gs H L lf S T ++ Gw H L lf (T + 1) S [] 0).filter _ = _
    rw [List.filter_append, ih]
    by_cases c : m = T + 1
    · rw [if_neg (by omega), if_pos (by omega), List.nil_append, c]
      exact flt_all (fun x hx => by have := Gw_len hlf _ _ _ _ _ hx; simpa using this)
    · rw [flt_none (fun x hx => by have := Gw_len hlf _ _ _ _ _ hx; simp at this; omega), List.append_nil]
      by_cases c2 : m ≤ T
      · rw [if_pos c2, if_pos (by omega)]
      · rw [if_neg c2, if_neg (by omega)]
theorem Gs_sort (hlf : lfOk lf) : ∀ T, (Gs H L lf S T).Pairwise (fun x y => x.2.length ≤ y.2.length) := by
  have w : ∀ d, (Gw H L lf d S [] 0).Pairwise (fun x y => x.2.length ≤ y.2.length) := by
    intro d
    refine List.pairwise_iff_forall_sublist.mpr (fun {x y} hs => ?_)
    have h1 := Gw_len hlf _ _ _ _ x (hs.subset (List.mem_cons_self ..))
    have h2 := Gw_len hlf _ _ _ _ y (hs.subset (List.mem_cons_of_mem _ (List.mem_cons_self ..)))
    omega
  intro T
  induction T with
  | zero => exact w 0
  | succ T ih =>
    refine List.pairwise_append.mpr ⟨ih, w _, fun x hx y hy => ?_⟩
    have h1 := Gs_len hlf T x hx
    have h2 := Gw_len hlf _ _ _ _ y hy
    omega
theorem Gs_Gp (hlf : lfOk lf) (T : Nat) : (Gs H L lf S T).foldl fl1 none = (Gp H L lf T S [] 0).foldl fl2 none := by
  rw [← fold_sorted none 0 (fun w r q => by cases q) (fun x _ => Nat.zero_le _) (Gs_sort hlf T)]
  refine fold_same (fun n => ?_)
  have := Gp_flt (H := H) (L := L) hlf T S [] 0 n
  rw [Gs_flt hlf n T]
  rw [show ([] : List Nat).length + n = n by simp] at this
  exact this.symm
theorem foldl_fm {α β γ : Type} {l : List α} {f : α → List β} {g : γ → β → γ} (c : γ) : (l.flatMap f).foldl g c = l.foldl (fun c a => (f a).foldl g c) c := by
  induction l generalizing c with
  | nil => rfl
  | cons a l ih => rw [List.flatMap_cons, List.foldl_append, List.foldl_cons, ih]
/-! LEAST -/
def lfL (H : Hou) : Lf := fun S pre _ => [(wrs H S, pre)]
theorem lfL_ok : lfOk (lfL H) := fun S pre sp x hx => by rw [List.mem_singleton.mp hx]
theorem fl2_same {X : List Cd} {w : Nat} {r : List Nat} (h : ∀ x, x ∈ X → w < x.1 ∨ (w = x.1 ∧ r.length ≤ x.2.length)) : X.foldl fl2 (some (w, r)) = some (w, r) := by
  induction X with
  | nil => rfl
  | cons x X ih =>
    have hx := h x (List.mem_cons_self ..)
    rw [List.foldl_cons, show fl2 (some (w, r)) x = some (w, r) by show (if _ then _ else _) = _; rw [if_neg (by omega)]]
    exact ih (fun y hy => h y (List.mem_cons_of_mem _ hy))
theorem fl1_same {X : List Cd} {w : Nat} {r : List Nat} (h : ∀ x, x ∈ X → w ≤ x.1) : X.foldl fl1 (some (w, r)) = some (w, r) := by
  induction X with
  | nil => rfl
  | cons x X ih =>
    have hx := h x (List.mem_cons_self ..)
    rw [List.foldl_cons, show fl1 (some (w, r)) x = some (w, r) by show (if _ then _ else _) = _; rw [if_neg (by omega)]]
    exact ih (fun y hy => h y (List.mem_cons_of_mem _ hy))
theorem least_Gp : ∀ (d : Nat) (S : Mud) (pre : List Nat) (sp : Nat) (b : Bst), leastR H d S pre b = (Gp H L (lfL H) d S pre sp).foldl fl2 b := by
  intro d
  induction d with
  | zero => intro S pre sp b; rfl
  | succ d ih =>
    intro S pre sp b
    show (if lstop (lbt b (wrs H S) pre) pre.length = true then _ else _) = ([(wrs H S, pre)] ++ _).foldl fl2 b
    rw [List.foldl_append, show [(wrs H S, pre)].foldl fl2 b = lbt b (wrs H S) pre from rfl]
    by_cases c : lstop (lbt b (wrs H S) pre) pre.length = true
    · rw [if_pos c]
      cases hb : lbt b (wrs H S) pre with
      | none => rw [hb] at c; cases c
      | some q =>
        obtain ⟨w, r⟩ := q
        rw [hb] at c
        have c := of_decide_eq_true c
        refine (fl2_same (fun x hx => ?_)).symm
        obtain ⟨p, _, h⟩ := List.mem_flatMap.mp hx
        have := Gp_len lfL_ok _ _ _ _ _ h
        rw [len_app] at this
        omega
    · rw [if_neg c, foldl_fm]
      exact foldl_ext' (fun q _ a => ih _ _ _ _) _
theorem fww_le (hW : WH H) : ∀ (d : Nat) (S : Mud) (pre : List Nat) (sp : Nat), WS H S → ∀ x, x ∈ Gw H L (lfL H) d S pre sp → cntB (stk H S) (Hn H) ≤ x.1 ∧ wrs H S ≤ x.1 + 2 * d ∧ (ned H S ≤ x.1 + d) ∧ (nocat H = true → d < ned H S → ned H S + 1 ≤ x.1 + d) := by
  intro d
  induction d with
  | zero =>
    intro S pre sp hS x hx
    rw [List.mem_singleton.mp hx]
    have h1 := ned_wrs hW hS
    exact ⟨stk_wrs, by simp, h1.1, fun q z => h1.2 q z⟩
  | succ d ih =>
    intro S pre sp hS x hx
    obtain ⟨p, hp, h⟩ := List.mem_flatMap.mp hx
    obtain ⟨i1, i2, i3, i4⟩ := ih _ _ _ (WS_trnC hW hS hp) x h
    have a1 := stk_cnt hW hS hp
    have a2 := (wrs_trn hW hS hp).1
    have a3 := (ned_trn hW hS hp).1
    refine ⟨by omega, by omega, by omega, fun q z => ?_⟩
    have := i4 q (by omega)
    omega
theorem fww_lw (hW : WH H) (hS : WS H S) {pre : List Nat} {sp : Nat} {x : Cd} (hx : x ∈ Gw H L (lfL H) d S pre sp) : fww H S d ≤ x.1 := by
  obtain ⟨h1, h2, h3, h4⟩ := fww_le hW d S pre sp hS x hx
  unfold fww
  by_cases c : ned H S ≤ d
  · rw [if_pos c]; omega
  · rw [if_neg c]
    by_cases z : nocat H = true
    · have := h4 z (by omega)
      rw [if_pos z]; omega
    · rw [if_neg z]; omega
theorem ls_Gw (hW : WH H) : ∀ (d : Nat) (S : Mud) (pre : List Nat) (sp : Nat) (b : Cd), WS H S → some (lsR H d S pre b) = (Gw H L (lfL H) d S pre sp).foldl fl1 (some b) := by
  intro d
  induction d with
  | zero =>
    intro S pre sp b hS
    obtain ⟨w, r⟩ := b
    show some (if wrs H S < w then (wrs H S, pre) else (w, r)) = (if wrs H S < w then some (wrs H S, pre) else some (w, r))
    by_cases c : wrs H S < w
    · rw [if_pos c, if_pos c]
    · rw [if_neg c, if_neg c]
  | succ d ih =>
    intro S pre sp b hS
    show some (if fww H S (d + 1) < b.1 then _ else b) = _
    by_cases c : fww H S (d + 1) < b.1
    · rw [if_pos c]
      show _ = ((opl H S).flatMap _).foldl fl1 (some b)
      rw [foldl_fm]
      have : ∀ (l : List Nat) (b : Cd), (∀ q ∈ l, q ∈ opl H S) → some (l.foldl (fun b p => lsR H d (trnC S p) (pre ++ [p]) b) b) = l.foldl (fun c a => (Gw H L (lfL H) d (trnC S a) (pre ++ [a]) (sp + ctn H L S (a / 8) (a % 8))).foldl fl1 c) (some b) := by
        intro l
        induction l with
        | nil => intro b _; rfl
        | cons p l ihl =>
          intro b hl
          rw [List.foldl_cons, List.foldl_cons, ← ih _ _ _ _ (WS_trnC hW hS (hl p (List.mem_cons_self ..)))]
          exact ihl _ (fun q hq => hl q (List.mem_cons_of_mem _ hq))
      exact this _ _ (fun q h => h)
    · rw [if_neg c]
      obtain ⟨w, r⟩ := b
      refine (fl1_same (fun x hx => ?_)).symm
      have := fww_lw hW hS hx
      simp only at c
      omega
/-- LEAST by the class: longer and longer rows -/
def lsA (H : Hou) (S : Mud) : Nat → Cd
  | 0 => (wrs H S, [])
  | T + 1 => lsR H (T + 1) S [] (lsA H S T)
theorem lsA_Gs (hW : WH H) (hS : WS H S) : ∀ T, some (lsA H S T) = (Gs H L (lfL H) S T).foldl fl1 none := by
  intro T
  induction T with
  | zero => rfl
  | succ T ih =>
    show some (lsR H (T + 1) S [] (lsA H S T)) = (Gs H L (lfL H) S T ++ Gw H L (lfL H) (T + 1) S [] 0).foldl fl1 none
    rw [List.foldl_append, ← ih, ← ls_Gw hW _ _ _ _ _ hS]
theorem least_eq (hW : WH H) (hS : WS H S) (T : Nat) : leastR H T S [] none = some (lsA H S T) := by
  rw [lsA_Gs (L := none) hW hS T, Gs_Gp lfL_ok, least_Gp (L := none) T S [] 0 none]
/-! CHEAP -/
def lfC (H : Hou) : Lf := fun S pre sp => if wrs H S = 0 then [(sp, pre)] else []
theorem lfC_mem {pre : List Nat} {sp : Nat} {x : Cd} (h : x ∈ lfC H S pre sp) : x = (sp, pre) ∧ wrs H S = 0 := by
  unfold lfC at h
  by_cases c : wrs H S = 0
  · rw [if_pos c] at h; exact ⟨List.mem_singleton.mp h, c⟩
  · rw [if_neg c] at h; cases h
theorem lfC_ok : lfOk (lfC H) := fun S pre sp x hx => by rw [(lfC_mem hx).1]
theorem Cw_need (hW : WH H) : ∀ (d : Nat) (S : Mud) (pre : List Nat) (sp : Nat), WS H S → ∀ x, x ∈ Gw H L (lfC H) d S pre sp → sp ≤ x.1 ∧ wrs H S ≤ 2 * d ∧ ned H S ≤ d ∧ anyst H S = false ∧ (nocat H = true → (d + ned H S) % 2 = 0) := by
  intro d
  induction d with
  | zero =>
    intro S pre sp hS x hx
    obtain ⟨h1, c⟩ := lfC_mem hx
    have h2 := (ned_wrs hW hS).1
    refine ⟨by rw [h1]; exact Nat.le_refl _, by omega, by omega, ?_, fun _ => by omega⟩
    cases ha : anyst H S
    · rfl
    · have := any_wrs ha; omega
  | succ d ih =>
    intro S pre sp hS x hx
    obtain ⟨p, hp, h⟩ := List.mem_flatMap.mp hx
    obtain ⟨i0, i1, i2, i3, i4⟩ := ih _ _ _ (WS_trnC hW hS hp) x h
    have a2 := (wrs_trn hW hS hp).1
    have a3 := ned_trn hW hS hp
    refine ⟨by omega, by omega, by omega, ?_, fun q => ?_⟩
    · cases ha : anyst H S
      · rfl
      · rw [any_trn hW hS hp ha] at i3; cases i3
    · have := i4 q
      have := a3.2.2 q
      omega
theorem Cp_need (hW : WH H) : ∀ (d : Nat) (S : Mud) (pre : List Nat) (sp : Nat), WS H S → ∀ x, x ∈ Gp H L (lfC H) d S pre sp → sp ≤ x.1 ∧ wrs H S ≤ 2 * d := by
  intro d
  induction d with
  | zero =>
    intro S pre sp hS x hx
    obtain ⟨h1, c⟩ := lfC_mem hx
    exact ⟨by rw [h1]; exact Nat.le_refl _, by omega⟩
  | succ d ih =>
    intro S pre sp hS x hx
    rcases List.mem_append.mp hx with h | h
    · obtain ⟨h1, c⟩ := lfC_mem h
      exact ⟨by rw [h1]; exact Nat.le_refl _, by omega⟩
    · obtain ⟨p, hp, h⟩ := List.mem_flatMap.mp h
      obtain ⟨i0, i1⟩ := ih _ _ _ (WS_trnC hW hS hp) x h
      have a2 := (wrs_trn hW hS hp).1
      exact ⟨by omega, by omega⟩
theorem nil_of {X : List Cd} (h : ∀ x, ¬ x ∈ X) : X = [] := List.eq_nil_iff_forall_not_mem.mpr h
theorem cheap_Gp (hW : WH H) : ∀ (d : Nat) (S : Mud) (pre : List Nat) (paid : Nat) (b : Bst), WS H S → cheapR H L d S pre paid b = (Gp H L (lfC H) d S pre paid).foldl fl2 b := by
  intro d
  induction d with
  | zero =>
    intro S pre paid b hS
    show (if 0 < wrs H S then b else if cworse b paid pre.length = true then b else some (paid, pre)) = (lfC H S pre paid).foldl fl2 b
    unfold lfC
    by_cases c : wrs H S = 0
    · rw [if_neg (by omega), if_pos c]
      show _ = fl2 b (paid, pre)
      cases b with
      | none => rfl
      | some q =>
        obtain ⟨w, r⟩ := q
        show (if decide (w < paid ∨ (paid = w ∧ r.length ≤ pre.length)) = true then _ else _) = (if paid < w ∨ (paid = w ∧ pre.length < r.length) then _ else _)
        by_cases z : w < paid ∨ (paid = w ∧ r.length ≤ pre.length)
        · rw [if_pos (decide_eq_true z), if_neg (by omega)]
        · rw [if_neg (by simpa using z), if_pos (by omega)]
    · rw [if_pos (by omega), if_neg c]; rfl
  | succ d ih =>
    intro S pre paid b hS
    show (if 2 * (d + 1) < wrs H S then b else if cworse b paid pre.length = true then b else if wrs H S = 0 then some (paid, pre) else _) = _
    by_cases c1 : 2 * (d + 1) < wrs H S
    · rw [if_pos c1, nil_of (X := Gp H L (lfC H) (d + 1) S pre paid) (fun x hx => by have := (Cp_need hW _ _ _ _ hS x hx).2; omega)]
      rfl
    · rw [if_neg c1]
      by_cases c2 : cworse b paid pre.length = true
      · rw [if_pos c2]
        cases b with
        | none => cases c2
        | some q =>
          obtain ⟨w, r⟩ := q
          have c2 := of_decide_eq_true c2
          refine (fl2_same (fun x hx => ?_)).symm
          have h1 := (Cp_need hW _ _ _ _ hS x hx).1
          have h2 := Gp_len lfC_ok _ _ _ _ _ hx
          omega
      · rw [if_neg c2]
        show _ = (lfC H S pre paid ++ (opl H S).flatMap _).foldl fl2 b
        rw [List.foldl_append]
        by_cases c3 : wrs H S = 0
        · rw [if_pos c3]
          have e : (lfC H S pre paid).foldl fl2 b = some (paid, pre) := by
            unfold lfC
            rw [if_pos c3]
            show fl2 b (paid, pre) = _
            cases b with
            | none => rfl
            | some q =>
              obtain ⟨w, r⟩ := q
              have c2 : ¬ (w < paid ∨ (paid = w ∧ r.length ≤ pre.length)) := fun q => c2 (decide_eq_true q)
              show (if paid < w ∨ (paid = w ∧ pre.length < r.length) then _ else _) = _
              rw [if_pos (by omega)]
          rw [e]
          refine (fl2_same (fun x hx => ?_)).symm
          obtain ⟨p, hp, h⟩ := List.mem_flatMap.mp hx
          have h1 := (Cp_need hW _ _ _ _ (WS_trnC hW hS hp) x h).1
          have h2 := Gp_len lfC_ok _ _ _ _ _ h
          rw [len_app] at h2
          omega
        · rw [if_neg c3]
          have e : (lfC H S pre paid).foldl fl2 b = b := by unfold lfC; rw [if_neg c3]; rfl
          rw [e, foldl_fm]
          exact foldl_ext' (fun q hq a => ih _ _ _ _ (WS_trnC hW hS hq)) _
theorem fm_filter {l : List Nat} {f : Nat → List Cd} {g : Nat → Bool} (h : ∀ p, p ∈ l → g p = false → f p = []) : (l.filter g).flatMap f = l.flatMap f := by
  induction l with
  | nil => rfl
  | cons p l ih =>
    have ih := ih (fun q hq => h q (List.mem_cons_of_mem _ hq))
    by_cases c : g p = true
    · rw [List.filter_cons_of_pos c, List.flatMap_cons, List.flatMap_cons, ih]
    · rw [List.filter_cons_of_neg c, List.flatMap_cons, h p (List.mem_cons_self ..) (by simpa using c), ih, List.nil_append]
theorem hop_fm (hW : WH H) (hS : WS H S) {pre : List Nat} {sp : Nat} : (hop H S (d + 1)).flatMap (fun p => Gw H L (lfC H) d (trnC S p) (pre ++ [p]) (sp + ctn H L S (p / 8) (p % 8))) = Gw H L (lfC H) (d + 1) S pre sp := by
  show _ = (opl H S).flatMap _
  unfold hop
  have kids := fun p (hp : p ∈ opl H S) => Cw_need (L := L) hW d (trnC S p) (pre ++ [p]) (sp + ctn H L S (p / 8) (p % 8)) (WS_trnC hW hS hp)
  by_cases c1 : d + 1 < ned H S
  · rw [if_pos c1]
    symm
    rw [List.flatMap_nil, List.flatMap_eq_nil_iff]
    intro p hp
    refine nil_of (fun x hx => ?_)
    have := (kids p hp x hx).2.2.1
    have := (ned_trn hW hS hp).1
    omega
  · rw [if_neg c1]
    by_cases c2 : anyst H S = true
    · rw [if_pos c2]
      symm
      rw [List.flatMap_nil, List.flatMap_eq_nil_iff]
      intro p hp
      refine nil_of (fun x hx => ?_)
      have := (kids p hp x hx).2.2.2.1
      rw [any_trn hW hS hp c2] at this
      cases this
    · rw [if_neg c2]
      by_cases c3 : d + 1 = ned H S
      · rw [if_pos c3]
        refine fm_filter (fun p hp hg => nil_of (fun x hx => ?_))
        have := (kids p hp x hx).2.2.1
        have := (ned_trn hW hS hp).2.1 hg
        omega
      · rw [if_neg c3]
theorem ch_Gw (hW : WH H) : ∀ (d : Nat) (S : Mud) (pre : List Nat) (sp : Nat) (b : Bst), WS H S → chC H L d S pre sp b = (Gw H L (lfC H) d S pre sp).foldl fl1 b := by
  intro d
  have dr : ∀ (d : Nat) (S : Mud) (pre : List Nat) (sp : Nat) (b : Bst), WS H S → dear b sp = true → (Gw H L (lfC H) d S pre sp).foldl fl1 b = b := by
    intro d S pre sp b hS h
    cases b with
    | none => cases h
    | some q =>
      obtain ⟨w, r⟩ := q
      have h := of_decide_eq_true h
      exact fl1_same (fun x hx => by have := (Cw_need hW _ _ _ _ hS x hx).1; omega)
  induction d with
  | zero =>
    intro S pre sp b hS
    show (if dear b sp = true then b else if wrs H S = 0 then some (sp, pre) else b) = _
    by_cases c : dear b sp = true
    · rw [if_pos c, dr 0 S pre sp b hS c]
    · rw [if_neg c]
      show _ = (lfC H S pre sp).foldl fl1 b
      unfold lfC
      by_cases z : wrs H S = 0
      · rw [if_pos z, if_pos z]
        show _ = fl1 b (sp, pre)
        cases b with
        | none => rfl
        | some q =>
          obtain ⟨w, r⟩ := q
          have c : ¬ w ≤ sp := fun q => c (decide_eq_true q)
          show _ = (if sp < w then _ else _)
          rw [if_pos (by omega)]
      · rw [if_neg z, if_neg z]; rfl
  | succ d ih =>
    intro S pre sp b hS
    show (if dear b sp = true then b else _) = _
    by_cases c : dear b sp = true
    · rw [if_pos c, dr (d + 1) S pre sp b hS c]
    · rw [if_neg c, ← hop_fm hW hS, foldl_fm]
      exact foldl_ext' (fun q hq a => ih _ _ _ _ (WS_trnC hW hS (hop_sub hq))) _
/-- CHEAP by the class: longer and longer rows -/
def chA (H : Hou) (L : Option Lws) (S : Mud) : Nat → Bst
  | 0 => if cbh H S 0 = true then chC H L 0 S [] 0 none else none
  | T + 1 => if cbh H S (T + 1) = true then chC H L (T + 1) S [] 0 (chA H L S T) else chA H L S T
theorem cbh_Gw (hW : WH H) (hS : WS H S) (h : cbh H S d = false) : Gw H L (lfC H) d S [] 0 = [] := by
  refine nil_of (fun x hx => ?_)
  have h1 := (Cw_need hW _ _ _ _ hS x hx).2.2.2.2
  unfold cbh at h
  rw [Bool.or_eq_false_iff] at h
  have h2 := h1 (by simpa using h.1)
  have h3 := of_decide_eq_false h.2
  omega
theorem chA_Gs (hW : WH H) (hS : WS H S) : ∀ T, chA H L S T = (Gs H L (lfC H) S T).foldl fl1 none := by
  intro T
  induction T with
  | zero =>
    show (if cbh H S 0 = true then _ else _) = (Gw H L (lfC H) 0 S [] 0).foldl fl1 none
    by_cases c : cbh H S 0 = true
    · rw [if_pos c, ch_Gw hW _ _ _ _ _ hS]
    · rw [if_neg c, cbh_Gw hW hS (by simpa using c)]; rfl
  | succ T ih =>
    show (if cbh H S (T + 1) = true then _ else _) = (Gs H L (lfC H) S T ++ Gw H L (lfC H) (T + 1) S [] 0).foldl fl1 none
    rw [List.foldl_append, ← ih]
    by_cases c : cbh H S (T + 1) = true
    · rw [if_pos c, ch_Gw hW _ _ _ _ _ hS]
    · rw [if_neg c, cbh_Gw hW hS (by simpa using c)]; rfl
theorem cheap_eq (hW : WH H) (hS : WS H S) (T : Nat) : cheapR H L T S [] 0 none = chA H L S T := by
  rw [chA_Gs hW hS T, Gs_Gp lfC_ok, cheap_Gp hW T S [] 0 none hS]
end E3

/-! ===== the class's ways of looking and the model's come to the same ===== -/
section E2
variable {H : Hou} {L : Option Lws} {S : Mud} {p d : Nat}
theorem fs_some {α : Type} {l : List Nat} {f : Nat → Option α} {r : α} (h : l.findSome? f = some r) : ∃ p, p ∈ l ∧ f p = some r := List.exists_of_findSome?_eq_some h
/-- FEWEST -/
theorem undo_need (hW : WH H) : ∀ (d : Nat) (S : Mud) (pre r : List Nat), WS H S → undoR H d S pre = some r → wrs H S ≤ 2 * d ∧ ned H S ≤ d ∧ anyst H S = false ∧ (nocat H = true → (d + ned H S) % 2 = 0) := by
  intro d
  induction d with
  | zero =>
    intro S pre r hS h
    have h : (if wrs H S = 0 then some pre else none) = some r := h
    by_cases c : wrs H S = 0
    · have h1 := (ned_wrs hW hS).1
      refine ⟨by omega, by omega, ?_, fun _ => by omega⟩
      cases ha : anyst H S
      · rfl
      · have := any_wrs ha; omega
    · rw [if_neg c] at h; cases h
  | succ d ih =>
    intro S pre r hS h
    have h : (if 2 * (d + 1) < wrs H S then none else (opl H S).findSome? (fun p => undoR H d (trnC S p) (pre ++ [p]))) = some r := h
    by_cases c : 2 * (d + 1) < wrs H S
    · rw [if_pos c] at h; cases h
    · rw [if_neg c] at h
      obtain ⟨p, hp, hu⟩ := fs_some h
      obtain ⟨h1, h2, h3, h4⟩ := ih _ _ _ (WS_trnC hW hS hp) hu
      have n1 := ned_trn hW hS hp
      refine ⟨by omega, by omega, ?_, fun q => ?_⟩
      · cases ha : anyst H S
        · rfl
        · rw [any_trn hW hS hp ha] at h3; cases h3
      · have := h4 q
        have := n1.2.2 q
        omega
theorem fs_filter {α : Type} {l : List Nat} {f : Nat → Option α} {g : Nat → Bool} (h : ∀ p, p ∈ l → g p = false → f p = none) : (l.filter g).findSome? f = l.findSome? f := by
  induction l with
  | nil => rfl
  | cons p l ih =>
    have ih := ih (fun q hq => h q (List.mem_cons_of_mem _ hq))
    by_cases c : g p = true
    · rw [List.filter_cons_of_pos c, List.findSome?_cons, List.findSome?_cons, ih]
    · rw [List.filter_cons_of_neg c, List.findSome?_cons, h p (List.mem_cons_self ..) (by simpa using c), ih]
theorem fs_none {α : Type} {l : List Nat} {f : Nat → Option α} (h : ∀ p, p ∈ l → f p = none) : l.findSome? f = none := List.findSome?_eq_none_iff.mpr h
theorem lh_undo (hW : WH H) : ∀ (d : Nat) (S : Mud) (pre : List Nat), WS H S → lhR H d S pre = undoR H d S pre := by
  intro d
  induction d with
  | zero => intro S pre hS; rfl
  | succ d ih =>
    intro S pre hS
    have e1 : undoR H (d + 1) S pre = (opl H S).findSome? (fun p => undoR H d (trnC S p) (pre ++ [p])) := by
      show (if 2 * (d + 1) < wrs H S then none else _) = _
      by_cases c : 2 * (d + 1) < wrs H S
      · rw [if_pos c]
        refine (fs_none (fun p hp => ?_)).symm
        cases hu : undoR H d (trnC S p) (pre ++ [p]) with
        | none => rfl
        | some r =>
          have h1 := (undo_need hW d _ _ _ (WS_trnC hW hS hp) hu).1
          have h2 := (wrs_trn hW hS hp).1
          omega
      · rw [if_neg c]
    have e2 : lhR H (d + 1) S pre = (hop H S (d + 1)).findSome? (fun p => undoR H d (trnC S p) (pre ++ [p])) := by
      show (hop H S (d + 1)).findSome? (fun p => lhR H d (trnC S p) (pre ++ [p])) = _
      have : ∀ l : List Nat, (∀ q ∈ l, q ∈ opl H S) → l.findSome? (fun p => lhR H d (trnC S p) (pre ++ [p])) = l.findSome? (fun p => undoR H d (trnC S p) (pre ++ [p])) := by
        intro l
        induction l with
        | nil => intro _; rfl
        | cons p l ihl =>
          intro hl
          rw [List.findSome?_cons, List.findSome?_cons, ihl (fun q hq => hl q (List.mem_cons_of_mem _ hq)), ih _ _ (WS_trnC hW hS (hl p (List.mem_cons_self ..)))]
      exact this _ (fun q => hop_sub)
    rw [e1, e2]
    have kids : ∀ p, p ∈ opl H S → ∀ r, undoR H d (trnC S p) (pre ++ [p]) = some r → ned H (trnC S p) ≤ d ∧ anyst H (trnC S p) = false := fun p hp r hu => by
      have := undo_need hW d _ _ _ (WS_trnC hW hS hp) hu
      exact ⟨this.2.1, this.2.2.1⟩
    unfold hop
    by_cases c1 : d + 1 < ned H S
    · rw [if_pos c1]
      refine (fs_none (fun p hp => ?_)).symm
      cases hu : undoR H d (trnC S p) (pre ++ [p]) with
      | none => rfl
      | some r => have := kids p hp r hu; have := (ned_trn hW hS hp).1; omega
    · rw [if_neg c1]
      by_cases c2 : anyst H S = true
      · rw [if_pos c2]
        refine (fs_none (fun p hp => ?_)).symm
        cases hu : undoR H d (trnC S p) (pre ++ [p]) with
        | none => rfl
        | some r => have := (kids p hp r hu).2; rw [any_trn hW hS hp c2] at this; cases this
      · rw [if_neg c2]
        by_cases c3 : d + 1 = ned H S
        · rw [if_pos c3]
          refine fs_filter (fun p hp hg => ?_)
          cases hu : undoR H d (trnC S p) (pre ++ [p]) with
          | none => rfl
          | some r => have := kids p hp r hu; have := (ned_trn hW hS hp).2.1 hg; omega
        · rw [if_neg c3]
theorem cbh_undo (hW : WH H) (hS : WS H S) {pre : List Nat} (h : cbh H S d = false) : undoR H d S pre = none := by
  cases hu : undoR H d S pre with
  | none => rfl
  | some r =>
    have h1 := (undo_need hW d _ _ _ hS hu).2.2.2
    unfold cbh at h
    rw [Bool.or_eq_false_iff] at h
    have h2 := h1 (by simpa using h.1)
    have h3 := of_decide_eq_false h.2
    omega
/-- MOST -/
theorem most_stop (hW : WH H) : ∀ (d : Nat) (S : Mud) (c : Nat), WS H S → min (cbw H S) (wrs H S + 2 * d) < c → mostR H d S c = c := by
  intro d
  induction d with
  | zero =>
    intro S c hS h
    have := wrs_cbw (H := H) hS
    show max c (wrs H S + 1) = c
    omega
  | succ d ih =>
    intro S c hS h
    show (opl H S).foldl (fun c p => mostR H d (trnC S p) c) c = c
    have : ∀ l : List Nat, (∀ q ∈ l, q ∈ opl H S) → l.foldl (fun c p => mostR H d (trnC S p) c) c = c := by
      intro l
      induction l with
      | nil => intro _; rfl
      | cons p l ihl =>
        intro hl
        have hp := hl p (List.mem_cons_self ..)
        have h1 := (wrs_trn hW hS hp).2
        rw [List.foldl_cons, ih (trnC S p) c (WS_trnC hW hS hp) (by rw [cbw_trn]; omega)]
        exact ihl (fun q hq => hl q (List.mem_cons_of_mem _ hq))
    exact this _ (fun q h => h)
theorem foldl_ext' {α : Type} {l : List Nat} {f g : α → Nat → α} (h : ∀ q ∈ l, ∀ a, f a q = g a q) (a : α) : l.foldl f a = l.foldl g a := by
  induction l generalizing a with
  | nil => rfl
  | cons p l ih =>
    rw [List.foldl_cons, List.foldl_cons, h p (List.mem_cons_self ..)]
    exact ih (fun q hq => h q (List.mem_cons_of_mem _ hq)) _
theorem ra_most (hW : WH H) : ∀ (d : Nat) (S : Mud) (c : Nat), WS H S → raR H d S c = mostR H d S c := by
  intro d
  induction d with
  | zero => intro S c hS; rfl
  | succ d ih =>
    intro S c hS
    show (if c ≤ min (cbw H S) (wrs H S + 2 * (d + 1)) then _ else c) = _
    by_cases z : c ≤ min (cbw H S) (wrs H S + 2 * (d + 1))
    · rw [if_pos z]
      exact foldl_ext' (fun q hq a => ih _ _ (WS_trnC hW hS hq)) c
    · rw [if_neg z, most_stop hW (d + 1) S c hS (by omega)]
/-- CHANCE -/
theorem chn_zero (hW : WH H) : ∀ (d sh : Nat) (S : Mud), WS H S → (d < ned H S ∨ anyst H S = true) → chn H d sh S = 0 := by
  intro d
  induction d with
  | zero =>
    intro sh S hS h
    have hw : ¬ wrs H S = 0 := by
      rcases h with h | h
      · have := (ned_wrs hW hS).1; omega
      · have := any_wrs h; omega
    show (if wrs H S = 0 then sh else 0) = 0
    rw [if_neg hw]
  | succ d ih =>
    intro sh S hS h
    have hw : ¬ wrs H S = 0 := by
      rcases h with h | h
      · have := (ned_wrs hW hS).1; omega
      · have := any_wrs h; omega
    show (if (opl H S).length = 0 then (if wrs H S = 0 then sh else 0) else _) = 0
    by_cases c : (opl H S).length = 0
    · rw [if_pos c, if_neg hw]
    · rw [if_neg c]
      have : ∀ (l : List Nat) (s : Nat), (∀ q ∈ l, q ∈ opl H S) → (l.map (fun p => chn H d s (trnC S p))).sum = 0 := by
        intro l s
        induction l with
        | nil => intro _; rfl
        | cons p l ihl =>
          intro hl
          have hp := hl p (List.mem_cons_self ..)
          rw [List.map_cons, List.sum_cons, ihl (fun q hq => hl q (List.mem_cons_of_mem _ hq)), ih s (trnC S p) (WS_trnC hW hS hp) ?_]
          rcases h with h | h
          · have := (ned_trn hW hS hp).1; exact Or.inl (by omega)
          · exact Or.inr (any_trn hW hS hp h)
      exact this _ _ (fun q h => h)
theorem sum_filter {l : List Nat} {f : Nat → Nat} {g : Nat → Bool} (h : ∀ p, p ∈ l → g p = false → f p = 0) : ((l.filter g).map f).sum = (l.map f).sum := by
  induction l with
  | nil => rfl
  | cons p l ih =>
    have ih := ih (fun q hq => h q (List.mem_cons_of_mem _ hq))
    by_cases c : g p = true
    · rw [List.filter_cons_of_pos c, List.map_cons, List.map_cons, List.sum_cons, List.sum_cons, ih]
    · rw [List.filter_cons_of_neg c, List.map_cons, List.sum_cons, h p (List.mem_cons_self ..) (by simpa using c), ih, Nat.zero_add]
theorem sum_zero {l : List Nat} {f : Nat → Nat} (h : ∀ p, p ∈ l → f p = 0) : (l.map f).sum = 0 := by
  induction l with
  | nil => rfl
  | cons p l ih => rw [List.map_cons, List.sum_cons, h p (List.mem_cons_self ..), ih (fun q hq => h q (List.mem_cons_of_mem _ hq))]
theorem sh_chn (hW : WH H) : ∀ (d sh : Nat) (S : Mud), WS H S → shR H d sh S = chn H d sh S := by
  intro d
  induction d with
  | zero => intro sh S hS; rfl
  | succ d ih =>
    intro sh S hS
    show (if (opl H S).length = 0 then _ else _) = (if (opl H S).length = 0 then _ else _)
    by_cases c : (opl H S).length = 0
    · rw [if_pos c, if_pos c]
    · rw [if_neg c, if_neg c]
      have e : ∀ l : List Nat, (∀ q ∈ l, q ∈ opl H S) → (l.map (fun p => shR H d (sh / (opl H S).length) (trnC S p))) = (l.map (fun p => chn H d (sh / (opl H S).length) (trnC S p))) := fun l hl => List.map_congr_left (fun p hp => ih _ _ (WS_trnC hW hS (hl p hp)))
      rw [e _ (fun q => hop_sub)]
      unfold hop
      by_cases c1 : d + 1 < ned H S
      · rw [if_pos c1]
        refine (sum_zero (fun p hp => chn_zero hW d _ _ (WS_trnC hW hS hp) (Or.inl ?_))).symm
        have := (ned_trn hW hS hp).1
        omega
      · rw [if_neg c1]
        by_cases c2 : anyst H S = true
        · rw [if_pos c2]
          exact (sum_zero (fun p hp => chn_zero hW d _ _ (WS_trnC hW hS hp) (Or.inr (any_trn hW hS hp c2)))).symm
        · rw [if_neg c2]
          by_cases c3 : d + 1 = ned H S
          · rw [if_pos c3]
            refine sum_filter (fun p hp hg => chn_zero hW d _ _ (WS_trnC hW hS hp) (Or.inl ?_))
            have := (ned_trn hW hS hp).2.1 hg
            omega
          · rw [if_neg c3]
/-! rows with their worth -/
abbrev Cd : Type := Nat × List Nat
/-- the best one, kept while walking: less worth, or as much and shorter -/
def fl2 (b : Bst) (x : Cd) : Bst := lbt b x.1 x.2
/-- less worth alone -/
def fl1 (b : Bst) (x : Cd) : Bst := match b with
  | none => some x
  | some (w0, r0) => if x.1 < w0 then some x else some (w0, r0)
def isBest (X : List Cd) (b : Cd) : Prop := b ∈ X ∧ (∀ x, x ∈ X → b.1 < x.1 ∨ (b.1 = x.1 ∧ b.2.length ≤ x.2.length)) ∧ (X.filter (fun x => decide (x.2.length = b.2.length))).find? (fun x => decide (x.1 = b.1)) = some b
theorem isBest_s {X : List Cd} {b x : Cd} (h : isBest X b) : ∃ b', fl2 (some b) x = some b' ∧ isBest (X ++ [x]) b' := by
  obtain ⟨h1, h2, h3⟩ := h
  obtain ⟨w, r⟩ := x
  obtain ⟨w0, r0⟩ := b
  by_cases c : w < w0 ∨ (w = w0 ∧ r.length < r0.length)
  · refine ⟨(w, r), by show (if _ then _ else _) = _; rw [if_pos c], List.mem_append.mpr (Or.inr (List.mem_singleton.mpr rfl)), fun y hy => ?_, ?_⟩
    · rcases List.mem_append.mp hy with q | q
      · have := h2 y q
        simp only at this ⊢
        omega
      · rw [List.mem_singleton.mp q]; exact Or.inr ⟨rfl, Nat.le_refl _⟩
    · rw [List.filter_append, List.find?_append]
      have : (X.filter (fun x => decide (x.2.length = r.length))).find? (fun x => decide (x.1 = w)) = none := by
        rw [List.find?_eq_none]
        intro y hy q
        rw [List.mem_filter, decide_eq_true_iff] at hy
        rw [decide_eq_true_iff] at q
        have := h2 y hy.1
        simp only at this
        omega
      show ((X.filter (fun x => decide (x.2.length = r.length))).find? (fun x => decide (x.1 = w))).or _ = _
      rw [this]
      simp
  · refine ⟨(w0, r0), by show (if _ then _ else _) = _; rw [if_neg c], List.mem_append.mpr (Or.inl h1), fun y hy => ?_, ?_⟩
    · rcases List.mem_append.mp hy with q | q
      · exact h2 y q
      · rw [List.mem_singleton.mp q]
        simp only
        omega
    · rw [List.filter_append, List.find?_append, h3]
      rfl
theorem isBest_f {Y : List Cd} : ∀ {X : List Cd} {b : Cd}, isBest X b → ∃ b', Y.foldl fl2 (some b) = some b' ∧ isBest (X ++ Y) b' := by
  induction Y with
  | nil => intro X b h; exact ⟨b, rfl, by rw [List.append_nil]; exact h⟩
  | cons x Y ih =>
    intro X b h
    obtain ⟨b1, e1, h1⟩ := isBest_s (x := x) h
    obtain ⟨b2, e2, h2⟩ := ih h1
    exact ⟨b2, by rw [List.foldl_cons, e1, e2], by rw [List.append_assoc] at h2; exact h2⟩
theorem isBest_1 (x : Cd) : isBest [x] x := ⟨List.mem_singleton.mpr rfl, fun y hy => by rw [List.mem_singleton.mp hy]; exact Or.inr ⟨rfl, Nat.le_refl _⟩, by simp⟩
theorem isBest_n {X : List Cd} (h : X ≠ []) : ∃ b, X.foldl fl2 none = some b ∧ isBest X b := by
  cases X with
  | nil => exact absurd rfl h
  | cons x X =>
    obtain ⟨b, e, hb⟩ := isBest_f (Y := X) (isBest_1 x)
    exact ⟨b, e, hb⟩
theorem isBest_u {X Y : List Cd} {b c : Cd} (h : isBest X b) (h' : isBest Y c) (hf : ∀ n, X.filter (fun x => decide (x.2.length = n)) = Y.filter (fun x => decide (x.2.length = n))) : b = c := by
  have mem : ∀ {A B : List Cd}, (∀ n, A.filter (fun x => decide (x.2.length = n)) = B.filter (fun x => decide (x.2.length = n))) → ∀ x, x ∈ A → x ∈ B := by
    intro A B hAB x hx
    have : x ∈ A.filter (fun y => decide (y.2.length = x.2.length)) := List.mem_filter.mpr ⟨hx, by simp⟩
    rw [hAB] at this
    exact (List.mem_filter.mp this).1
  obtain ⟨h1, h2, h3⟩ := h
  obtain ⟨g1, g2, g3⟩ := h'
  have a := h2 c (mem (fun n => (hf n).symm) c g1)
  have a' := g2 b (mem hf b h1)
  have e1 : b.1 = c.1 := by omega
  have e2 : b.2.length = c.2.length := by omega
  rw [hf, e1, e2, g3] at h3
  injection h3 with h3
  exact h3.symm
/-- two orders, the same rows of each length in the same order: the same best one -/
theorem fold_same {X Y : List Cd} (hf : ∀ n, X.filter (fun x => decide (x.2.length = n)) = Y.filter (fun x => decide (x.2.length = n))) : X.foldl fl2 none = Y.foldl fl2 none := by
  by_cases hx : X = []
  · have : Y = [] := by
      cases Y with
      | nil => rfl
      | cons y Y =>
        have h := hf y.2.length
        rw [hx, List.filter_nil, List.filter_cons_of_pos (by simp)] at h
        cases h
    rw [hx, this]
  · have hy : Y ≠ [] := fun q => by
      cases X with
      | nil => exact hx rfl
      | cons x X =>
        have h := hf x.2.length
        rw [q, List.filter_nil, List.filter_cons_of_pos (by simp)] at h
        cases h
    obtain ⟨b, e, hb⟩ := isBest_n hx
    obtain ⟨c, e', hc⟩ := isBest_n hy
    rw [e, e', isBest_u hb hc hf]
/-- shorter ones first: worth alone decides -/
theorem fold_sorted {X : List Cd} : ∀ (b : Bst) (m : Nat), (∀ w r, b = some (w, r) → r.length ≤ m) → (∀ x, x ∈ X → m ≤ x.2.length) → X.Pairwise (fun x y => x.2.length ≤ y.2.length) → X.foldl fl2 b = X.foldl fl1 b := by
  induction X with
  | nil => intro b m _ _ _; rfl
  | cons x X ih =>
    intro b m hb hm hp
    rw [List.foldl_cons, List.foldl_cons]
    have hx := hm x (List.mem_cons_self ..)
    have e : fl2 b x = fl1 b x := by
      cases b with
      | none => rfl
      | some q =>
        obtain ⟨w0, r0⟩ := q
        have := hb w0 r0 rfl
        show (if _ then some (x.1, x.2) else _) = (if _ then some x else _)
        by_cases c : x.1 < w0
        · rw [if_pos (Or.inl c), if_pos c]
        · rw [if_neg (by omega), if_neg c]
    rw [e]
    have hp2 := List.pairwise_cons.mp hp
    refine ih _ x.2.length (fun w r hr => ?_) (fun y hy => hp2.1 y hy) hp2.2
    cases b with
    | none => injection hr with hr; rw [hr]; exact Nat.le_refl _
    | some q =>
      obtain ⟨w0, r0⟩ := q
      have h0 := hb w0 r0 rfl
      have hr : (if x.1 < w0 then some x else some (w0, r0)) = some (w, r) := hr
      by_cases c : x.1 < w0
      · rw [if_pos c] at hr; injection hr with hr; rw [hr]; exact Nat.le_refl _
      · rw [if_neg c] at hr; injection hr with hr; injection hr with _ hr; rw [← hr]; omega
end E2

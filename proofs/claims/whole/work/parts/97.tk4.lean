section TK4
/-! words as numbers -/
theorem lN_eqL {a b : Nat} (ha : a < 2 ^ 63) (hb : b < 2 ^ 63) : (lN a = lN b) = (a = b) := by
  rw [eq_iff_iff]
  constructor
  · intro h
    have h1 := congrArg (fun x : Int64 => x.toBitVec.toNat) h
    have e : ∀ n, (lN n).toBitVec.toNat = n % 2 ^ 64 := fun n => by
      show (Int64.ofNat n).toBitVec.toNat = _
      rw [Int64.toBitVec_ofNat', BitVec.toNat_ofNat]
    have h1 : (lN a).toBitVec.toNat = (lN b).toBitVec.toNat := h1
    rw [e, e, Nat.mod_eq_of_lt (by omega), Nat.mod_eq_of_lt (by omega)] at h1
    exact h1
  · intro h; rw [h]
theorem wrd_nil (b : Nat) : wrd b [] = 0 := rfl
theorem wrd_snoc (b : Nat) (l : List Nat) (c : Nat) : wrd b (l ++ [c]) = b * wrd b l + c := by
  unfold wrd
  rw [List.foldl_append]
  rfl
def okL (l : List Nat) : Prop := ∀ c ∈ l, 1 ≤ c ∧ c ≤ 26
theorem wrd_inj {b : Nat} (hb : 27 ≤ b) : ∀ (n : Nat) (l m : List Nat), l.length ≤ n → okL l → okL m → wrd b l = wrd b m → l = m := by
  have hm : ∀ x c, c ≤ 26 → (b * x + c) % b = c := fun x c hc => by rw [Nat.mul_add_mod, Nat.mod_eq_of_lt (by omega)]
  intro n
  induction n with
  | zero =>
    intro l m hl _ h2 h
    have : l = [] := List.eq_nil_of_length_eq_zero (by omega)
    subst this
    rcases List.eq_nil_or_concat m with rfl | ⟨m, d, rfl⟩
    · rfl
    · rw [List.concat_eq_append, wrd_snoc, wrd_nil] at h
      have := h2 d (by simp)
      omega
  | succ n ih =>
    intro l m hl h1 h2 h
    rcases List.eq_nil_or_concat l with rfl | ⟨l, c, rfl⟩
    · rcases List.eq_nil_or_concat m with rfl | ⟨m, d, rfl⟩
      · rfl
      · rw [List.concat_eq_append, wrd_snoc, wrd_nil] at h
        have := h2 d (by simp)
        omega
    · rcases List.eq_nil_or_concat m with rfl | ⟨m, d, rfl⟩
      · rw [List.concat_eq_append, wrd_snoc, wrd_nil] at h
        have := h1 c (by simp)
        omega
      · simp only [List.concat_eq_append] at h1 h2 hl h ⊢
        rw [wrd_snoc, wrd_snoc] at h
        rw [List.length_append] at hl
        have hl : l.length + 1 ≤ n + 1 := hl
        have c1 := h1 c (by simp)
        have d1 := h2 d (by simp)
        have hcd : c = d := by rw [← hm (wrd b l) c c1.2, h, hm _ _ d1.2]
        subst hcd
        have h3 : b * wrd b l = b * wrd b m := by omega
        rw [ih l m (by omega) (fun x hx => h1 x (List.mem_append_left _ hx)) (fun x hx => h2 x (List.mem_append_left _ hx)) (Nat.eq_of_mul_eq_mul_left (by omega) h3)]
theorem wrd_lt {b : Nat} (hb : 27 ≤ b) : ∀ (n : Nat) (l : List Nat), l.length ≤ n → okL l → wrd b l < b ^ n := by
  intro n
  induction n with
  | zero =>
    intro l hl _
    have : l = [] := List.eq_nil_of_length_eq_zero (by omega)
    subst this
    rw [wrd_nil]; exact Nat.one_pos
  | succ n ih =>
    intro l hl h1
    rcases List.eq_nil_or_concat l with rfl | ⟨l, c, rfl⟩
    · rw [wrd_nil]; exact Nat.pow_pos (by omega)
    · rw [List.concat_eq_append] at h1 hl ⊢
      rw [wrd_snoc]
      rw [List.length_append] at hl
      have hl : l.length + 1 ≤ n + 1 := hl
      have c1 := h1 c (by simp)
      have h3 := ih l (by omega) (fun x hx => h1 x (List.mem_append_left _ hx))
      have h4 : b * (wrd b l + 1) ≤ b * b ^ n := Nat.mul_le_mul_left b h3
      rw [Nat.pow_succ, Nat.mul_comm (b ^ n) b]
      rw [Nat.mul_add] at h4
      omega
theorem wrd_eq27 {l m : List Nat} (h1 : okL l) (h2 : okL m) (h3 : l.length ≤ 8) (h4 : m.length ≤ 8) : (lN (wrd 27 l) = lN (wrd 27 m)) = (l = m) := by
  have a1 := wrd_lt (b := 27) (by omega) 8 l h3 h1
  have a2 := wrd_lt (b := 27) (by omega) 8 m h4 h2
  rw [lN_eqL (by omega) (by omega), eq_iff_iff]
  exact ⟨wrd_inj (by omega) 8 l m h3 h1 h2, fun h => by rw [h]⟩
theorem wrd_eq37 {l m : List Nat} (h1 : okL l) (h2 : okL m) (h3 : l.length ≤ 8) (h4 : m.length ≤ 8) : (lN (wrd 37 l) = lN (wrd 37 m)) = (l = m) := by
  have a1 := wrd_lt (b := 37) (by omega) 8 l h3 h1
  have a2 := wrd_lt (b := 37) (by omega) 8 m h4 h2
  rw [lN_eqL (by omega) (by omega), eq_iff_iff]
  exact ⟨wrd_inj (by omega) 8 l m h3 h1 h2, fun h => by rw [h]⟩
/-! which word -/
def wixL : List (List Nat) → List Nat → Nat
  | [], _ => 0
  | w :: ws, l => if w = l then 0 else wixL ws l + 1
theorem wixL_le (ws : List (List Nat)) (l : List Nat) : wixL ws l ≤ ws.length := by
  induction ws with
  | nil => exact Nat.le_refl _
  | cons w ws ih =>
    unfold wixL
    rw [List.length_cons]
    split <;> omega
theorem wixL_iff {l : List Nat} : ∀ (ws : List (List Nat)), ws.Nodup → ∀ j, j < ws.length → (ws[j]? = some l ↔ wixL ws l = j) := by
  intro ws
  induction ws with
  | nil => intro _ j hj; exact absurd hj (Nat.not_lt_zero _)
  | cons w ws ih =>
    intro hn j hj
    rw [List.nodup_cons] at hn
    unfold wixL
    cases j with
    | zero =>
      rw [List.getElem?_cons_zero]
      by_cases c : w = l
      · rw [if_pos c, c]; simp
      · rw [if_neg c]; simp [c]
    | succ j =>
      rw [List.getElem?_cons_succ]
      rw [List.length_cons] at hj
      by_cases c : w = l
      · rw [if_pos c]
        constructor
        · intro h; exact absurd (List.mem_of_getElem? h) (c ▸ hn.1)
        · intro h; omega
      · rw [if_neg c, ih hn.2 j (by omega)]
        omega
def wix (l : List Nat) : Nat := wixL wdl l
theorem wdl_nd : wdl.Nodup := by decide
theorem wix_le (l : List Nat) : wix l ≤ 21 := wixL_le wdl l
theorem wix_iff {l : List Nat} {j : Nat} (hj : j < 21) : wdl[j]? = some l ↔ wix l = j := wixL_iff wdl wdl_nd j hj
theorem wdl_ok : ∀ w ∈ wdl, (∀ c ∈ w, 1 ≤ c ∧ c ≤ 26) ∧ w.length ≤ 8 := by decide
theorem wdl_get {j : Nat} (hj : j < 21) : ∃ w, wdl[j]? = some w ∧ okL w ∧ w.length ≤ 8 := by
  have h : j < wdl.length := hj
  refine ⟨wdl[j], List.getElem?_eq_getElem h, ?_⟩
  have := wdl_ok wdl[j] (List.getElem_mem h)
  exact this
/-! letters and digits from a place on -/
def flw (b : Nat) (ts : List Nat) (j v : Nat) : Nat := ((ts.drop j).takeWhile isLt).foldl (fun v c => b * v + (c - 96)) v
theorem flw_end {b : Nat} {ts : List Nat} {j v : Nat} (h : ts.length ≤ j) : flw b ts j v = v := by
  unfold flw
  rw [List.drop_eq_nil_of_le h]
  rfl
theorem flw_no {b : Nat} {ts : List Nat} {j v c : Nat} (e : ts[j]? = some c) (h : isLt c = false) : flw b ts j v = v := by
  unfold flw
  rw [drop_get e, List.takeWhile_cons, h]
  rfl
theorem flw_yes {b : Nat} {ts : List Nat} {j v c : Nat} (e : ts[j]? = some c) (h : isLt c = true) : flw b ts j v = flw b ts (j + 1) (b * v + (c - 96)) := by
  unfold flw
  rw [drop_get e, List.takeWhile_cons, h]
  rfl
theorem flw_wrd (b : Nat) (ts : List Nat) (i : Nat) : flw b ts i 0 = wrd b (ltr ts i) := by
  unfold flw wrd ltr
  rw [List.foldl_map]
theorem ltr_len (ts : List Nat) (i : Nat) : (ltr ts i).length = spn isLt ts i := by
  unfold ltr spn
  rw [List.length_map]
theorem tw_all {P : Nat → Bool} {l : List Nat} {c : Nat} (h : c ∈ l.takeWhile P) : P c = true := by
  induction l with
  | nil => cases h
  | cons a l ih =>
    rw [List.takeWhile_cons] at h
    by_cases q : P a = true
    · rw [if_pos q] at h
      rcases List.mem_cons.mp h with rfl | h
      · exact q
      · exact ih h
    · rw [if_neg q] at h; cases h
theorem isLt_b {c : Nat} (h : isLt c = true) : 97 ≤ c ∧ c ≤ 122 := by
  unfold isLt at h
  simpa using h
theorem isDg_b {c : Nat} (h : isDg c = true) : 48 ≤ c ∧ c ≤ 57 := by
  unfold isDg at h
  simpa using h
theorem ltr_ok (ts : List Nat) (i : Nat) : okL (ltr ts i) := by
  intro c hc
  unfold ltr at hc
  obtain ⟨d, hd, rfl⟩ := List.mem_map.mp hc
  have := isLt_b (tw_all hd)
  omega
def fld (ts : List Nat) (j v : Nat) : Nat := ((ts.drop j).takeWhile isDg).foldl (fun v c => 10 * v + (c - 48)) v
theorem fld_end {ts : List Nat} {j v : Nat} (h : ts.length ≤ j) : fld ts j v = v := by
  unfold fld
  rw [List.drop_eq_nil_of_le h]
  rfl
theorem fld_no {ts : List Nat} {j v c : Nat} (e : ts[j]? = some c) (h : isDg c = false) : fld ts j v = v := by
  unfold fld
  rw [drop_get e, List.takeWhile_cons, h]
  rfl
theorem fld_yes {ts : List Nat} {j v c : Nat} (e : ts[j]? = some c) (h : isDg c = true) : fld ts j v = fld ts (j + 1) (10 * v + (c - 48)) := by
  unfold fld
  rw [drop_get e, List.takeWhile_cons, h]
  rfl
theorem dgv_b {ts : List Nat} {i : Nat} (h : spn isDg ts i ≤ 4) : dgv ts i < 10000 := by
  have h1 := dgv_lt (l := (ts.drop i).takeWhile isDg) (fun c hc => tw_all hc)
  have h2 : 10 ^ ((ts.drop i).takeWhile isDg).length ≤ 10 ^ 4 := Nat.pow_le_pow_right (by omega) h
  unfold dgv
  omega
/-! the row of tokens -/
abbrev Tp (T : Tok) : Nat := T.1
abbrev Tk (T : Tok) : Nat := T.2.1
abbrev Tl (T : Tok) : List Nat := T.2.2.1
abbrev Tv (T : Tok) : Nat := T.2.2.2
def nxt (ts : List Nat) (i : Nat) : Tok × Nat := tkn ts (skp ts i)
def psq (ts : List Nat) : Nat → Nat
  | 0 => 0
  | k + 1 => (nxt ts (psq ts k)).2
def tok (ts : List Nat) (k : Nat) : Tok := (nxt ts (psq ts k)).1
def okK (T : Tok) : Prop := okL (Tl T) ∧ (Tl T).length ≤ 8 ∧ (Tk T ≠ 1 → Tl T = []) ∧ (Tk T = 1 → Tl T ≠ []) ∧ (Tk T = 2 → Tv T < 10000) ∧ (Tk T = 3 → Tv T < 127 ∧ isSn (Tv T) = true) ∧ Tk T ≤ 4
theorem skp_le {ts : List Nat} {i : Nat} (h : i ≤ ts.length) : skp ts i ≤ ts.length := spn_le isSp ts i h
theorem tkn_none {ts : List Nat} {i : Nat} (e : ts[i]? = none) : tkn ts i = ((i, 0, [], 0), i) := by unfold tkn; rw [e]
theorem tkn_some {ts : List Nat} {i c : Nat} (e : ts[i]? = some c) : tkn ts i = if isLt c = true then ((if spn isLt ts i ≤ 8 then (i, 1, ltr ts i, 0) else (i, 4, [], 0)), i + spn isLt ts i) else if isDg c = true then ((if spn isDg ts i ≤ 4 then (i, 2, [], dgv ts i) else (i, 4, [], 0)), i + spn isDg ts i) else ((if isSn c = true then (i, 3, [], c) else (i, 4, [], 0)), i + 1) := by unfold tkn; rw [e]
theorem ab_ne {a b : Nat} {P : Prop} (e : a = b) (h : Nat.beq a b = false) : P := absurd e (Nat.ne_of_beq_eq_false h)
theorem tkn_ok {ts : List Nat} {i : Nat} (ok : okTp ts) (hi : i ≤ ts.length) : okK (tkn ts i).1 ∧ Tp (tkn ts i).1 = i ∧ (tkn ts i).2 ≤ ts.length ∧ (Tk (tkn ts i).1 = 0 → i = ts.length ∧ (tkn ts i).2 = i) ∧ (Tk (tkn ts i).1 ≠ 0 → i < (tkn ts i).2) := by
  cases e : ts[i]? with
  | none =>
    rw [tkn_none e]
    have := List.getElem?_eq_none_iff.mp e
    refine ⟨⟨fun c hc => (by cases hc), Nat.zero_le _, fun _ => rfl, fun h => ab_ne h rfl, fun h => ab_ne h rfl, fun h => ab_ne h rfl, Nat.zero_le _⟩, rfl, hi, fun _ => ⟨by omega, rfl⟩, fun h => absurd rfl h⟩
  | some c =>
    have hc := ok.2 c (List.mem_of_getElem? e)
    have hlt := (List.getElem?_eq_some_iff.mp e).1
    have bad : okK (i, 4, [], 0) := ⟨fun c hc => (by cases hc), Nat.zero_le _, fun _ => rfl, fun h => ab_ne h rfl, fun h => ab_ne h rfl, fun h => ab_ne h rfl, Nat.le_refl _⟩
    rw [tkn_some e]
    by_cases c1 : isLt c = true
    · have s1 := spn_yes e c1
      have s2 := spn_le isLt ts i hi
      have s3 := ltr_len ts i
      rw [if_pos c1]
      by_cases c2 : spn isLt ts i ≤ 8
      · rw [if_pos c2]
        refine ⟨⟨ltr_ok ts i, by rw [ltr_len]; exact c2, fun h => absurd rfl h, fun _ h => ?_, fun h => ab_ne h rfl, fun h => ab_ne h rfl, Nat.le_of_ble_eq_true rfl⟩, rfl, s2, fun h => ab_ne h rfl, fun _ => ?_⟩
        · have h : ltr ts i = [] := h
          rw [h] at s3
          have s3 : 0 = spn isLt ts i := s3
          omega
        · show i < i + spn isLt ts i
          omega
      · rw [if_neg c2]
        exact ⟨bad, rfl, s2, fun h => ab_ne h rfl, fun _ => by show i < i + spn isLt ts i; omega⟩
    · rw [if_neg c1]
      by_cases c3 : isDg c = true
      · have s1 := spn_yes e c3
        have s2 := spn_le isDg ts i hi
        rw [if_pos c3]
        by_cases c2 : spn isDg ts i ≤ 4
        · rw [if_pos c2]
          exact ⟨⟨fun c hc => (by cases hc), Nat.zero_le _, fun _ => rfl, fun h => ab_ne h rfl, fun _ => dgv_b c2, fun h => ab_ne h rfl, Nat.le_of_ble_eq_true rfl⟩, rfl, s2, fun h => ab_ne h rfl, fun _ => by show i < i + spn isDg ts i; omega⟩
        · rw [if_neg c2]
          exact ⟨bad, rfl, s2, fun h => ab_ne h rfl, fun _ => by show i < i + spn isDg ts i; omega⟩
      · rw [if_neg c3]
        by_cases c4 : isSn c = true
        · rw [if_pos c4]
          exact ⟨⟨fun c hc => (by cases hc), Nat.zero_le _, fun _ => rfl, fun h => ab_ne h rfl, fun h => ab_ne h rfl, fun _ => ⟨by show c < 127; omega, c4⟩, Nat.le_of_ble_eq_true rfl⟩, rfl, hlt, fun h => ab_ne h rfl, fun _ => Nat.lt_succ_self i⟩
        · rw [if_neg c4]
          exact ⟨bad, rfl, hlt, fun h => ab_ne h rfl, fun _ => Nat.lt_succ_self i⟩
theorem psq_le {ts : List Nat} (ok : okTp ts) (k : Nat) : psq ts k ≤ ts.length := by
  induction k with
  | zero => exact Nat.zero_le _
  | succ k ih => exact (tkn_ok ok (skp_le ih)).2.2.1
theorem tok_ok {ts : List Nat} (ok : okTp ts) (k : Nat) : okK (tok ts k) ∧ Tp (tok ts k) = skp ts (psq ts k) ∧ Tp (tok ts k) ≤ ts.length ∧ (Tk (tok ts k) = 0 ↔ Tp (tok ts k) = ts.length) ∧ (Tk (tok ts k) ≠ 0 → psq ts k < psq ts (k + 1)) := by
  have h0 := skp_le (psq_le ok k)
  obtain ⟨h1, h2, h3, h4, h5⟩ := tkn_ok ok h0
  have e : tok ts k = (tkn ts (skp ts (psq ts k))).1 := rfl
  rw [← e] at h1 h2 h4 h5
  refine ⟨h1, h2, by rw [h2]; exact h0, ⟨fun h => by rw [h2]; exact (h4 h).1, fun h => ?_⟩, fun h => ?_⟩
  · refine Classical.byContradiction (fun hh => ?_)
    have := h5 hh
    rw [h2] at h
    omega
  · have h6 := h5 h
    have h7 : psq ts k ≤ skp ts (psq ts k) := Nat.le_add_right _ _
    show psq ts k < (tkn ts (skp ts (psq ts k))).2
    omega
theorem tok_end {ts : List Nat} (ok : okTp ts) {k : Nat} (h : Tk (tok ts k) = 0) : psq ts (k + 1) = ts.length := by
  have h0 := skp_le (psq_le ok k)
  obtain ⟨h1, h2, h3, h4, h5⟩ := tkn_ok ok h0
  obtain ⟨a, b⟩ := h4 h
  show (tkn ts (skp ts (psq ts k))).2 = _
  omega
end TK4

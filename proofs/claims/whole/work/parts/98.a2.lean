/-! ===== the law's reading, as a function ===== -/
section LW
variable {ts : List Nat} {n B : Nat}
abbrev PR : Type := Nat ⊕ (Nat × Lws)
def lpR (ts : List Nat) (P : Nat → Lws → PR) (op : Tok → Option Nat) : Nat → Nat → Lws → PR
  | 0, k, a => .inr (k, a)
  | f + 1, k, a => match op (tok ts k) with
    | none => .inr (k, a)
    | some c => match P (k + 1) a with
      | .inl e => .inl e
      | .inr q => lpR ts P op f q.1 (q.2 ++ [(c, nI 0)])
def lpS (ts : List Nat) (P : Nat → Lws → PR) (op : Tok → Option Nat) (k : Nat) (a : Lws) : PR := match P k a with
  | .inl e => .inl e
  | .inr q => lpR ts P op 1000 q.1 q.2
def opT (T : Tok) : Option Nat := if isS 42 T = true then some 6 else none
def opA (T : Tok) : Option Nat := if isS 43 T = true then some 4 else if isS 45 T = true then some 5 else none
def opB (T : Tok) : Option Nat := if isW 16 T = true then some 9 else if isW 17 T = true then some 10 else none
def prd (ts : List Nat) (P : Nat → Lws → PR) : Nat → Lws → PR := lpS ts P opT
def sms (ts : List Nat) (P : Nat → Lws → PR) : Nat → Lws → PR := lpS ts (prd ts P) opA
def opC (T : Tok) : Option Nat := if isS 60 T = true then some 7 else if isS 61 T = true then some 8 else none
/-- at most once -/
def tsR (ts : List Nat) (P : Nat → Lws → PR) (k : Nat) (a : Lws) : PR := match P k a with
  | .inl e => .inl e
  | .inr q => match opC (tok ts q.1) with
    | none => .inr q
    | some c => match P (q.1 + 1) q.2 with
      | .inl e => .inl e
      | .inr r => .inr (r.1, r.2 ++ [(c, nI 0)])
def tst (ts : List Nat) (P : Nat → Lws → PR) : Nat → Lws → PR := tsR ts (sms ts P)
def alR (ts : List Nat) (P : Nat → Lws → PR) : Nat → Lws → PR := lpS ts (tst ts P) opB
def vlu (T : Tok) : Option (Nat × Int32) := if Tk T = 2 then some (1, nI (Tv T)) else if Tk T = 1 ∧ 18 ≤ wix (Tl T) ∧ wix (Tl T) < 21 then some (2, nI (wix (Tl T) - 18)) else none
def prt (ts : List Nat) : Nat → Nat → Lws → PR
  | 0, k, _ => if isW 15 (tok ts k) = true ∨ isS 40 (tok ts k) = true ∨ (vlu (tok ts k)).isSome = true then .inl (flt 5 (tok ts k)) else .inl (flt 1 (tok ts k))
  | r + 1, k, a => if isW 15 (tok ts k) = true then (match prt ts r (k + 1) a with
      | .inl e => .inl e
      | .inr q => .inr (q.1, q.2 ++ [(3, nI 0)])) else if isS 40 (tok ts k) = true then (match alR ts (prt ts r) (k + 1) a with
      | .inl e => .inl e
      | .inr q => if isS 41 (tok ts q.1) = true then .inr (q.1 + 1, q.2) else .inl (flt 1 (tok ts q.1))) else match vlu (tok ts k) with
      | some v => .inr (k + 1, a ++ [v])
      | none => .inl (flt 1 (tok ts k))
/-- what such a reading keeps: from heights of at most B it lays one value -/
def okR (n B : Nat) (k : Nat) (a : Lws) (r : PR) : Prop := match r with
  | .inl e => 1 ≤ e ∧ e < 20000
  | .inr q => k < q.1 ∧ q.1 ≤ n ∧ ∃ xs, q.2 = a ++ xs ∧ k + xs.length ≤ q.1 ∧ ∀ t, t ≤ B → okT xs t (t + 1)
def okF (n B : Nat) (P : Nat → Lws → PR) : Prop := ∀ k a, k ≤ n → okR n B k a (P k a)
def okO (op : Tok → Option Nat) : Prop := ∀ T c, op T = some c → 4 ≤ c ∧ c ≤ 10 ∧ Tk T ≠ 0
theorem tk_lt (hn : Tk (tok ts n) = 0) {k : Nat} (hk : k ≤ n) (h : Tk (tok ts k) ≠ 0) : k + 1 ≤ n := by
  rcases Nat.lt_or_eq_of_le hk with h1 | h1
  · omega
  · rw [h1] at h; exact absurd hn h
theorem okT_2 {c t : Nat} (h : 4 ≤ c ∧ c ≤ 10) : okT [(c, nI 0)] (t + 2) (t + 1) := by
  refine ⟨Or.inr (Or.inr (Or.inr ⟨h.1, h.2, by omega⟩)), ?_⟩
  unfold dpt
  rw [if_neg (by show ¬ c ≤ 2; omega), if_neg (by show ¬ c = 3; omega)]
  rfl
theorem okO_T : okO opT := by
  intro T c h
  unfold opT at h
  by_cases q : isS 42 T = true
  · rw [if_pos q] at h; cases h; exact ⟨by omega, by omega, isS_k q⟩
  · rw [if_neg q] at h; cases h
theorem okO_A : okO opA := by
  intro T c h
  unfold opA at h
  by_cases q : isS 43 T = true
  · rw [if_pos q] at h; cases h; exact ⟨by omega, by omega, isS_k q⟩
  · rw [if_neg q] at h
    by_cases q : isS 45 T = true
    · rw [if_pos q] at h; cases h; exact ⟨by omega, by omega, isS_k q⟩
    · rw [if_neg q] at h; cases h
theorem okO_B : okO opB := by
  intro T c h
  unfold opB at h
  by_cases q : isW 16 T = true
  · rw [if_pos q] at h; cases h; exact ⟨by omega, by omega, isW_k q⟩
  · rw [if_neg q] at h
    by_cases q : isW 17 T = true
    · rw [if_pos q] at h; cases h; exact ⟨by omega, by omega, isW_k q⟩
    · rw [if_neg q] at h; cases h
theorem okO_C : okO opC := by
  intro T c h
  unfold opC at h
  by_cases q : isS 60 T = true
  · rw [if_pos q] at h; cases h; exact ⟨by omega, by omega, isS_k q⟩
  · rw [if_neg q] at h
    by_cases q : isS 61 T = true
    · rw [if_pos q] at h; cases h; exact ⟨by omega, by omega, isS_k q⟩
    · rw [if_neg q] at h; cases h
/-- one more operand and its sign -/
theorem okR_2 {k k1 : Nat} {a xs : Lws} {c : Nat} {q : Nat × Lws} (hc : 4 ≤ c ∧ c ≤ 10) (h1 : k < k1) (h2 : k + xs.length ≤ k1) (h3 : ∀ t, t ≤ B → okT xs t (t + 1)) (h : okR n (B + 1) (k1 + 1) (a ++ xs) (.inr q)) : okR n B k a (.inr (q.1, q.2 ++ [(c, nI 0)])) := by
  obtain ⟨g1, g2, ys, g3, g4, g5⟩ := h
  refine ⟨by show k < q.1; omega, g2, xs ++ ys ++ [(c, nI 0)], by rw [g3]; simp, ?_, fun t ht => okT_app (okT_app (h3 t ht) (g5 (t + 1) (by omega))) (okT_2 hc)⟩
  show k + (xs ++ ys ++ [(c, nI 0)]).length ≤ q.1
  rw [List.length_append, List.length_append]
  show k + (xs.length + ys.length + 1) ≤ q.1
  omega
theorem okR_e {k k' : Nat} {a a' : Lws} {B B' : Nat} {e : Nat} (h : okR n B k a (.inl e)) : okR n B' k' a' (.inl e) := h
theorem lpR_ok (hn : Tk (tok ts n) = 0) {P : Nat → Lws → PR} {op : Tok → Option Nat} (hO : okO op) (hP : okF n (B + 1) P) {k : Nat} {a : Lws} : ∀ (f k1 : Nat) (xs : Lws), k < k1 → k1 ≤ n → k + xs.length ≤ k1 → (∀ t, t ≤ B → okT xs t (t + 1)) → okR n B k a (lpR ts P op f k1 (a ++ xs)) := by
  intro f
  induction f with
  | zero => intro k1 xs h1 h2 h3 h4; exact ⟨h1, h2, xs, rfl, h3, h4⟩
  | succ f ih =>
    intro k1 xs h1 h2 h3 h4
    unfold lpR
    cases ho : op (tok ts k1) with
    | none => exact ⟨h1, h2, xs, rfl, h3, h4⟩
    | some c =>
      obtain ⟨o1, o2, o3⟩ := hO _ _ ho
      have hp := hP (k1 + 1) (a ++ xs) (tk_lt hn h2 o3)
      cases hq : P (k1 + 1) (a ++ xs) with
      | inl e => rw [hq] at hp; exact hp
      | inr q =>
        rw [hq] at hp
        obtain ⟨z1, z2, ys, z3, z4, z5⟩ := okR_2 ⟨o1, o2⟩ h1 h3 h4 hp
        show okR n B k a (lpR ts P op f q.1 (q.2 ++ [(c, nI 0)]))
        have z3 : q.2 ++ [(c, nI 0)] = a ++ ys := z3
        rw [z3]
        exact ih q.1 ys z1 z2 z4 z5
theorem lpS_ok (hn : Tk (tok ts n) = 0) {P : Nat → Lws → PR} {op : Tok → Option Nat} (hO : okO op) (hP : okF n (B + 1) P) : okF n B (lpS ts P op) := by
  intro k a hk
  have hp := hP k a hk
  unfold lpS
  cases hq : P k a with
  | inl e => rw [hq] at hp; exact hp
  | inr q =>
    rw [hq] at hp
    obtain ⟨z1, z2, ys, z3, z4, z5⟩ := hp
    show okR n B k a (lpR ts P op 1000 q.1 q.2)
    rw [z3]
    exact lpR_ok hn hO hP 1000 q.1 ys z1 z2 z4 (fun t ht => z5 t (by omega))
theorem tsR_ok (hn : Tk (tok ts n) = 0) {P : Nat → Lws → PR} (hP : okF n (B + 1) P) : okF n B (tsR ts P) := by
  intro k a hk
  have hp := hP k a hk
  unfold tsR
  cases hq : P k a with
  | inl e => rw [hq] at hp; exact hp
  | inr q =>
    rw [hq] at hp
    obtain ⟨z1, z2, ys, z3, z4, z5⟩ := hp
    show okR n B k a (match opC (tok ts q.1) with
      | none => .inr q
      | some c => match P (q.1 + 1) q.2 with
        | .inl e => .inl e
        | .inr r => .inr (r.1, r.2 ++ [(c, nI 0)]))
    cases ho : opC (tok ts q.1) with
    | none => exact ⟨z1, z2, ys, z3, z4, fun t ht => z5 t (by omega)⟩
    | some c =>
      obtain ⟨o1, o2, o3⟩ := okO_C _ _ ho
      have hp2 := hP (q.1 + 1) q.2 (tk_lt hn z2 o3)
      show okR n B k a (match P (q.1 + 1) q.2 with
        | .inl e => .inl e
        | .inr r => .inr (r.1, r.2 ++ [(c, nI 0)]))
      cases hr : P (q.1 + 1) q.2 with
      | inl e => rw [hr] at hp2; exact hp2
      | inr r =>
        rw [hr, z3] at hp2
        exact okR_2 ⟨o1, o2⟩ z1 z4 (fun t ht => z5 t (by omega)) hp2
theorem okF_le {B' : Nat} {P : Nat → Lws → PR} (h : B ≤ B') (hP : okF n B' P) : okF n B P := by
  intro k a hk
  have hp := hP k a hk
  cases hq : P k a with
  | inl e => rw [hq] at hp; exact hp
  | inr q =>
    rw [hq] at hp
    obtain ⟨z1, z2, ys, z3, z4, z5⟩ := hp
    exact ⟨z1, z2, ys, z3, z4, fun t ht => z5 t (by omega)⟩
theorem prd_ok (hn : Tk (tok ts n) = 0) {P : Nat → Lws → PR} (hP : okF n (B + 1) P) : okF n B (prd ts P) := lpS_ok hn okO_T hP
theorem sms_ok (hn : Tk (tok ts n) = 0) {P : Nat → Lws → PR} (hP : okF n (B + 2) P) : okF n B (sms ts P) := lpS_ok hn okO_A (prd_ok hn hP)
theorem tst_ok (hn : Tk (tok ts n) = 0) {P : Nat → Lws → PR} (hP : okF n (B + 3) P) : okF n B (tst ts P) := tsR_ok hn (sms_ok hn hP)
theorem alR_ok (hn : Tk (tok ts n) = 0) {P : Nat → Lws → PR} (hP : okF n (B + 4) P) : okF n B (alR ts P) := lpS_ok hn okO_B (tst_ok hn hP)
theorem vlu_ok {T : Tok} (h : okK T) {v : Nat × Int32} (e : vlu T = some v) : Tk T ≠ 0 ∧ ∀ t, t < 32 → okT [v] t (t + 1) := by
  unfold vlu at e
  by_cases c : Tk T = 2
  · rw [if_pos c] at e
    cases e
    exact ⟨by omega, fun t ht => ⟨Or.inl ⟨rfl, ht, Tv T, h.2.2.2.2.1 c, rfl⟩, rfl⟩⟩
  · rw [if_neg c] at e
    by_cases d : Tk T = 1 ∧ 18 ≤ wix (Tl T) ∧ wix (Tl T) < 21
    · rw [if_pos d] at e
      cases e
      exact ⟨by omega, fun t ht => ⟨Or.inr (Or.inl ⟨rfl, ht, wix (Tl T) - 18, by omega, rfl⟩), rfl⟩⟩
    · rw [if_neg d] at e; cases e
theorem prt_ok (ok : okTp ts) (hn : Tk (tok ts n) = 0) : ∀ r, r ≤ 5 → okF n (24 - 4 * r) (prt ts r) := by
  have fl : ∀ f k B k' a, 1 ≤ f ∧ f ≤ 5 → okR n B k' a (.inl (flt f (tok ts k))) := fun f k B k' a h => ⟨flt_pos h.1, flt_lt ok h.2⟩
  intro r
  induction r with
  | zero =>
    intro _ k a hk
    unfold prt
    split
    · exact fl _ _ _ _ _ (by omega)
    · exact fl _ _ _ _ _ (by omega)
  | succ r ih =>
    intro hr5 k a hk
    have ih := ih (by omega)
    unfold prt
    by_cases c1 : isW 15 (tok ts k) = true
    · rw [if_pos c1]
      have hp := ih (k + 1) a (tk_lt hn hk (isW_k c1))
      cases hq : prt ts r (k + 1) a with
      | inl e => rw [hq] at hp; exact hp
      | inr q =>
        rw [hq] at hp
        obtain ⟨z1, z2, ys, z3, z4, z5⟩ := hp
        refine ⟨by show k < q.1; omega, z2, ys ++ [(3, nI 0)], by show q.2 ++ [(3, nI 0)] = _; rw [z3]; simp, ?_, fun t ht => okT_app (z5 t (by omega)) ⟨Or.inr (Or.inr (Or.inl ⟨rfl, by omega⟩)), rfl⟩⟩
        show k + (ys ++ [(3, nI 0)]).length ≤ q.1
        rw [List.length_append]
        show k + (ys.length + 1) ≤ q.1
        omega
    · rw [if_neg c1]
      by_cases c2 : isS 40 (tok ts k) = true
      · rw [if_pos c2]
        have hp := alR_ok (B := 24 - 4 * (r + 1)) hn (okF_le (by omega) ih) (k + 1) a (tk_lt hn hk (isS_k c2))
        cases hq : alR ts (prt ts r) (k + 1) a with
        | inl e => rw [hq] at hp; exact hp
        | inr q =>
          rw [hq] at hp
          obtain ⟨z1, z2, ys, z3, z4, z5⟩ := hp
          show okR n _ k a (if isS 41 (tok ts q.1) = true then .inr (q.1 + 1, q.2) else .inl (flt 1 (tok ts q.1)))
          by_cases c3 : isS 41 (tok ts q.1) = true
          · rw [if_pos c3]
            exact ⟨by show k < q.1 + 1; omega, tk_lt hn z2 (isS_k c3), ys, z3, by show k + ys.length ≤ q.1 + 1; omega, z5⟩
          · rw [if_neg c3]
            exact fl _ _ _ _ _ (by omega)
      · rw [if_neg c2]
        cases hv : vlu (tok ts k) with
        | none => exact fl _ _ _ _ _ (by omega)
        | some v =>
          obtain ⟨v1, v2⟩ := vlu_ok (tok_ok ok k).1 hv
          exact ⟨Nat.lt_succ_self k, tk_lt hn hk v1, [v], rfl, Nat.le_refl _, fun t ht => v2 t (by omega)⟩
end LW

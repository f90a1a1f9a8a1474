/-! ===== tokens ===== -/
section TK
def isLt (c : Nat) : Bool := decide (97 ≤ c) && decide (c ≤ 122)
def isDg (c : Nat) : Bool := decide (48 ≤ c) && decide (c ≤ 57)
def isSp (c : Nat) : Bool := decide (c = 10) || decide (c = 32)
def isSn (c : Nat) : Bool := decide (c = 40) || decide (c = 41) || decide (c = 59) || decide (c = 61) || decide (c = 60) || decide (c = 43) || decide (c = 45) || decide (c = 42)
/-- how many from place i on are of a sort -/
def spn (P : Nat → Bool) (ts : List Nat) (i : Nat) : Nat := ((ts.drop i).takeWhile P).length
theorem spn_end {P : Nat → Bool} {ts : List Nat} {i : Nat} (h : ts.length ≤ i) : spn P ts i = 0 := by
  unfold spn
  rw [List.drop_eq_nil_of_le h]
  rfl
theorem spn_no {P : Nat → Bool} {ts : List Nat} {i c : Nat} (e : ts[i]? = some c) (h : P c = false) : spn P ts i = 0 := by
  unfold spn
  rw [drop_get e, List.takeWhile_cons, h]
  rfl
theorem spn_yes {P : Nat → Bool} {ts : List Nat} {i c : Nat} (e : ts[i]? = some c) (h : P c = true) : spn P ts i = spn P ts (i + 1) + 1 := by
  unfold spn
  rw [drop_get e, List.takeWhile_cons, h]
  rfl
theorem spn_le (P : Nat → Bool) (ts : List Nat) (i : Nat) (h : i ≤ ts.length) : i + spn P ts i ≤ ts.length := by
  unfold spn
  have h1 := List.Sublist.length_le (List.takeWhile_sublist P (l := ts.drop i))
  rw [List.length_drop] at h1
  omega
abbrev Tok : Type := Nat × Nat × List Nat × Nat
/-- the word's letters, a number's value -/
def ltr (ts : List Nat) (i : Nat) : List Nat := ((ts.drop i).takeWhile isLt).map (fun c => c - 96)
def dgv (ts : List Nat) (i : Nat) : Nat := ((ts.drop i).takeWhile isDg).foldl (fun v c => 10 * v + (c - 48)) 0
def skp (ts : List Nat) (i : Nat) : Nat := i + spn isSp ts i
/-- the token that begins at i, and where it ends -/
def tkn (ts : List Nat) (i : Nat) : Tok × Nat := match ts[i]? with
  | none => ((i, 0, [], 0), i)
  | some c => if isLt c = true then ((if spn isLt ts i ≤ 8 then (i, 1, ltr ts i, 0) else (i, 4, [], 0)), i + spn isLt ts i) else if isDg c = true then ((if spn isDg ts i ≤ 4 then (i, 2, [], dgv ts i) else (i, 4, [], 0)), i + spn isDg ts i) else ((if isSn c = true then (i, 3, [], c) else (i, 4, [], 0)), i + 1)
end TK

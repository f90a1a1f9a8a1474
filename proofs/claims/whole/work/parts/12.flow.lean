/-! ===== branches, loops and ends: pieces that come out at a place that they say; 1000000 is the method's end ===== -/
def jt_t1 (f : Int32 → Bool) (s : JS) : Option (Bool × JS) := match s.2.1 with
  | .int x :: st => some (f x, s.1, st, s.2.2)
  | _ => none
def jt_t2 (f : Int32 → Int32 → Bool) (s : JS) : Option (Bool × JS) := match s.2.1 with
  | .int y :: .int x :: st => some (f x y, s.1, st, s.2.2)
  | _ => none
def jt_ta (f : Bool → Bool) (s : JS) : Option (Bool × JS) := match s.2.1 with
  | .ref y :: .ref x :: st => if x < 22 ∧ y < 22 then some (f (decide (x = y)), s.1, st, s.2.2) else none
  | _ => none
/-- the tests by their numbers -/
def jt_tst (c : Nat) : JS → Option (Bool × JS) := match c with
  | 0 => jt_t1 (fun x => decide (x = 0))
  | 1 => jt_t1 (fun x => !decide (x = 0))
  | 2 => jt_t1 (fun x => decide (x < 0))
  | 3 => jt_t1 (fun x => decide (0 ≤ x))
  | 4 => jt_t1 (fun x => decide (0 < x))
  | 5 => jt_t1 (fun x => decide (x ≤ 0))
  | 6 => jt_t2 (fun x y => decide (x = y))
  | 7 => jt_t2 (fun x y => !decide (x = y))
  | 8 => jt_t2 (fun x y => decide (x < y))
  | 9 => jt_t2 (fun x y => decide (y ≤ x))
  | 10 => jt_t2 (fun x y => decide (y < x))
  | 11 => jt_t2 (fun x y => decide (x ≤ y))
  | 12 => jt_ta (fun b => b)
  | 13 => jt_ta (fun b => !b)
  | _ => fun _ => none
def jx_tst (i : Instr) : Option (Nat × Int) := match i with
  | .ifCond .eq o => some (0, o)
  | .ifCond .ne o => some (1, o)
  | .ifCond .lt o => some (2, o)
  | .ifCond .ge o => some (3, o)
  | .ifCond .gt o => some (4, o)
  | .ifCond .le o => some (5, o)
  | .if_icmp .eq o => some (6, o)
  | .if_icmp .ne o => some (7, o)
  | .if_icmp .lt o => some (8, o)
  | .if_icmp .ge o => some (9, o)
  | .if_icmp .gt o => some (10, o)
  | .if_icmp .le o => some (11, o)
  | .if_acmp .eq o => some (12, o)
  | .if_acmp .ne o => some (13, o)
  | _ => none
def jb_go (F : JN) (t : Nat) : JP := fun s => (F s).bind (fun s' => some (t, s'))
def jb_if (F : JN) (c t f : Nat) : JP := fun s => (F s).bind (fun s' => (jt_tst c s').bind (fun q => some (if q.1 = true then t else f, q.2)))
def jb_sw (F : JN) (lo : Int) (ts : List Nat) (df : Nat) : JP := fun s => (F s).bind (fun s' => match s'.2.1 with
  | .int x :: st => some (if x.toInt < lo ∨ lo + ts.length ≤ x.toInt then df else ts.getD (x.toInt - lo).toNat df, s'.1, st, s'.2.2)
  | _ => none)
/-- a look-up: pairs of a number and a place -/
def jb_lk (F : JN) (ps : List (Int × Nat)) (df : Nat) : JP := fun s => (F s).bind (fun s' => match s'.2.1 with
  | .int x :: st => some ((ps.lookup x.toInt).getD df, s'.1, st, s'.2.2)
  | _ => none)
/-- the kinds of an end: 0 void, 1 int, 2 long, 3 a reference, 4 boolean (0 or 1), 5 byte -/
def jb_rt (F : JN) (k : Nat) : JP := fun s => (F s).bind (fun s' => match k, s'.2.1 with
  | 0, [] => some (1000000, s')
  | 1, [.int _] => some (1000000, s')
  | 2, [.long _] => some (1000000, s')
  | 3, [.ref _] => some (1000000, s')
  | 4, [.int x] => if x = 0 ∨ x = 1 then some (1000000, s') else none
  | 5, [.int x] => if narrow .byte (.int x) = .int x then some (1000000, s') else none
  | _, _ => none)
def jb_sq (P : JP) (h : Nat) (P' : JP) : JP := fun s => (P s).bind (fun q => if q.1 = h then P' q.2 else some q)
def jb_it (h : Nat) (P : JP) : Nat → JP
  | 0 => fun _ => none
  | n + 1 => fun s => (P s).bind (fun q => if q.1 = h then jb_it h P n q.2 else some q)
theorem jb_it_more {h : Nat} {P : JP} {n : Nat} : ∀ {s : JS} {r : Nat × JS}, jb_it h P n s = some r → jb_it h P (n + 1) s = some r := by
  induction n with
  | zero => intro s r hr; cases hr
  | succ n ih =>
    intro s r hr
    unfold jb_it at hr ⊢
    obtain ⟨q, h1, h2⟩ := Option.bind_eq_some_iff.mp hr
    refine Option.bind_eq_some_iff.mpr ⟨q, h1, ?_⟩
    split at h2
    · rename_i hq
      rw [if_pos hq]
      exact ih h2
    · rename_i hq
      rw [if_neg hq]
      exact h2
theorem jb_it_le {h : Nat} {P : JP} {n k : Nat} (hk : n ≤ k) {s : JS} {r : Nat × JS} (hr : jb_it h P n s = some r) : jb_it h P k s = some r := by
  induction hk with
  | refl => exact hr
  | step _ ih => exact jb_it_more ih
theorem jb_it_one {h : Nat} {P : JP} {n k : Nat} {s : JS} {r r' : Nat × JS} (h1 : jb_it h P n s = some r) (h2 : jb_it h P k s = some r') : r = r' := by
  have a := jb_it_le (Nat.le_max_left n k) h1
  have b := jb_it_le (Nat.le_max_right n k) h2
  exact Option.some.inj (a.symm.trans b)
/-- a loop that begins anew at h -/
noncomputable def jb_lp (h : Nat) (P : JP) : JP := fun s => @dite (Option (Nat × JS)) (∃ r n, jb_it h P n s = some r) (Classical.propDecidable _) (fun hx => some (Classical.choose hx)) (fun _ => none)
theorem jb_lp_of {h : Nat} {P : JP} {n : Nat} {s : JS} {r : Nat × JS} (hr : jb_it h P n s = some r) : jb_lp h P s = some r := by
  have hx : ∃ r n, jb_it h P n s = some r := ⟨r, n, hr⟩
  unfold jb_lp
  rw [dif_pos hx]
  obtain ⟨k, hk⟩ := Classical.choose_spec hx
  rw [jb_it_one hk hr]
theorem jb_lp_ex {h : Nat} {P : JP} {s : JS} {r : Nat × JS} (hr : jb_lp h P s = some r) : ∃ n, jb_it h P n s = some r := by
  by_cases hx : ∃ r n, jb_it h P n s = some r
  · obtain ⟨r', n, h1⟩ := hx
    have h2 := jb_lp_of h1
    rw [hr] at h2
    cases h2
    exact ⟨n, h1⟩
  · unfold jb_lp at hr
    rw [dif_neg hx] at hr
    cases hr
/-- a loop, by one more turn -/
theorem jb_lp_eq (h : Nat) (P : JP) (s : JS) : jb_lp h P s = (P s).bind (fun q => if q.1 = h then jb_lp h P q.2 else some q) := by
  cases hP : P s with
  | none =>
    cases hr : jb_lp h P s with
    | none => rfl
    | some r =>
      obtain ⟨n, hn⟩ := jb_lp_ex hr
      cases n with
      | zero => cases hn
      | succ n =>
        unfold jb_it at hn
        rw [hP] at hn
        cases hn
  | some q =>
    rw [Option.bind_some]
    by_cases hq : q.1 = h
    · rw [if_pos hq]
      cases hr : jb_lp h P q.2 with
      | none =>
        cases hr2 : jb_lp h P s with
        | none => rfl
        | some r =>
          obtain ⟨n, hn⟩ := jb_lp_ex hr2
          cases n with
          | zero => cases hn
          | succ n =>
            unfold jb_it at hn
            rw [hP, Option.bind_some, if_pos hq] at hn
            have := jb_lp_of hn
            rw [hr] at this
            cases this
      | some r =>
        obtain ⟨n, hn⟩ := jb_lp_ex hr
        refine jb_lp_of (n := n + 1) ?_
        unfold jb_it
        rw [hP, Option.bind_some, if_pos hq]
        exact hn
    · rw [if_neg hq]
      refine jb_lp_of (n := 1) ?_
      unfold jb_it
      rw [hP, Option.bind_some, if_neg hq]
/-- P is what the code does from place i on, until it comes out where P says -/
def JFr (G : JG) (own : Nat) (ini : Bool) (cc : ByteArray) (d nL : Nat) (ret : Option FieldType) (i : Nat) (P : JP) : Prop :=
  (∀ S q, P S = some q → jmono S.2.2 q.2.2.2) ∧
  ∀ (p : Program) (e : Env) (R : Room) (s : State) (m : MethodId) (args : Array Value) (below : List Frame) (meth : Method) (c : Code) (n0 w0 nE wE : Nat) (Q : State → Prop),
    JX G p R s m meth c cc nL n0 w0 nE wE own ini → JD R d → meth.sig.returnType = ret → meth.locks = false → ∀ S q, P S = some q →
      (q.1 = 1000000 → nE = jh_n q.2.2.2 ∧ wE = jh_w q.2.2.2 ∧ ∀ t, MQ below (JQc G q.2.2.1.head? q.2.2.2) args s (nE - n0) (wE - w0) (fun a => jg_sz G ≤ a) t → Q t) →
      (¬ q.1 = 1000000 → JK G p e R s m args below meth c nL n0 w0 nE wE Q q.1 q.2) →
      JK G p e R s m args below meth c nL n0 w0 nE wE Q i S
section JW
variable {G : JG} {cc : ByteArray} {nL own d : Nat} {ini : Bool} {ret : Option FieldType} {i j k h : Nat}
theorem jfr_sq {P P' : JP} (h1 : JFr G own ini cc d nL ret i P) (h2 : JFr G own ini cc d nL ret h P') (hh : ¬ h = 1000000) : JFr G own ini cc d nL ret i (jb_sq P h P') := by
  refine ⟨fun S q hq => ?_, fun p e R s m args below meth c n0 w0 nE wE Q X D hr hlk S q hq a b => ?_⟩
  · obtain ⟨q1, g1, g2⟩ := Option.bind_eq_some_iff.mp hq
    split at g2
    · exact (h1.1 _ _ g1).tr (h2.1 _ _ g2)
    · cases g2; exact h1.1 _ _ g1
  · obtain ⟨q1, g1, g2⟩ := Option.bind_eq_some_iff.mp hq
    split at g2
    · rename_i hq1
      refine h1.2 p e R s m args below meth c n0 w0 nE wE Q X D hr hlk S q1 g1 (fun z => absurd (hq1 ▸ z) hh) (fun _ => ?_)
      rw [hq1]
      exact h2.2 p e R s m args below meth c n0 w0 nE wE Q X D hr hlk q1.2 q g2 a b
    · cases g2
      exact h1.2 p e R s m args below meth c n0 w0 nE wE Q X D hr hlk S _ g1 a b
theorem jfr_lp {P : JP} (h1 : JFr G own ini cc d nL ret h P) (hh : ¬ h = 1000000) : JFr G own ini cc d nL ret h (jb_lp h P) := by
  refine ⟨fun S q hq => ?_, fun p e R s m args below meth c n0 w0 nE wE Q X D hr hlk S q hq a b => ?_⟩
  · obtain ⟨n, hn⟩ := jb_lp_ex hq
    clear hq
    induction n generalizing S with
    | zero => cases hn
    | succ n ih =>
      unfold jb_it at hn
      obtain ⟨q1, g1, g2⟩ := Option.bind_eq_some_iff.mp hn
      split at g2
      · exact (h1.1 _ _ g1).tr (ih _ g2)
      · cases g2; exact h1.1 _ _ g1
  · obtain ⟨n, hn⟩ := jb_lp_ex hq
    clear hq
    induction n generalizing S with
    | zero => cases hn
    | succ n ih =>
      unfold jb_it at hn
      obtain ⟨q1, g1, g2⟩ := Option.bind_eq_some_iff.mp hn
      split at g2
      · rename_i hq1
        refine h1.2 p e R s m args below meth c n0 w0 nE wE Q X D hr hlk S q1 g1 (fun z => absurd (hq1 ▸ z) hh) (fun _ => ?_)
        rw [hq1]
        exact ih q1.2 g2
      · cases g2
        exact h1.2 p e R s m args below meth c n0 w0 nE wE Q X D hr hlk S _ g1 a b
/-- a place that is t, or a jump to it -/
def jx_go (cc : ByteArray) (j t : Nat) : Bool := (j == t) || (match decode cc j with
  | .ok (.goto o, len) => len == 3 && (j : Int) + o == (t : Int)
  | _ => false)
theorem jk_go {p : Program} {e : Env} {R : Room} {s : State} {m : MethodId} {args : Array Value} {below : List Frame} {meth : Method} {c : Code} {n0 w0 nE wE : Nat} {Q : State → Prop} {t : Nat} {S : JS} (X : JX G p R s m meth c cc nL n0 w0 nE wE own ini) (hg : jx_go cc j t = true)
    (k : JK G p e R s m args below meth c nL n0 w0 nE wE Q t S) : JK G p e R s m args below meth c nL n0 w0 nE wE Q j S := by
  unfold jx_go at hg
  rw [Bool.or_eq_true] at hg
  rcases hg with hg | hg
  · rw [eq_of_beq hg]; exact k
  · split at hg
    · rename_i o len hd
      rw [Bool.and_eq_true] at hg
      have hl := eq_of_beq hg.1
      subst hl
      have ho : (j : Int) + o = (t : Int) := eq_of_beq hg.2
      obtain ⟨L, st, σ⟩ := S
      exact jk_st (fun H locs ls cells slots _ _ kk => lv_goto X.1 X.2.1 hd ho kk) k
    · cases hg
theorem jfr_go {F : JN} {t : Nat} (h1 : JSl G own ini cc d nL i j F) (hg : jx_go cc j t = true) (ht : ¬ t = 1000000) : JFr G own ini cc d nL ret i (jb_go F t) := by
  refine ⟨fun S q hq => ?_, fun p e R s m args below meth c n0 w0 nE wE Q X D hr hlk S q hq a b => ?_⟩
  · obtain ⟨S1, g1, g2⟩ := Option.bind_eq_some_iff.mp hq
    cases g2
    exact h1.1 _ _ g1
  · obtain ⟨S1, g1, g2⟩ := Option.bind_eq_some_iff.mp hq
    cases g2
    exact h1.2 p e R s m args below meth c n0 w0 nE wE _ X D S S1 g1 (jk_go X hg (b ht))
/-- a test at place j: where it leads -/
def jx_if (cc : ByteArray) (j cn t f : Nat) : Bool := match decode cc j with
  | .ok (ins, len) => match jx_tst ins with
    | some (c', o) => c' == cn && len == 3 && (j : Int) + o == (t : Int) && j + 3 == f
    | none => false
  | .error _ => false
theorem jt_t1_i {f : Int32 → Bool} {S : JS} {q : Bool × JS} (h : jt_t1 f S = some q) : ∃ x st, S.2.1 = .int x :: st ∧ q = (f x, S.1, st, S.2.2) := by
  unfold jt_t1 at h
  split at h
  · rename_i x st hs; cases h; exact ⟨x, st, hs, rfl⟩
  · cases h
theorem jt_t2_i {f : Int32 → Int32 → Bool} {S : JS} {q : Bool × JS} (h : jt_t2 f S = some q) : ∃ x y st, S.2.1 = .int y :: .int x :: st ∧ q = (f x y, S.1, st, S.2.2) := by
  unfold jt_t2 at h
  split at h
  · rename_i y x st hs; cases h; exact ⟨x, y, st, hs, rfl⟩
  · cases h
theorem jt_ta_i {f : Bool → Bool} {S : JS} {q : Bool × JS} (h : jt_ta f S = some q) : ∃ x y st, S.2.1 = .ref y :: .ref x :: st ∧ x < 22 ∧ y < 22 ∧ q = (f (decide (x = y)), S.1, st, S.2.2) := by
  unfold jt_ta at h
  split at h
  · rename_i y x st hs
    split at h
    · rename_i hc; cases h; exact ⟨x, y, st, hs, hc.1, hc.2, rfl⟩
    · cases h
  · cases h
theorem jt_tst_mono {cn : Nat} {S : JS} {q : Bool × JS} (h : jt_tst cn S = some q) : q.2.2.2 = S.2.2 := by
  obtain ⟨F, hF⟩ : ∃ F, jt_tst cn = F := ⟨_, rfl⟩
  rw [hF] at h
  unfold jt_tst at hF
  split at hF <;> subst hF
  all_goals first
    | (exact absurd (show (none : Option (Bool × JS)) = some q from h) (by simp))
    | (obtain ⟨x, st, h1, rfl⟩ := jt_t1_i h; rfl)
    | (obtain ⟨x, y, st, h1, rfl⟩ := jt_t2_i h; rfl)
    | (obtain ⟨x, y, st, h1, h2, h3, rfl⟩ := jt_ta_i h; rfl)
end JW
-- touched 1

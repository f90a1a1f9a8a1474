/-! ===== reckoning with pieces: each form applied to a state, step by step ===== -/
theorem ev_lit (n : Nat) : Int32.ofInt (no_index (OfNat.ofNat n : Int)) = nI (OfNat.ofNat n) := rfl
theorem ev_m1 : Int32.ofInt (-1) = -1 := rfl
theorem ev_zero : (0 : Int32) = nI 0 := rfl
theorem ev_one : (1 : Int32) = nI 1 := rfl
theorem ev_bind_ite {α β : Type} (c : Prop) [Decidable c] (a b : Option α) (f : α → Option β) : (if c then a else b).bind f = if c then a.bind f else b.bind f := by split <;> rfl
theorem ev_le {X N : Nat} (h : X < N) : (N ≤ X) = False := by rw [eq_iff_iff, iff_false]; omega
theorem ev_leT {X N : Nat} (h : N ≤ X) : (N ≤ X) = True := by rw [eq_iff_iff, iff_true]; exact h
theorem ev_lt {X N : Nat} (h : N ≤ X) : (X < N) = False := by rw [eq_iff_iff, iff_false]; omega
theorem ev_ltT {X N : Nat} (h : X < N) : (X < N) = True := by rw [eq_iff_iff, iff_true]; exact h
theorem ev_nar (x : Int32) : (narrow .int (.int x) = .int x) = True := by rw [eq_iff_iff, iff_true]; rfl
theorem ev_fit (x : Int32) : (fits .int (.int x) = true) = True := by rw [eq_iff_iff, iff_true]; rfl
theorem ev_b0 (c : Prop) [Decidable c] : ((if c then nI 1 else nI 0 : Int32) = nI 0) = ¬ c := by
  by_cases h : c
  · rw [if_pos h, eq_iff_iff]; exact ⟨fun q => absurd q (by decide), fun q => absurd h q⟩
  · rw [if_neg h, eq_iff_iff]; exact ⟨fun _ => h, fun _ => rfl⟩
theorem ev_b1 (c : Prop) [Decidable c] : ((if c then nI 1 else nI 0 : Int32) = nI 1) = c := by
  by_cases h : c
  · rw [if_pos h, eq_iff_iff]; exact ⟨fun _ => h, fun _ => rfl⟩
  · rw [if_neg h, eq_iff_iff]; exact ⟨fun q => absurd q (by decide), fun q => absurd q h⟩
theorem ev_em (c : Prop) : (¬ c ∨ c) = True := by rw [eq_iff_iff, iff_true]; exact (Classical.em c).symm
theorem ev_merge (c : Prop) [Decidable c] (t : Nat) (L : JL) (x y : Int32) (st : List Value) (σ : JH) : (if c then some (t, L, Value.int x :: st, σ) else some (t, L, Value.int y :: st, σ)) = some (t, L, Value.int (if c then x else y) :: st, σ) := by split <;> rfl
theorem ev_flip (c : Prop) [Decidable c] : (if c then nI 0 else nI 1 : Int32) = if ¬ c then nI 1 else nI 0 := by by_cases h : c <;> simp [h]
theorem ev_andI (c d : Prop) [Decidable c] [Decidable d] : (if c then (if d then nI 1 else nI 0) else nI 0 : Int32) = if c ∧ d then nI 1 else nI 0 := by
  by_cases h : c <;> by_cases h' : d <;> simp [h, h']
theorem ev_nandI (c d : Prop) [Decidable c] [Decidable d] : (if c then nI 0 else (if d then nI 1 else nI 0) : Int32) = if ¬ c ∧ d then nI 1 else nI 0 := by
  by_cases h : c <;> by_cases h' : d <;> simp [h, h']
theorem ev_orI (c d : Prop) [Decidable c] [Decidable d] : (if c then nI 1 else (if d then nI 1 else nI 0) : Int32) = if c ∨ d then nI 1 else nI 0 := by
  by_cases h : c <;> by_cases h' : d <;> simp [h, h']
theorem ev_norI (c d : Prop) [Decidable c] [Decidable d] : (if c then (if d then nI 1 else nI 0) else nI 1 : Int32) = if ¬ c ∨ d then nI 1 else nI 0 := by
  by_cases h : c <;> by_cases h' : d <;> simp [h, h']
theorem jh_setI_1 (σ : JH) (a k : Nat) (x : Int32) : (jh_setI σ a k x).1 = σ.1 := rfl
theorem jh_setI_2 (σ : JH) (a k : Nat) (x : Int32) : (jh_setI σ a k x).2.1 = ju σ.2.1 a k x := rfl
theorem jh_setI_3 (σ : JH) (a k : Nat) (x : Int32) : (jh_setI σ a k x).2.2.1 = σ.2.2.1 := rfl
theorem jh_setI_4 (σ : JH) (a k : Nat) (x : Int32) : (jh_setI σ a k x).2.2.2 = σ.2.2.2 := rfl
theorem jh_setJ_1 (σ : JH) (a k : Nat) (x : Int64) : (jh_setJ σ a k x).1 = σ.1 := rfl
theorem jh_setJ_2 (σ : JH) (a k : Nat) (x : Int64) : (jh_setJ σ a k x).2.1 = σ.2.1 := rfl
theorem jh_setJ_3 (σ : JH) (a k : Nat) (x : Int64) : (jh_setJ σ a k x).2.2.1 = ju σ.2.2.1 a k x := rfl
theorem jh_setJ_4 (σ : JH) (a k : Nat) (x : Int64) : (jh_setJ σ a k x).2.2.2 = σ.2.2.2 := rfl
theorem jh_setR_1 (σ : JH) (a k : Nat) (x : Option Nat) : (jh_setR σ a k x).1 = σ.1 := rfl
theorem jh_setR_2 (σ : JH) (a k : Nat) (x : Option Nat) : (jh_setR σ a k x).2.1 = σ.2.1 := rfl
theorem jh_setR_3 (σ : JH) (a k : Nat) (x : Option Nat) : (jh_setR σ a k x).2.2.1 = σ.2.2.1 := rfl
theorem jh_setR_4 (σ : JH) (a k : Nat) (x : Option Nat) : (jh_setR σ a k x).2.2.2 = ju σ.2.2.2 a k x := rfl
/-! flow -/
def ez_sq (h : Nat) (P : JP) (q : Nat × JS) : Option (Nat × JS) := if q.1 = h then P q.2 else some q
theorem ev_sq (P : JP) (h : Nat) (P' : JP) (s : JS) : jb_sq P h P' s = (P s).bind (ez_sq h P') := rfl
theorem ev_sqk (h : Nat) (P : JP) (t : Nat) (s : JS) : ez_sq h P (t, s) = if t = h then P s else some (t, s) := rfl
def ez_go (t : Nat) (s : JS) : Option (Nat × JS) := some (t, s)
theorem ev_go (F : JN) (t : Nat) (s : JS) : jb_go F t s = (F s).bind (ez_go t) := rfl
theorem ev_gok (t : Nat) (s : JS) : ez_go t s = some (t, s) := rfl
def ez_br (t f : Nat) (q : Bool × JS) : Option (Nat × JS) := some (if q.1 = true then t else f, q.2)
def ez_if (c t f : Nat) (s : JS) : Option (Nat × JS) := (jt_tst c s).bind (ez_br t f)
theorem ev_if (F : JN) (c t f : Nat) (s : JS) : jb_if F c t f s = (F s).bind (ez_if c t f) := rfl
theorem ev_br {c : Prop} [Decidable c] (t f : Nat) (s : JS) : ez_br t f (decide c, s) = if c then some (t, s) else some (f, s) := by
  by_cases h : c <;> simp [ez_br, h]
theorem ev_brn {c : Prop} [Decidable c] (t f : Nat) (s : JS) : ez_br t f (!decide c, s) = if c then some (f, s) else some (t, s) := by
  by_cases h : c <;> simp [ez_br, h]
theorem ev_t0 (t f : Nat) (L : JL) (x : Int32) (st : List Value) (σ : JH) : ez_if 0 t f (L, .int x :: st, σ) = if x = 0 then some (t, L, st, σ) else some (f, L, st, σ) := ev_br t f _
theorem ev_t1 (t f : Nat) (L : JL) (x : Int32) (st : List Value) (σ : JH) : ez_if 1 t f (L, .int x :: st, σ) = if x = 0 then some (f, L, st, σ) else some (t, L, st, σ) := ev_brn t f _
theorem ev_t2 (t f : Nat) (L : JL) (x : Int32) (st : List Value) (σ : JH) : ez_if 2 t f (L, .int x :: st, σ) = if x < 0 then some (t, L, st, σ) else some (f, L, st, σ) := ev_br t f _
theorem ev_t3 (t f : Nat) (L : JL) (x : Int32) (st : List Value) (σ : JH) : ez_if 3 t f (L, .int x :: st, σ) = if 0 ≤ x then some (t, L, st, σ) else some (f, L, st, σ) := ev_br t f _
theorem ev_t4 (t f : Nat) (L : JL) (x : Int32) (st : List Value) (σ : JH) : ez_if 4 t f (L, .int x :: st, σ) = if 0 < x then some (t, L, st, σ) else some (f, L, st, σ) := ev_br t f _
theorem ev_t5 (t f : Nat) (L : JL) (x : Int32) (st : List Value) (σ : JH) : ez_if 5 t f (L, .int x :: st, σ) = if x ≤ 0 then some (t, L, st, σ) else some (f, L, st, σ) := ev_br t f _
theorem ev_t6 (t f : Nat) (L : JL) (x y : Int32) (st : List Value) (σ : JH) : ez_if 6 t f (L, .int y :: .int x :: st, σ) = if x = y then some (t, L, st, σ) else some (f, L, st, σ) := ev_br t f _
theorem ev_t7 (t f : Nat) (L : JL) (x y : Int32) (st : List Value) (σ : JH) : ez_if 7 t f (L, .int y :: .int x :: st, σ) = if x = y then some (f, L, st, σ) else some (t, L, st, σ) := ev_brn t f _
theorem ev_t8 (t f : Nat) (L : JL) (x y : Int32) (st : List Value) (σ : JH) : ez_if 8 t f (L, .int y :: .int x :: st, σ) = if x < y then some (t, L, st, σ) else some (f, L, st, σ) := ev_br t f _
theorem ev_t9 (t f : Nat) (L : JL) (x y : Int32) (st : List Value) (σ : JH) : ez_if 9 t f (L, .int y :: .int x :: st, σ) = if y ≤ x then some (t, L, st, σ) else some (f, L, st, σ) := ev_br t f _
theorem ev_t10 (t f : Nat) (L : JL) (x y : Int32) (st : List Value) (σ : JH) : ez_if 10 t f (L, .int y :: .int x :: st, σ) = if y < x then some (t, L, st, σ) else some (f, L, st, σ) := ev_br t f _
theorem ev_t11 (t f : Nat) (L : JL) (x y : Int32) (st : List Value) (σ : JH) : ez_if 11 t f (L, .int y :: .int x :: st, σ) = if x ≤ y then some (t, L, st, σ) else some (f, L, st, σ) := ev_br t f _
theorem ev_t12 (t f : Nat) (L : JL) (x y : Nat) (st : List Value) (σ : JH) (hx : x < 22) (hy : y < 22) : ez_if 12 t f (L, .ref y :: .ref x :: st, σ) = if x = y then some (t, L, st, σ) else some (f, L, st, σ) := by
  show (jt_ta (fun b => b) (L, .ref y :: .ref x :: st, σ)).bind (ez_br t f) = _
  unfold jt_ta
  simp only [hx, hy, and_self, if_pos, Option.bind_some]
  exact ev_br t f _
theorem ev_t13 (t f : Nat) (L : JL) (x y : Nat) (st : List Value) (σ : JH) (hx : x < 22) (hy : y < 22) : ez_if 13 t f (L, .ref y :: .ref x :: st, σ) = if x = y then some (f, L, st, σ) else some (t, L, st, σ) := by
  show (jt_ta (fun b => !b) (L, .ref y :: .ref x :: st, σ)).bind (ez_br t f) = _
  unfold jt_ta
  simp only [hx, hy, and_self, if_pos, Option.bind_some]
  exact ev_brn t f _
def ez_sw (lo : Int) (ts : List Nat) (df : Nat) (s : JS) : Option (Nat × JS) := match s.2.1 with
  | .int x :: st => some (if x.toInt < lo ∨ lo + ts.length ≤ x.toInt then df else ts.getD (x.toInt - lo).toNat df, s.1, st, s.2.2)
  | _ => none
theorem ev_sw (F : JN) (lo : Int) (ts : List Nat) (df : Nat) (s : JS) : jb_sw F lo ts df s = (F s).bind (ez_sw lo ts df) := rfl
theorem ev_swk (lo : Int) (ts : List Nat) (df : Nat) (L : JL) (x : Int32) (st : List Value) (σ : JH) : ez_sw lo ts df (L, .int x :: st, σ) = some (if x.toInt < lo ∨ lo + ts.length ≤ x.toInt then df else ts.getD (x.toInt - lo).toNat df, L, st, σ) := rfl
def ez_lk (ps : List (Int × Nat)) (df : Nat) (s : JS) : Option (Nat × JS) := match s.2.1 with
  | .int x :: st => some ((ps.lookup x.toInt).getD df, s.1, st, s.2.2)
  | _ => none
theorem ev_lk (F : JN) (ps : List (Int × Nat)) (df : Nat) (s : JS) : jb_lk F ps df s = (F s).bind (ez_lk ps df) := rfl
theorem ev_lkk (ps : List (Int × Nat)) (df : Nat) (L : JL) (x : Int32) (st : List Value) (σ : JH) : ez_lk ps df (L, .int x :: st, σ) = some ((ps.lookup x.toInt).getD df, L, st, σ) := rfl
def ez_rt (k : Nat) (s' : JS) : Option (Nat × JS) := jb_rt (fun s => some s) k s'
theorem ev_rt (F : JN) (k : Nat) (s : JS) : jb_rt F k s = (F s).bind (ez_rt k) := rfl
theorem ev_rt0 (L : JL) (σ : JH) : ez_rt 0 (L, [], σ) = some (1000000, L, [], σ) := rfl
theorem ev_rt1 (L : JL) (x : Int32) (σ : JH) : ez_rt 1 (L, [.int x], σ) = some (1000000, L, [.int x], σ) := rfl
theorem ev_rt2 (L : JL) (x : Int64) (σ : JH) : ez_rt 2 (L, [.long x], σ) = some (1000000, L, [.long x], σ) := rfl
theorem ev_rt3 (L : JL) (x : Nat) (σ : JH) : ez_rt 3 (L, [.ref x], σ) = some (1000000, L, [.ref x], σ) := rfl
theorem ev_rt4 (L : JL) (x : Int32) (σ : JH) : ez_rt 4 (L, [.int x], σ) = if x = 0 ∨ x = 1 then some (1000000, L, [.int x], σ) else none := rfl
theorem ev_rt5 (L : JL) (x : Int32) (σ : JH) : ez_rt 5 (L, [.int x], σ) = if narrow .byte (.int x) = .int x then some (1000000, L, [.int x], σ) else none := rfl
def ez_of (q : Nat × JS) : Option (Option Value × JH) := if q.1 = 1000000 then some (q.2.2.1.head?, q.2.2.2) else none
theorem ev_ofk (L : JL) (st : List Value) (σ : JH) : ez_of (1000000, L, st, σ) = some (st.head?, σ) := by unfold ez_of; rw [if_pos rfl]
theorem ev_run0 (s : JS) : jx_run [] s = some s := rfl
theorem ev_run (o : JO) (r : List JO) (s : JS) : jx_run (o :: r) s = (jx_op o s).bind (jx_run r) := rfl
theorem ev_jn (F F' : JN) (s : JS) : jn F F' s = (F s).bind F' := rfl
/-! the locals at the begin, by how many arguments -/
def ez_cat (vs : List Value) : Bool := vs.all (fun v => v.category == 1)
theorem ev_en {vs : List Value} (h : ez_cat vs = true) : jl_sl vs = vs.map some := by
  induction vs with
  | nil => rfl
  | cons v r ih =>
    unfold ez_cat at h
    rw [List.all_cons, Bool.and_eq_true] at h
    unfold jl_sl
    rw [List.flatMap_cons, if_neg (by have := eq_of_beq h.1; omega)]
    show some v :: jl_sl r = _
    rw [ih h.2]
    rfl
theorem ev_of {P : JP} {n : Nat} {vs : List Value} {σ : JH} (h : ez_cat vs = true) (hn : vs.length ≤ n) : jf_of P n vs σ = (P (vs.map some ++ List.replicate (n - vs.length) none, [], σ)).bind ez_of := by
  unfold jf_of jl_en
  rw [ev_en h, List.length_map, if_pos hn]
  rfl
/-! steps -/
section EV
variable (b : Nat) (n : Int) (L : JL) (st : List Value) (σ : JH)
theorem ev_ipush : jx_op (0, b, n) (L, st, σ) = some (L, .int (Int32.ofInt n) :: st, σ) := rfl
theorem ev_lpush : jx_op (1, b, n) (L, st, σ) = some (L, .long (Int64.ofInt n) :: st, σ) := rfl
def ez_il (v : Option (Option Value)) (L : JL) (st : List Value) (σ : JH) : Option JS := match v with
  | some (some (.int x)) => some (L, .int x :: st, σ)
  | _ => none
def ez_ll (v : Option (Option Value)) (L : JL) (st : List Value) (σ : JH) : Option JS := match v with
  | some (some (.long x)) => some (L, .long x :: st, σ)
  | _ => none
def ez_al (v : Option (Option Value)) (L : JL) (st : List Value) (σ : JH) : Option JS := match v with
  | some (some (.ref x)) => some (L, .ref x :: st, σ)
  | _ => none
theorem ev_iload (i : Nat) : jx_op (2, i, n) (L, st, σ) = ez_il L[i]? L st σ := rfl
theorem ev_ilk (x : Int32) : ez_il (some (some (.int x))) L st σ = some (L, .int x :: st, σ) := rfl
theorem ev_lload (i : Nat) : jx_op (3, i, n) (L, st, σ) = ez_ll L[i]? L st σ := rfl
theorem ev_llk (x : Int64) : ez_ll (some (some (.long x))) L st σ = some (L, .long x :: st, σ) := rfl
theorem ev_aload (i : Nat) : jx_op (4, i, n) (L, st, σ) = ez_al L[i]? L st σ := rfl
theorem ev_alk (x : Nat) : ez_al (some (some (.ref x))) L st σ = some (L, .ref x :: st, σ) := rfl
theorem ev_istore (i : Nat) (x : Int32) : jx_op (5, i, n) (L, .int x :: st, σ) = if i < L.length then some (jl_set L i (.int x), st, σ) else none := rfl
theorem ev_lstore (i : Nat) (x : Int64) : jx_op (6, i, n) (L, .long x :: st, σ) = if i + 1 < L.length then some (jl_set2 L i (.long x), st, σ) else none := rfl
theorem ev_astore (i : Nat) (x : Nat) : jx_op (7, i, n) (L, .ref x :: st, σ) = if i < L.length then some (jl_set L i (.ref x), st, σ) else none := rfl
def ez_inc (i : Nat) (n : Int) (v : Option (Option Value)) (L : JL) (st : List Value) (σ : JH) : Option JS := match v with
  | some (some (.int x)) => some (jl_set L i (.int (x + Int32.ofInt n)), st, σ)
  | _ => none
theorem ev_iinc (i : Nat) : jx_op (8, i, n) (L, st, σ) = ez_inc i n L[i]? L st σ := rfl
theorem ev_inck (i : Nat) (x : Int32) : ez_inc i n (some (some (.int x))) L st σ = some (jl_set L i (.int (x + Int32.ofInt n)), st, σ) := rfl
theorem ev_iadd (x y : Int32) : jx_op (10, b, n) (L, .int y :: .int x :: st, σ) = some (L, .int (x + y) :: st, σ) := rfl
theorem ev_isub (x y : Int32) : jx_op (11, b, n) (L, .int y :: .int x :: st, σ) = some (L, .int (x - y) :: st, σ) := rfl
theorem ev_imul (x y : Int32) : jx_op (12, b, n) (L, .int y :: .int x :: st, σ) = some (L, .int (x * y) :: st, σ) := rfl
theorem ev_iand (x y : Int32) : jx_op (16, b, n) (L, .int y :: .int x :: st, σ) = some (L, .int (x &&& y) :: st, σ) := rfl
theorem ev_ior (x y : Int32) : jx_op (17, b, n) (L, .int y :: .int x :: st, σ) = some (L, .int (x ||| y) :: st, σ) := rfl
theorem ev_ixor (x y : Int32) : jx_op (18, b, n) (L, .int y :: .int x :: st, σ) = some (L, .int (x ^^^ y) :: st, σ) := rfl
theorem ev_ishl (x y : Int32) : jx_op (19, b, n) (L, .int y :: .int x :: st, σ) = some (L, .int (x <<< (y &&& 31)) :: st, σ) := rfl
theorem ev_ishr (x y : Int32) : jx_op (20, b, n) (L, .int y :: .int x :: st, σ) = some (L, .int (x >>> (y &&& 31)) :: st, σ) := rfl
theorem ev_iushr (x y : Int32) : jx_op (21, b, n) (L, .int y :: .int x :: st, σ) = some (L, .int ((x.toUInt32 >>> (y.toUInt32 &&& Int32.toUInt32 31)).toInt32) :: st, σ) := rfl
theorem ev_idiv (x y : Int32) : jx_op (13, b, n) (L, .int y :: .int x :: st, σ) = if y = 0 then none else some (L, .int (x / y) :: st, σ) := rfl
theorem ev_irem (x y : Int32) : jx_op (14, b, n) (L, .int y :: .int x :: st, σ) = if y = 0 then none else some (L, .int (x - x / y * y) :: st, σ) := rfl
theorem ev_ladd (x y : Int64) : jx_op (22, b, n) (L, .long y :: .long x :: st, σ) = some (L, .long (x + y) :: st, σ) := rfl
theorem ev_lsub (x y : Int64) : jx_op (23, b, n) (L, .long y :: .long x :: st, σ) = some (L, .long (x - y) :: st, σ) := rfl
theorem ev_lmul (x y : Int64) : jx_op (24, b, n) (L, .long y :: .long x :: st, σ) = some (L, .long (x * y) :: st, σ) := rfl
theorem ev_land (x y : Int64) : jx_op (27, b, n) (L, .long y :: .long x :: st, σ) = some (L, .long (x &&& y) :: st, σ) := rfl
theorem ev_lor (x y : Int64) : jx_op (28, b, n) (L, .long y :: .long x :: st, σ) = some (L, .long (x ||| y) :: st, σ) := rfl
theorem ev_lxor (x y : Int64) : jx_op (29, b, n) (L, .long y :: .long x :: st, σ) = some (L, .long (x ^^^ y) :: st, σ) := rfl
theorem ev_ldiv (x y : Int64) : jx_op (25, b, n) (L, .long y :: .long x :: st, σ) = if y = 0 then none else some (L, .long (x / y) :: st, σ) := rfl
theorem ev_lrem (x y : Int64) : jx_op (26, b, n) (L, .long y :: .long x :: st, σ) = if y = 0 then none else some (L, .long (x - x / y * y) :: st, σ) := rfl
theorem ev_lshl (x : Int64) (y : Int32) : jx_op (30, b, n) (L, .int y :: .long x :: st, σ) = some (L, .long (x <<< (y.toInt64 &&& 63)) :: st, σ) := rfl
theorem ev_lshr (x : Int64) (y : Int32) : jx_op (31, b, n) (L, .int y :: .long x :: st, σ) = some (L, .long (x >>> (y.toInt64 &&& 63)) :: st, σ) := rfl
theorem ev_lushr (x : Int64) (y : Int32) : jx_op (32, b, n) (L, .int y :: .long x :: st, σ) = some (L, .long ((x.toUInt64 >>> (y.toInt64.toUInt64 &&& Int64.toUInt64 63)).toInt64) :: st, σ) := rfl
theorem ev_lcmp (x y : Int64) : jx_op (33, b, n) (L, .long y :: .long x :: st, σ) = some (L, .int (lg_cmp x y) :: st, σ) := rfl
theorem ev_i2l (x : Int32) : jx_op (34, b, n) (L, .int x :: st, σ) = some (L, .long x.toInt64 :: st, σ) := rfl
theorem ev_l2i (x : Int64) : jx_op (35, b, n) (L, .long x :: st, σ) = some (L, .int x.toInt32 :: st, σ) := rfl
theorem ev_ineg (x : Int32) : jx_op (15, b, n) (L, .int x :: st, σ) = some (L, .int (-x) :: st, σ) := rfl
theorem ev_i2b (x : Int32) : jx_op (36, b, n) (L, .int x :: st, σ) = some (L, .int x.toInt8.toInt32 :: st, σ) := rfl
theorem ev_i2c (x : Int32) : jx_op (37, b, n) (L, .int x :: st, σ) = some (L, .int (x.toUInt32 % 65536).toInt32 :: st, σ) := rfl
def ez_g (ci : Nat) (t : Option (Nat × Nat)) (v : Value) (L : JL) (st : List Value) (σ : JH) : Option JS := match t with
  | some (t, _) => if t = ci then some (L, v :: st, σ) else none
  | none => none
theorem ev_gk (ci m : Nat) (v : Value) : ez_g ci (some (ci, m)) v L st σ = some (L, v :: st, σ) := by unfold ez_g; simp only [if_pos]
theorem ev_getI (ci a : Nat) : jx_op (40, ci, n) (L, .ref a :: st, σ) = ez_g ci σ.1[a]? (.int (σ.2.1 a n.toNat)) L st σ := rfl
theorem ev_getJ (ci a : Nat) : jx_op (41, ci, n) (L, .ref a :: st, σ) = ez_g ci σ.1[a]? (.long (σ.2.2.1 a n.toNat)) L st σ := rfl
theorem ev_getR (ci a : Nat) : jx_op (42, ci, n) (L, .ref a :: st, σ) = ez_g ci σ.1[a]? (va_rf (σ.2.2.2 a n.toNat)) L st σ := rfl
def ez_p (ci : Nat) (ty : FieldType) (t : Option (Nat × Nat)) (x : Int32) (L : JL) (st : List Value) (σ' : JH) : Option JS := match t with
  | some (t, _) => if t = ci ∧ narrow ty (.int x) = .int x ∧ fits ty (.int x) = true then some (L, st, σ') else none
  | none => none
theorem ev_pk (ci m : Nat) (x : Int32) (σ' : JH) : ez_p ci .int (some (ci, m)) x L st σ' = some (L, st, σ') := by unfold ez_p; simp only [ev_nar, ev_fit, and_self, if_true]
theorem ev_pz1 (ci m : Nat) (σ' : JH) : ez_p ci .boolean (some (ci, m)) (nI 1) L st σ' = some (L, st, σ') := by unfold ez_p; simp only [if_pos, true_and]; rfl
theorem ev_pz0 (ci m : Nat) (σ' : JH) : ez_p ci .boolean (some (ci, m)) (nI 0) L st σ' = some (L, st, σ') := by unfold ez_p; simp only [if_pos, true_and]; rfl
theorem ev_putI (ci a : Nat) (x : Int32) : jx_op (43, ci, n) (L, .int x :: .ref a :: st, σ) = ez_p ci .int σ.1[a]? x L st (jh_setI σ a n.toNat x) := rfl
theorem ev_putZ (ci a : Nat) (x : Int32) : jx_op (46, ci, n) (L, .int x :: .ref a :: st, σ) = ez_p ci .boolean σ.1[a]? x L st (jh_setI σ a n.toNat x) := rfl
theorem ev_putC (ci a : Nat) (x : Int32) : jx_op (47, ci, n) (L, .int x :: .ref a :: st, σ) = ez_p ci .char σ.1[a]? x L st (jh_setI σ a n.toNat x) := rfl
def ez_q (ci : Nat) (t : Option (Nat × Nat)) (L : JL) (st : List Value) (σ' : JH) : Option JS := match t with
  | some (t, _) => if t = ci then some (L, st, σ') else none
  | none => none
theorem ev_qk (ci m : Nat) (σ' : JH) : ez_q ci (some (ci, m)) L st σ' = some (L, st, σ') := by unfold ez_q; simp only [if_pos]
theorem ev_putJ (ci a : Nat) (x : Int64) : jx_op (44, ci, n) (L, .long x :: .ref a :: st, σ) = ez_q ci σ.1[a]? L st (jh_setJ σ a n.toNat x) := rfl
theorem ev_putR (ci a : Nat) (x : Nat) : jx_op (45, ci, n) (L, .ref x :: .ref a :: st, σ) = ez_q ci σ.1[a]? L st (jh_setR σ a n.toNat (some x)) := rfl
theorem ev_putF (ci a : Nat) (x : Nat) : jx_op (48, ci, n) (L, .ref x :: .ref a :: st, σ) = ez_q ci σ.1[a]? L st (jh_setR σ a n.toNat (some x)) := rfl
/-- a place of a row: it must lie in it -/
def ez_r (ks : List Nat) (t : Option (Nat × Nat)) (i : Int32) (r : JS) : Option JS := match t with
  | some (t, m) => if t ∈ ks ∧ ¬ (i < 0 ∨ m ≤ i.toNatClampNeg) then some r else none
  | none => none
theorem ev_rk {m i t : Nat} (ks : List Nat) (hi : i < m) (hm : m < 2 ^ 31) (ht : t ∈ ks) (r : JS) : ez_r ks (some (t, m)) (nI i) r = some r := by
  unfold ez_r
  simp only
  rw [if_pos ⟨ht, nI_in hi hm⟩]
theorem ev_ldI (a : Nat) (i : Int32) : jx_op (50, b, n) (L, .int i :: .ref a :: st, σ) = ez_r [100, 200] σ.1[a]? i (L, .int (σ.2.1 a i.toNatClampNeg) :: st, σ) := rfl
theorem ev_ldB (a : Nat) (i : Int32) : jx_op (52, b, n) (L, .int i :: .ref a :: st, σ) = ez_r [102, 103, 202] σ.1[a]? i (L, .int (σ.2.1 a i.toNatClampNeg) :: st, σ) := rfl
theorem ev_ldJ (a : Nat) (i : Int32) : jx_op (51, b, n) (L, .int i :: .ref a :: st, σ) = ez_r [101] σ.1[a]? i (L, .long (σ.2.2.1 a i.toNatClampNeg) :: st, σ) := by
  show jo_ldJ (L, .int i :: .ref a :: st, σ) = _
  unfold jo_ldJ ez_r
  simp only [List.mem_singleton]
  rfl
theorem ev_stI (a : Nat) (i x : Int32) : jx_op (55, b, n) (L, .int x :: .int i :: .ref a :: st, σ) = ez_r [100] σ.1[a]? i (L, st, jh_setI σ a i.toNatClampNeg x) := by
  show jo_stI (L, .int x :: .int i :: .ref a :: st, σ) = _
  unfold jo_stI ez_r
  simp only [List.mem_singleton]
  rfl
theorem ev_stJ (a : Nat) (i : Int32) (x : Int64) : jx_op (56, b, n) (L, .long x :: .int i :: .ref a :: st, σ) = ez_r [101] σ.1[a]? i (L, st, jh_setJ σ a i.toNatClampNeg x) := by
  show jo_stJ (L, .long x :: .int i :: .ref a :: st, σ) = _
  unfold jo_stJ ez_r
  simp only [List.mem_singleton]
  rfl
theorem ev_stat (r : Nat) : jx_op (64, r, n) (L, st, σ) = some (L, .ref r :: st, σ) := rfl
theorem ev_dup (v : Value) (h : v.category = 1) : jx_op (70, b, n) (L, v :: st, σ) = some (L, v :: v :: st, σ) := by
  show jo_dup (L, v :: st, σ) = _
  unfold jo_dup
  simp only [h, if_pos]
theorem ev_dupi (x : Int32) : jx_op (70, b, n) (L, .int x :: st, σ) = some (L, .int x :: .int x :: st, σ) := rfl
theorem ev_dupr (x : Nat) : jx_op (70, b, n) (L, .ref x :: st, σ) = some (L, .ref x :: .ref x :: st, σ) := rfl
theorem ev_popi (x : Int32) : jx_op (71, b, n) (L, .int x :: st, σ) = some (L, st, σ) := rfl
theorem ev_popr (x : Nat) : jx_op (71, b, n) (L, .ref x :: st, σ) = some (L, st, σ) := rfl
theorem ev_dup2 (x : Int32) (a : Nat) : jx_op (72, b, n) (L, .int x :: .ref a :: st, σ) = some (L, .int x :: .ref a :: .int x :: .ref a :: st, σ) := rfl
/-! calls -/
def ez_ret (L : JL) (st : List Value) (q : Option Value × JH) : Option JS := some (L, q.1.toList ++ st, q.2)
theorem ev_ret (v : Option Value) (σ' : JH) : ez_ret L st (v, σ') = some (L, v.toList ++ st, σ') := rfl
def ez_c (ci : Nat) (t : Option (Nat × Nat)) (r : Option (Option Value × JH)) (L : JL) (st : List Value) : Option JS := match t with
  | some (t, _) => if t = ci ∧ (st.map (fun v => v.category)).sum ≤ 8 then r.bind (ez_ret L st) else none
  | none => none
theorem ev_ck {ci m : Nat} (r : Option (Option Value × JH)) : ez_c ci (some (ci, m)) r L st = if (st.map (fun v => v.category)).sum ≤ 8 then r.bind (ez_ret L st) else none := by
  unfold ez_c
  simp only [true_and]
def ez_s (r : Option (Option Value × JH)) (L : JL) (st : List Value) : Option JS := if (st.map (fun v => v.category)).sum ≤ 8 then r.bind (ez_ret L st) else none
theorem ev_sk (r : Option (Option Value × JH)) : ez_s r L st = if (st.map (fun v => v.category)).sum ≤ 8 then r.bind (ez_ret L st) else none := rfl
theorem ev_cv1 (ci a : Nat) (f : JF) : jx_cv 1 ci f (L, .ref a :: st, σ) = ez_c ci σ.1[a]? (f [.ref a] σ) L st := by
  unfold jx_cv ez_c
  simp only [List.take_succ_cons, List.take_zero, List.drop_succ_cons, List.drop_zero, List.reverse_cons, List.reverse_nil, List.nil_append, List.cons_append, List.length_cons, List.length_nil, and_true, Nat.reduceAdd]
  rfl
theorem ev_ci1 (a : Nat) (f : JF) : jx_ci 1 f (L, .ref a :: st, σ) = ez_s (f [.ref a] σ) L st := by
  unfold jx_ci ez_s
  simp only [List.take_succ_cons, List.take_zero, List.drop_succ_cons, List.drop_zero, List.reverse_cons, List.reverse_nil, List.nil_append, List.cons_append, List.length_cons, List.length_nil, and_true, Nat.reduceAdd]
  rfl
theorem ev_cv2 (ci a : Nat) (v1 : Value) (f : JF) : jx_cv 2 ci f (L, v1 :: .ref a :: st, σ) = ez_c ci σ.1[a]? (f [.ref a, v1] σ) L st := by
  unfold jx_cv ez_c
  simp only [List.take_succ_cons, List.take_zero, List.drop_succ_cons, List.drop_zero, List.reverse_cons, List.reverse_nil, List.nil_append, List.cons_append, List.length_cons, List.length_nil, and_true, Nat.reduceAdd]
  rfl
theorem ev_ci2 (a : Nat) (v1 : Value) (f : JF) : jx_ci 2 f (L, v1 :: .ref a :: st, σ) = ez_s (f [.ref a, v1] σ) L st := by
  unfold jx_ci ez_s
  simp only [List.take_succ_cons, List.take_zero, List.drop_succ_cons, List.drop_zero, List.reverse_cons, List.reverse_nil, List.nil_append, List.cons_append, List.length_cons, List.length_nil, and_true, Nat.reduceAdd]
  rfl
theorem ev_cv3 (ci a : Nat) (v1 v2 : Value) (f : JF) : jx_cv 3 ci f (L, v2 :: v1 :: .ref a :: st, σ) = ez_c ci σ.1[a]? (f [.ref a, v1, v2] σ) L st := by
  unfold jx_cv ez_c
  simp only [List.take_succ_cons, List.take_zero, List.drop_succ_cons, List.drop_zero, List.reverse_cons, List.reverse_nil, List.nil_append, List.cons_append, List.length_cons, List.length_nil, and_true, Nat.reduceAdd]
  rfl
theorem ev_ci3 (a : Nat) (v1 v2 : Value) (f : JF) : jx_ci 3 f (L, v2 :: v1 :: .ref a :: st, σ) = ez_s (f [.ref a, v1, v2] σ) L st := by
  unfold jx_ci ez_s
  simp only [List.take_succ_cons, List.take_zero, List.drop_succ_cons, List.drop_zero, List.reverse_cons, List.reverse_nil, List.nil_append, List.cons_append, List.length_cons, List.length_nil, and_true, Nat.reduceAdd]
  rfl
theorem ev_cv4 (ci a : Nat) (v1 v2 v3 : Value) (f : JF) : jx_cv 4 ci f (L, v3 :: v2 :: v1 :: .ref a :: st, σ) = ez_c ci σ.1[a]? (f [.ref a, v1, v2, v3] σ) L st := by
  unfold jx_cv ez_c
  simp only [List.take_succ_cons, List.take_zero, List.drop_succ_cons, List.drop_zero, List.reverse_cons, List.reverse_nil, List.nil_append, List.cons_append, List.length_cons, List.length_nil, and_true, Nat.reduceAdd]
  rfl
theorem ev_ci4 (a : Nat) (v1 v2 v3 : Value) (f : JF) : jx_ci 4 f (L, v3 :: v2 :: v1 :: .ref a :: st, σ) = ez_s (f [.ref a, v1, v2, v3] σ) L st := by
  unfold jx_ci ez_s
  simp only [List.take_succ_cons, List.take_zero, List.drop_succ_cons, List.drop_zero, List.reverse_cons, List.reverse_nil, List.nil_append, List.cons_append, List.length_cons, List.length_nil, and_true, Nat.reduceAdd]
  rfl
theorem ev_cv5 (ci a : Nat) (v1 v2 v3 v4 : Value) (f : JF) : jx_cv 5 ci f (L, v4 :: v3 :: v2 :: v1 :: .ref a :: st, σ) = ez_c ci σ.1[a]? (f [.ref a, v1, v2, v3, v4] σ) L st := by
  unfold jx_cv ez_c
  simp only [List.take_succ_cons, List.take_zero, List.drop_succ_cons, List.drop_zero, List.reverse_cons, List.reverse_nil, List.nil_append, List.cons_append, List.length_cons, List.length_nil, and_true, Nat.reduceAdd]
  rfl
theorem ev_ci5 (a : Nat) (v1 v2 v3 v4 : Value) (f : JF) : jx_ci 5 f (L, v4 :: v3 :: v2 :: v1 :: .ref a :: st, σ) = ez_s (f [.ref a, v1, v2, v3, v4] σ) L st := by
  unfold jx_ci ez_s
  simp only [List.take_succ_cons, List.take_zero, List.drop_succ_cons, List.drop_zero, List.reverse_cons, List.reverse_nil, List.nil_append, List.cons_append, List.length_cons, List.length_nil, and_true, Nat.reduceAdd]
  rfl
theorem ev_cs1 (v1 : Value) (f : JF) : jx_cs 1 f (L, v1 :: st, σ) = ez_s (f [v1] σ) L st := by
  unfold jx_cs ez_s
  simp only [List.take_succ_cons, List.take_zero, List.drop_succ_cons, List.drop_zero, List.reverse_cons, List.reverse_nil, List.nil_append, List.cons_append, List.length_cons, List.length_nil, and_true, Nat.reduceAdd]
  rfl
theorem ev_cs2 (v1 v2 : Value) (f : JF) : jx_cs 2 f (L, v2 :: v1 :: st, σ) = ez_s (f [v1, v2] σ) L st := by
  unfold jx_cs ez_s
  simp only [List.take_succ_cons, List.take_zero, List.drop_succ_cons, List.drop_zero, List.reverse_cons, List.reverse_nil, List.nil_append, List.cons_append, List.length_cons, List.length_nil, and_true, Nat.reduceAdd]
  rfl
theorem ev_cs3 (v1 v2 v3 : Value) (f : JF) : jx_cs 3 f (L, v3 :: v2 :: v1 :: st, σ) = ez_s (f [v1, v2, v3] σ) L st := by
  unfold jx_cs ez_s
  simp only [List.take_succ_cons, List.take_zero, List.drop_succ_cons, List.drop_zero, List.reverse_cons, List.reverse_nil, List.nil_append, List.cons_append, List.length_cons, List.length_nil, and_true, Nat.reduceAdd]
  rfl
theorem ev_cs4 (v1 v2 v3 v4 : Value) (f : JF) : jx_cs 4 f (L, v4 :: v3 :: v2 :: v1 :: st, σ) = ez_s (f [v1, v2, v3, v4] σ) L st := by
  unfold jx_cs ez_s
  simp only [List.take_succ_cons, List.take_zero, List.drop_succ_cons, List.drop_zero, List.reverse_cons, List.reverse_nil, List.nil_append, List.cons_append, List.length_cons, List.length_nil, and_true, Nat.reduceAdd]
  rfl
end EV
/-- a loop that counts: n turns, then out -/
theorem lp_count {h t n : Nat} {P : JP} (S : Nat → JS) {S' : JS} (ht : ¬ t = h) (step : ∀ i, i < n → P (S i) = some (h, S (i + 1))) (last : P (S n) = some (t, S')) : jb_lp h P (S 0) = some (t, S') := by
  have key : ∀ k, k ≤ n → jb_it h P (k + 1) (S (n - k)) = some (t, S') := by
    intro k
    induction k with
    | zero =>
      intro _
      unfold jb_it
      rw [Nat.sub_zero, last, Option.bind_some, if_neg ht]
    | succ k ih =>
      intro hk
      unfold jb_it
      rw [step (n - (k + 1)) (by omega), Option.bind_some, if_pos rfl, show n - (k + 1) + 1 = n - k by omega]
      exact ih (by omega)
  have h9 := key n (Nat.le_refl _)
  rw [Nat.sub_self] at h9
  exact jb_lp_of h9
def jB (c : Prop) [Decidable c] : Value := .int (if c then nI 1 else nI 0)
def sp_cnt (f : Nat → Prop) [DecidablePred f] : Nat → Nat
  | 0 => 0
  | n + 1 => sp_cnt f n + if f n then 1 else 0
theorem sp_cnt_le (f : Nat → Prop) [DecidablePred f] (n : Nat) : sp_cnt f n ≤ n := by
  induction n with
  | zero => exact Nat.le_refl _
  | succ n ih => unfold sp_cnt; split <;> omega

/-! ===== what a piece does, said from its end: it comes out, and there K holds ===== -/
def WN (F : JN) (s : JS) (K : JS → Prop) : Prop := ∃ s', F s = some s' ∧ K s'
def WP (P : JP) (s : JS) (K : Nat → JS → Prop) : Prop := ∃ t s', P s = some (t, s') ∧ K t s'
def WM (f : JF) (vs : List Value) (σ : JH) (K : Option Value → JH → Prop) : Prop := ∃ v σ', f vs σ = some (v, σ') ∧ K v σ'
def kI (F : Int32 → JH → Prop) (v : Option Value) (σ : JH) : Prop := ∃ x, v = some (.int x) ∧ F x σ
def kJ (F : Int64 → JH → Prop) (v : Option Value) (σ : JH) : Prop := ∃ x, v = some (.long x) ∧ F x σ
def kV (F : JH → Prop) (v : Option Value) (σ : JH) : Prop := v = none ∧ F σ
def WE (f : JF) (vs : List Value) (σ : JH) (F : Int32 → Prop) : Prop := ∃ x, f vs σ = some (some (.int x), σ) ∧ F x
def WJ (f : JF) (vs : List Value) (σ : JH) (F : Int64 → Prop) : Prop := ∃ x, f vs σ = some (some (.long x), σ) ∧ F x
def WA (f : JF) (vs : List Value) (σ : JH) (F : Nat → Prop) : Prop := ∃ x, f vs σ = some (some (.ref x), σ) ∧ x < 22 ∧ F x
def mI (n : Nat) : Int32 := Int32.ofInt (-(n : Int))
abbrev cl (i : Int32) : Nat := i.toNatClampNeg
def inb (i : Int32) (m : Nat) : Prop := ¬ (i < 0 ∨ m ≤ i.toNatClampNeg)
/-- a new heap gets a name -/
def lt (x : JH) (F : JH → Prop) : Prop := F x
def kk (h : Nat) (P : JP) (K : Nat → JS → Prop) (t : Nat) (s : JS) : Prop := if t = h then WP P s K else K t s
theorem kk_hit {h : Nat} {P : JP} {K : Nat → JS → Prop} {s : JS} (H : WP P s K) : kk h P K h s := by unfold kk; rw [if_pos rfl]; exact H
theorem kk_mis {h t : Nat} {P : JP} {K : Nat → JS → Prop} {s : JS} (ht : Nat.beq t h = false) (H : K t s) : kk h P K t s := by unfold kk; rw [if_neg (Nat.ne_of_beq_eq_false ht)]; exact H
theorem wp_sq {h : Nat} {P P' : JP} {K : Nat → JS → Prop} {s : JS} (H : WP P s (kk h P' K)) : WP (jb_sq P h P') s K := by
  obtain ⟨t, s', h1, h2⟩ := H
  unfold kk at h2
  split at h2
  · rename_i ht
    obtain ⟨t2, s2, h3, h4⟩ := h2
    exact ⟨t2, s2, by unfold jb_sq; rw [h1, Option.bind_some]; simp only [ht, if_true]; exact h3, h4⟩
  · rename_i ht
    exact ⟨t, s', by unfold jb_sq; rw [h1, Option.bind_some]; simp only [ht, if_false], h2⟩
theorem wp_un {h : Nat} {P : JP} {K : Nat → JS → Prop} {s : JS} (H : WP P s (kk h (jb_lp h P) K)) : WP (jb_lp h P) s K := by
  obtain ⟨t, s', h1, h2⟩ := wp_sq H
  exact ⟨t, s', by rw [jb_lp_eq]; exact h1, h2⟩
theorem wp_go {F : JN} {t : Nat} {s : JS} {K : Nat → JS → Prop} (H : WN F s (fun s' => K t s')) : WP (jb_go F t) s K := by
  obtain ⟨s', h1, h2⟩ := H
  exact ⟨t, s', by unfold jb_go; rw [h1]; rfl, h2⟩
def ti (c t f : Nat) (K : Nat → JS → Prop) (s : JS) : Prop := ∃ q, jt_tst c s = some q ∧ K (if q.1 = true then t else f) q.2
theorem wp_if {F : JN} {c t f : Nat} {s : JS} {K : Nat → JS → Prop} (H : WN F s (fun s' => ti c t f K s')) : WP (jb_if F c t f) s K := by
  obtain ⟨s', h1, q, h2, h3⟩ := H
  exact ⟨_, _, by unfold jb_if; rw [h1, Option.bind_some, h2, Option.bind_some], h3⟩
theorem wp_rt {F : JN} {k : Nat} {s : JS} {K : Nat → JS → Prop} (H : WN F s (fun s' => jb_rt (fun s => some s) k s' = some (1000000, s') ∧ K 1000000 s')) : WP (jb_rt F k) s K := by
  obtain ⟨s', h1, h2, h3⟩ := H
  exact ⟨1000000, s', by unfold jb_rt at h2 ⊢; rw [h1]; exact h2, h3⟩
theorem rt_b {L : JL} {x : Int32} {σ : JH} (h : x = 0 ∨ x = 1) : jb_rt (fun s => some s) 4 (L, [.int x], σ) = some (1000000, L, [.int x], σ) := if_pos h
theorem rt_y {L : JL} {x : Int32} {σ : JH} (h : narrow .byte (.int x) = .int x) : jb_rt (fun s => some s) 5 (L, [.int x], σ) = some (1000000, L, [.int x], σ) := if_pos h
theorem wn_jn {F F' : JN} {s : JS} {K : JS → Prop} (H : WN F s (fun s' => WN F' s' K)) : WN (jn F F') s K := by
  obtain ⟨s', h1, s2, h2, h3⟩ := H
  exact ⟨s2, by unfold jn; rw [h1, Option.bind_some, h2], h3⟩
theorem wn_nil {s : JS} {K : JS → Prop} (H : K s) : WN (jx_run []) s K := ⟨s, rfl, H⟩
theorem wn_op {op : JO} {os : List JO} {s s' : JS} {K : JS → Prop} (h : jx_op op s = some s') (H : WN (jx_run os) s' K) : WN (jx_run (op :: os)) s K := by
  obtain ⟨s2, h1, h2⟩ := H
  exact ⟨s2, by unfold jx_run; rw [h, Option.bind_some, h1], h2⟩
def eI (F : Int32 → JH → Prop) (t : Nat) (s : JS) : Prop := t = 1000000 ∧ ∃ x, s.2.1 = [.int x] ∧ F x s.2.2
def eJ (F : Int64 → JH → Prop) (t : Nat) (s : JS) : Prop := t = 1000000 ∧ ∃ x, s.2.1 = [.long x] ∧ F x s.2.2
def eA (F : Nat → JH → Prop) (t : Nat) (s : JS) : Prop := t = 1000000 ∧ ∃ x, s.2.1 = [.ref x] ∧ F x s.2.2
def eV (F : JH → Prop) (t : Nat) (s : JS) : Prop := t = 1000000 ∧ s.2.1 = [] ∧ F s.2.2
theorem e_I {F : Int32 → JH → Prop} {L : JL} {x : Int32} {σ : JH} (h : F x σ) : eI F 1000000 (L, [.int x], σ) := ⟨rfl, x, rfl, h⟩
theorem e_J {F : Int64 → JH → Prop} {L : JL} {x : Int64} {σ : JH} (h : F x σ) : eJ F 1000000 (L, [.long x], σ) := ⟨rfl, x, rfl, h⟩
theorem e_A {F : Nat → JH → Prop} {L : JL} {x : Nat} {σ : JH} (h : F x σ) : eA F 1000000 (L, [.ref x], σ) := ⟨rfl, x, rfl, h⟩
theorem e_V {F : JH → Prop} {L : JL} {σ : JH} (h : F σ) : eV F 1000000 (L, [], σ) := ⟨rfl, rfl, h⟩
theorem wm_of {P : JP} {n : Nat} {vs : List Value} {σ : JH} {L : JL} (hn : (jl_sl vs).length ≤ n) (hL : jl_en vs n = L) {s : JS} (h : P (L, [], σ) = some (1000000, s)) : jf_of P n vs σ = some (s.2.1.head?, s.2.2) := by
  unfold jf_of
  rw [if_pos hn, hL, h, Option.bind_some]
  rfl
theorem wm_I {P : JP} {n : Nat} {vs : List Value} {σ : JH} (L : JL) {F : Int32 → JH → Prop} (hn : (jl_sl vs).length ≤ n) (hL : jl_en vs n = L) (h : WP P (L, [], σ) (eI F)) : WM (jf_of P n) vs σ (kI F) := by
  obtain ⟨t, s, h1, rfl, x, h2, h3⟩ := h
  exact ⟨_, _, wm_of hn hL h1, x, by rw [h2]; rfl, h3⟩
theorem wm_J {P : JP} {n : Nat} {vs : List Value} {σ : JH} (L : JL) {F : Int64 → JH → Prop} (hn : (jl_sl vs).length ≤ n) (hL : jl_en vs n = L) (h : WP P (L, [], σ) (eJ F)) : WM (jf_of P n) vs σ (kJ F) := by
  obtain ⟨t, s, h1, rfl, x, h2, h3⟩ := h
  exact ⟨_, _, wm_of hn hL h1, x, by rw [h2]; rfl, h3⟩
theorem wm_V {P : JP} {n : Nat} {vs : List Value} {σ : JH} (L : JL) {F : JH → Prop} (hn : (jl_sl vs).length ≤ n) (hL : jl_en vs n = L) (h : WP P (L, [], σ) (eV F)) : WM (jf_of P n) vs σ (kV F) := by
  obtain ⟨t, s, h1, rfl, h2, h3⟩ := h
  exact ⟨_, _, wm_of hn hL h1, by rw [h2]; rfl, h3⟩
theorem wm_E {P : JP} {n : Nat} {vs : List Value} {σ : JH} (L : JL) {F : Int32 → Prop} (hn : (jl_sl vs).length ≤ n) (hL : jl_en vs n = L) (h : WP P (L, [], σ) (eI (fun x σ' => σ' = σ ∧ F x))) : WE (jf_of P n) vs σ F := by
  obtain ⟨t, s, h1, rfl, x, h2, h3, h4⟩ := h
  exact ⟨x, by rw [wm_of hn hL h1, h2, h3]; rfl, h4⟩
theorem wm_EJ {P : JP} {n : Nat} {vs : List Value} {σ : JH} (L : JL) {F : Int64 → Prop} (hn : (jl_sl vs).length ≤ n) (hL : jl_en vs n = L) (h : WP P (L, [], σ) (eJ (fun x σ' => σ' = σ ∧ F x))) : WJ (jf_of P n) vs σ F := by
  obtain ⟨t, s, h1, rfl, x, h2, h3, h4⟩ := h
  exact ⟨x, by rw [wm_of hn hL h1, h2, h3]; rfl, h4⟩
theorem wm_EA {P : JP} {n : Nat} {vs : List Value} {σ : JH} (L : JL) {F : Nat → Prop} (hn : (jl_sl vs).length ≤ n) (hL : jl_en vs n = L) (h : WP P (L, [], σ) (eA (fun x σ' => σ' = σ ∧ x < 22 ∧ F x))) : WA (jf_of P n) vs σ F := by
  obtain ⟨t, s, h1, rfl, x, h2, h3, h4⟩ := h
  exact ⟨x, by rw [wm_of hn hL h1, h2, h3]; rfl, h4⟩
/-! switches -/
def swt (x : Int32) : Int → List Nat → Nat → Nat
  | _, [], df => df
  | lo, t :: ts, df => if x = Int32.ofInt lo then t else swt x (lo + 1) ts df
theorem swt_eq (x : Int32) (df : Nat) (ts : List Nat) : ∀ lo : Int, -2147483648 ≤ lo → lo + ts.length ≤ 2147483648 → swt x lo ts df = if x.toInt < lo ∨ lo + ts.length ≤ x.toInt then df else ts.getD (x.toInt - lo).toNat df := by
  induction ts with
  | nil => intro lo _ _; unfold swt; split <;> rfl
  | cons t ts ih =>
    intro lo h1 h2
    rw [List.length_cons] at h2
    have e : x = Int32.ofInt lo ↔ x.toInt = lo := by
      rw [← Int32.toInt_inj, Int32.toInt_ofInt_of_le (by omega) (by omega)]
    unfold swt
    by_cases hx : x.toInt = lo
    · rw [if_pos (e.mpr hx), hx, if_neg (by rw [List.length_cons]; omega), Int.sub_self]; rfl
    · rw [if_neg (fun q => hx (e.mp q)), ih (lo + 1) (by omega) (by omega), List.length_cons]
      by_cases hy : x.toInt < lo + 1 ∨ lo + 1 + ts.length ≤ x.toInt
      · rw [if_pos hy, if_pos (by omega)]
      · rw [if_neg hy, if_neg (by omega), show (x.toInt - lo).toNat = (x.toInt - (lo + 1)).toNat + 1 by omega]; rfl
def lkt (x : Int32) : List (Int × Nat) → Nat → Nat
  | [], df => df
  | q :: ps, df => if x = Int32.ofInt q.1 then q.2 else lkt x ps df
theorem lkt_eq (x : Int32) (df : Nat) (ps : List (Int × Nat)) (h : ∀ q ∈ ps, -2147483648 ≤ q.1 ∧ q.1 < 2147483648) : lkt x ps df = (ps.lookup x.toInt).getD df := by
  induction ps with
  | nil => rfl
  | cons q ps ih =>
    obtain ⟨n, t⟩ := q
    have h1 := h (n, t) (List.mem_cons_self ..)
    have e : x = Int32.ofInt n ↔ x.toInt = n := by
      rw [← Int32.toInt_inj, Int32.toInt_ofInt_of_le (by omega) (by omega)]
    unfold lkt
    rw [List.lookup_cons]
    by_cases hx : x.toInt = n
    · rw [if_pos (e.mpr hx), hx]; simp
    · rw [if_neg (fun q => hx (e.mp q)), ih (fun q hq => h q (List.mem_cons_of_mem _ hq))]
      have : (x.toInt == n) = false := by simpa using hx
      rw [this]
def ks (t : Nat) (s : JS) (K : Nat → JS → Prop) : Prop := K t s
theorem ks_c {x : Int32} {lo : Int} {t df : Nat} {ts : List Nat} {s : JS} {K : Nat → JS → Prop} {c : Int32} {A B : Prop} (hc : Int32.ofInt lo = c) (H : if x = c then A else B) (a : A → K t s) (b : B → ks (swt x (lo + 1) ts df) s K) : ks (swt x lo (t :: ts) df) s K := by
  subst hc
  unfold swt ks
  split at H
  · rename_i h; rw [if_pos h]; exact a H
  · rename_i h; rw [if_neg h]; exact b H
theorem ks_n {x : Int32} {lo : Int} {df : Nat} {s : JS} {K : Nat → JS → Prop} (H : K df s) : ks (swt x lo [] df) s K := H
theorem kl_c {x : Int32} {n : Int} {t df : Nat} {ps : List (Int × Nat)} {s : JS} {K : Nat → JS → Prop} {c : Int32} {A B : Prop} (hc : Int32.ofInt n = c) (H : if x = c then A else B) (a : A → K t s) (b : B → ks (lkt x ps df) s K) : ks (lkt x ((n, t) :: ps) df) s K := by
  subst hc
  unfold lkt ks
  split at H
  · rename_i h; rw [if_pos h]; exact a H
  · rename_i h; rw [if_neg h]; exact b H
theorem kl_n {x : Int32} {df : Nat} {s : JS} {K : Nat → JS → Prop} (H : K df s) : ks (lkt x [] df) s K := H
def tsw (lo : Int) (ts : List Nat) (df : Nat) (K : Nat → JS → Prop) (s : JS) : Prop := ∃ x st, s.2.1 = .int x :: st ∧ ks (swt x lo ts df) (s.1, st, s.2.2) K
theorem wp_sw {F : JN} {lo : Int} {ts : List Nat} {df : Nat} {s : JS} {K : Nat → JS → Prop} (hb : -2147483648 ≤ lo ∧ lo + ts.length ≤ 2147483648) (H : WN F s (fun s' => tsw lo ts df K s')) : WP (jb_sw F lo ts df) s K := by
  obtain ⟨s', h1, x, st, h2, h3⟩ := H
  unfold ks at h3
  rw [swt_eq x df ts lo hb.1 hb.2] at h3
  exact ⟨_, _, by unfold jb_sw; rw [h1, Option.bind_some]; simp only [h2], h3⟩
theorem t_sw {L : JL} {x : Int32} {st : List Value} {σ : JH} {lo : Int} {ts : List Nat} {df : Nat} {K : Nat → JS → Prop} (h : ks (swt x lo ts df) (L, st, σ) K) : tsw lo ts df K (L, .int x :: st, σ) := ⟨x, st, rfl, h⟩
def tlk (ps : List (Int × Nat)) (df : Nat) (K : Nat → JS → Prop) (s : JS) : Prop := ∃ x st, s.2.1 = .int x :: st ∧ ks (lkt x ps df) (s.1, st, s.2.2) K
theorem wp_lk {F : JN} {ps : List (Int × Nat)} {df : Nat} {s : JS} {K : Nat → JS → Prop} (hb : ∀ q ∈ ps, -2147483648 ≤ q.1 ∧ q.1 < 2147483648) (H : WN F s (fun s' => tlk ps df K s')) : WP (jb_lk F ps df) s K := by
  obtain ⟨s', h1, x, st, h2, h3⟩ := H
  unfold ks at h3
  rw [lkt_eq x df ps hb] at h3
  exact ⟨_, _, by unfold jb_lk; rw [h1, Option.bind_some]; simp only [h2], h3⟩
theorem t_lk {L : JL} {x : Int32} {st : List Value} {σ : JH} {ps : List (Int × Nat)} {df : Nat} {K : Nat → JS → Prop} (h : ks (lkt x ps df) (L, st, σ) K) : tlk ps df K (L, .int x :: st, σ) := ⟨x, st, rfl, h⟩
/-! tests -/
section TI
variable {t f : Nat} {L : JL} {x y : Int32} {st : List Value} {σ : JH} {K : Nat → JS → Prop} {A B : Prop} {u v : Nat}
theorem ti_0 (H : if x = 0 then A else B) (a : A → K t (L, st, σ)) (b : B → K f (L, st, σ)) : ti 0 t f K (L, .int x :: st, σ) := by
  refine ⟨_, rfl, ?_⟩
  split at H
  · rename_i h; simpa [h] using a H
  · rename_i h; simpa [h] using b H
theorem tp_0 (h : x = 0) (H : K t (L, st, σ)) : ti 0 t f K (L, .int x :: st, σ) := by
  refine ⟨_, rfl, ?_⟩
  simpa [h] using H
theorem tn_0 (h : ¬ (x = 0)) (H : K f (L, st, σ)) : ti 0 t f K (L, .int x :: st, σ) := by
  refine ⟨_, rfl, ?_⟩
  simpa [h] using H
theorem ti_1 (H : if x = 0 then A else B) (a : A → K f (L, st, σ)) (b : B → K t (L, st, σ)) : ti 1 t f K (L, .int x :: st, σ) := by
  refine ⟨_, rfl, ?_⟩
  split at H
  · rename_i h; simpa [h] using a H
  · rename_i h; simpa [h] using b H
theorem tp_1 (h : x = 0) (H : K f (L, st, σ)) : ti 1 t f K (L, .int x :: st, σ) := by
  refine ⟨_, rfl, ?_⟩
  simpa [h] using H
theorem tn_1 (h : ¬ (x = 0)) (H : K t (L, st, σ)) : ti 1 t f K (L, .int x :: st, σ) := by
  refine ⟨_, rfl, ?_⟩
  simpa [h] using H
theorem ti_2 (H : if x < 0 then A else B) (a : A → K t (L, st, σ)) (b : B → K f (L, st, σ)) : ti 2 t f K (L, .int x :: st, σ) := by
  refine ⟨_, rfl, ?_⟩
  split at H
  · rename_i h; simpa [h] using a H
  · rename_i h; simpa [h] using b H
theorem tp_2 (h : x < 0) (H : K t (L, st, σ)) : ti 2 t f K (L, .int x :: st, σ) := by
  refine ⟨_, rfl, ?_⟩
  simpa [h] using H
theorem tn_2 (h : ¬ (x < 0)) (H : K f (L, st, σ)) : ti 2 t f K (L, .int x :: st, σ) := by
  refine ⟨_, rfl, ?_⟩
  simpa [h] using H
theorem ti_3 (H : if 0 ≤ x then A else B) (a : A → K t (L, st, σ)) (b : B → K f (L, st, σ)) : ti 3 t f K (L, .int x :: st, σ) := by
  refine ⟨_, rfl, ?_⟩
  split at H
  · rename_i h; simpa [h] using a H
  · rename_i h; simpa [h] using b H
theorem tp_3 (h : 0 ≤ x) (H : K t (L, st, σ)) : ti 3 t f K (L, .int x :: st, σ) := by
  refine ⟨_, rfl, ?_⟩
  simpa [h] using H
theorem tn_3 (h : ¬ (0 ≤ x)) (H : K f (L, st, σ)) : ti 3 t f K (L, .int x :: st, σ) := by
  refine ⟨_, rfl, ?_⟩
  simpa [h] using H
theorem ti_4 (H : if 0 < x then A else B) (a : A → K t (L, st, σ)) (b : B → K f (L, st, σ)) : ti 4 t f K (L, .int x :: st, σ) := by
  refine ⟨_, rfl, ?_⟩
  split at H
  · rename_i h; simpa [h] using a H
  · rename_i h; simpa [h] using b H
theorem tp_4 (h : 0 < x) (H : K t (L, st, σ)) : ti 4 t f K (L, .int x :: st, σ) := by
  refine ⟨_, rfl, ?_⟩
  simpa [h] using H
theorem tn_4 (h : ¬ (0 < x)) (H : K f (L, st, σ)) : ti 4 t f K (L, .int x :: st, σ) := by
  refine ⟨_, rfl, ?_⟩
  simpa [h] using H
theorem ti_5 (H : if x ≤ 0 then A else B) (a : A → K t (L, st, σ)) (b : B → K f (L, st, σ)) : ti 5 t f K (L, .int x :: st, σ) := by
  refine ⟨_, rfl, ?_⟩
  split at H
  · rename_i h; simpa [h] using a H
  · rename_i h; simpa [h] using b H
theorem tp_5 (h : x ≤ 0) (H : K t (L, st, σ)) : ti 5 t f K (L, .int x :: st, σ) := by
  refine ⟨_, rfl, ?_⟩
  simpa [h] using H
theorem tn_5 (h : ¬ (x ≤ 0)) (H : K f (L, st, σ)) : ti 5 t f K (L, .int x :: st, σ) := by
  refine ⟨_, rfl, ?_⟩
  simpa [h] using H
theorem ti_6 (H : if x = y then A else B) (a : A → K t (L, st, σ)) (b : B → K f (L, st, σ)) : ti 6 t f K (L, .int y :: .int x :: st, σ) := by
  refine ⟨_, rfl, ?_⟩
  split at H
  · rename_i h; simpa [h] using a H
  · rename_i h; simpa [h] using b H
theorem tp_6 (h : x = y) (H : K t (L, st, σ)) : ti 6 t f K (L, .int y :: .int x :: st, σ) := by
  refine ⟨_, rfl, ?_⟩
  simpa [h] using H
theorem tn_6 (h : ¬ (x = y)) (H : K f (L, st, σ)) : ti 6 t f K (L, .int y :: .int x :: st, σ) := by
  refine ⟨_, rfl, ?_⟩
  simpa [h] using H
theorem ti_7 (H : if x = y then A else B) (a : A → K f (L, st, σ)) (b : B → K t (L, st, σ)) : ti 7 t f K (L, .int y :: .int x :: st, σ) := by
  refine ⟨_, rfl, ?_⟩
  split at H
  · rename_i h; simpa [h] using a H
  · rename_i h; simpa [h] using b H
theorem tp_7 (h : x = y) (H : K f (L, st, σ)) : ti 7 t f K (L, .int y :: .int x :: st, σ) := by
  refine ⟨_, rfl, ?_⟩
  simpa [h] using H
theorem tn_7 (h : ¬ (x = y)) (H : K t (L, st, σ)) : ti 7 t f K (L, .int y :: .int x :: st, σ) := by
  refine ⟨_, rfl, ?_⟩
  simpa [h] using H
theorem ti_8 (H : if x < y then A else B) (a : A → K t (L, st, σ)) (b : B → K f (L, st, σ)) : ti 8 t f K (L, .int y :: .int x :: st, σ) := by
  refine ⟨_, rfl, ?_⟩
  split at H
  · rename_i h; simpa [h] using a H
  · rename_i h; simpa [h] using b H
theorem tp_8 (h : x < y) (H : K t (L, st, σ)) : ti 8 t f K (L, .int y :: .int x :: st, σ) := by
  refine ⟨_, rfl, ?_⟩
  simpa [h] using H
theorem tn_8 (h : ¬ (x < y)) (H : K f (L, st, σ)) : ti 8 t f K (L, .int y :: .int x :: st, σ) := by
  refine ⟨_, rfl, ?_⟩
  simpa [h] using H
theorem ti_9 (H : if y ≤ x then A else B) (a : A → K t (L, st, σ)) (b : B → K f (L, st, σ)) : ti 9 t f K (L, .int y :: .int x :: st, σ) := by
  refine ⟨_, rfl, ?_⟩
  split at H
  · rename_i h; simpa [h] using a H
  · rename_i h; simpa [h] using b H
theorem tp_9 (h : y ≤ x) (H : K t (L, st, σ)) : ti 9 t f K (L, .int y :: .int x :: st, σ) := by
  refine ⟨_, rfl, ?_⟩
  simpa [h] using H
theorem tn_9 (h : ¬ (y ≤ x)) (H : K f (L, st, σ)) : ti 9 t f K (L, .int y :: .int x :: st, σ) := by
  refine ⟨_, rfl, ?_⟩
  simpa [h] using H
theorem ti_10 (H : if y < x then A else B) (a : A → K t (L, st, σ)) (b : B → K f (L, st, σ)) : ti 10 t f K (L, .int y :: .int x :: st, σ) := by
  refine ⟨_, rfl, ?_⟩
  split at H
  · rename_i h; simpa [h] using a H
  · rename_i h; simpa [h] using b H
theorem tp_10 (h : y < x) (H : K t (L, st, σ)) : ti 10 t f K (L, .int y :: .int x :: st, σ) := by
  refine ⟨_, rfl, ?_⟩
  simpa [h] using H
theorem tn_10 (h : ¬ (y < x)) (H : K f (L, st, σ)) : ti 10 t f K (L, .int y :: .int x :: st, σ) := by
  refine ⟨_, rfl, ?_⟩
  simpa [h] using H
theorem ti_11 (H : if x ≤ y then A else B) (a : A → K t (L, st, σ)) (b : B → K f (L, st, σ)) : ti 11 t f K (L, .int y :: .int x :: st, σ) := by
  refine ⟨_, rfl, ?_⟩
  split at H
  · rename_i h; simpa [h] using a H
  · rename_i h; simpa [h] using b H
theorem tp_11 (h : x ≤ y) (H : K t (L, st, σ)) : ti 11 t f K (L, .int y :: .int x :: st, σ) := by
  refine ⟨_, rfl, ?_⟩
  simpa [h] using H
theorem tn_11 (h : ¬ (x ≤ y)) (H : K f (L, st, σ)) : ti 11 t f K (L, .int y :: .int x :: st, σ) := by
  refine ⟨_, rfl, ?_⟩
  simpa [h] using H
theorem ti_12 (hu : u < 22) (hv : v < 22) (H : if u = v then A else B) (a : A → K t (L, st, σ)) (b : B → K f (L, st, σ)) : ti 12 t f K (L, .ref v :: .ref u :: st, σ) := by
  refine ⟨(decide (u = v), L, st, σ), (by show jt_ta (fun b => b) (L, .ref v :: .ref u :: st, σ) = _; unfold jt_ta; simp only [hu, hv, and_self, if_true]), ?_⟩
  split at H
  · rename_i h; simpa [h] using a H
  · rename_i h; simpa [h] using b H
theorem ti_13 (hu : u < 22) (hv : v < 22) (H : if u = v then A else B) (a : A → K f (L, st, σ)) (b : B → K t (L, st, σ)) : ti 13 t f K (L, .ref v :: .ref u :: st, σ) := by
  refine ⟨(!decide (u = v), L, st, σ), (by show jt_ta (fun b => !b) (L, .ref v :: .ref u :: st, σ) = _; unfold jt_ta; simp only [hu, hv, and_self, if_true]), ?_⟩
  split at H
  · rename_i h; simpa [h] using a H
  · rename_i h; simpa [h] using b H
end TI
/-! steps -/
section WO
variable {L L' : JL} {st : List Value} {σ : JH} {os : List JO} {K : JS → Prop} {b i m ci : Nat} {n : Int} {x y c : Int32} {X Y Z : Int64} {a r r' w k : Nat} {A : Prop}
theorem wo_ipush (h : Int32.ofInt n = c) (H : WN (jx_run os) (L, .int c :: st, σ) K) : WN (jx_run ((0, b, n) :: os)) (L, st, σ) K := wn_op rfl (by subst h; exact H)
theorem wo_lpush (h : Int64.ofInt n = X) (H : WN (jx_run os) (L, .long X :: st, σ) K) : WN (jx_run ((1, b, n) :: os)) (L, st, σ) K := wn_op rfl (by subst h; exact H)
theorem wo_iload (h : L[i]? = some (some (.int x))) (H : WN (jx_run os) (L, .int x :: st, σ) K) : WN (jx_run ((2, i, n) :: os)) (L, st, σ) K := wn_op (by rw [ev_iload, h]; rfl) H
theorem wo_lload (h : L[i]? = some (some (.long X))) (H : WN (jx_run os) (L, .long X :: st, σ) K) : WN (jx_run ((3, i, n) :: os)) (L, st, σ) K := wn_op (by rw [ev_lload, h]; rfl) H
theorem wo_aload (h : L[i]? = some (some (.ref a))) (H : WN (jx_run os) (L, .ref a :: st, σ) K) : WN (jx_run ((4, i, n) :: os)) (L, st, σ) K := wn_op (by rw [ev_aload, h]; rfl) H
theorem wo_istore (hi : Nat.ble (i + 1) L.length = true) (h : jl_set L i (.int x) = L') (H : WN (jx_run os) (L', st, σ) K) : WN (jx_run ((5, i, n) :: os)) (L, .int x :: st, σ) K := wn_op (by rw [ev_istore, if_pos (Nat.lt_of_succ_le (Nat.le_of_ble_eq_true hi)), h]) H
theorem wo_lstore (hi : Nat.ble (i + 1 + 1) L.length = true) (h : jl_set2 L i (.long X) = L') (H : WN (jx_run os) (L', st, σ) K) : WN (jx_run ((6, i, n) :: os)) (L, .long X :: st, σ) K := wn_op (by rw [ev_lstore, if_pos (Nat.lt_of_succ_le (Nat.le_of_ble_eq_true hi)), h]) H
theorem wo_astore (hi : Nat.ble (i + 1) L.length = true) (h : jl_set L i (.ref a) = L') (H : WN (jx_run os) (L', st, σ) K) : WN (jx_run ((7, i, n) :: os)) (L, .ref a :: st, σ) K := wn_op (by rw [ev_astore, if_pos (Nat.lt_of_succ_le (Nat.le_of_ble_eq_true hi)), h]) H
theorem wo_iinc (h : L[i]? = some (some (.int x))) (hc : Int32.ofInt n = c) (h' : jl_set L i (.int (x + c)) = L') (H : WN (jx_run os) (L', st, σ) K) : WN (jx_run ((8, i, n) :: os)) (L, st, σ) K := wn_op (by rw [ev_iinc, h]; subst hc; subst h'; rfl) H
theorem wo_iadd (H : WN (jx_run os) (L, .int (x + y) :: st, σ) K) : WN (jx_run ((10, b, n) :: os)) (L, .int y :: .int x :: st, σ) K := wn_op rfl H
theorem wo_isub (H : WN (jx_run os) (L, .int (x - y) :: st, σ) K) : WN (jx_run ((11, b, n) :: os)) (L, .int y :: .int x :: st, σ) K := wn_op rfl H
theorem wo_imul (H : WN (jx_run os) (L, .int (x * y) :: st, σ) K) : WN (jx_run ((12, b, n) :: os)) (L, .int y :: .int x :: st, σ) K := wn_op rfl H
theorem wo_iand (H : WN (jx_run os) (L, .int (x &&& y) :: st, σ) K) : WN (jx_run ((16, b, n) :: os)) (L, .int y :: .int x :: st, σ) K := wn_op rfl H
theorem wo_ior (H : WN (jx_run os) (L, .int (x ||| y) :: st, σ) K) : WN (jx_run ((17, b, n) :: os)) (L, .int y :: .int x :: st, σ) K := wn_op rfl H
theorem wo_ixor (H : WN (jx_run os) (L, .int (x ^^^ y) :: st, σ) K) : WN (jx_run ((18, b, n) :: os)) (L, .int y :: .int x :: st, σ) K := wn_op rfl H
theorem wo_ishl (H : WN (jx_run os) (L, .int (x <<< (y &&& 31)) :: st, σ) K) : WN (jx_run ((19, b, n) :: os)) (L, .int y :: .int x :: st, σ) K := wn_op rfl H
theorem wo_ishr (H : WN (jx_run os) (L, .int (x >>> (y &&& 31)) :: st, σ) K) : WN (jx_run ((20, b, n) :: os)) (L, .int y :: .int x :: st, σ) K := wn_op rfl H
theorem wo_iushr (H : WN (jx_run os) (L, .int ((x.toUInt32 >>> (y.toUInt32 &&& Int32.toUInt32 31)).toInt32) :: st, σ) K) : WN (jx_run ((21, b, n) :: os)) (L, .int y :: .int x :: st, σ) K := wn_op rfl H
theorem wo_ladd (H : WN (jx_run os) (L, .long (X + Y) :: st, σ) K) : WN (jx_run ((22, b, n) :: os)) (L, .long Y :: .long X :: st, σ) K := wn_op rfl H
theorem wo_lsub (H : WN (jx_run os) (L, .long (X - Y) :: st, σ) K) : WN (jx_run ((23, b, n) :: os)) (L, .long Y :: .long X :: st, σ) K := wn_op rfl H
theorem wo_lmul (H : WN (jx_run os) (L, .long (X * Y) :: st, σ) K) : WN (jx_run ((24, b, n) :: os)) (L, .long Y :: .long X :: st, σ) K := wn_op rfl H
theorem wo_land (H : WN (jx_run os) (L, .long (X &&& Y) :: st, σ) K) : WN (jx_run ((27, b, n) :: os)) (L, .long Y :: .long X :: st, σ) K := wn_op rfl H
theorem wo_lor (H : WN (jx_run os) (L, .long (X ||| Y) :: st, σ) K) : WN (jx_run ((28, b, n) :: os)) (L, .long Y :: .long X :: st, σ) K := wn_op rfl H
theorem wo_lxor (H : WN (jx_run os) (L, .long (X ^^^ Y) :: st, σ) K) : WN (jx_run ((29, b, n) :: os)) (L, .long Y :: .long X :: st, σ) K := wn_op rfl H
theorem wo_lshl (H : WN (jx_run os) (L, .long (X <<< (y.toInt64 &&& 63)) :: st, σ) K) : WN (jx_run ((30, b, n) :: os)) (L, .int y :: .long X :: st, σ) K := wn_op rfl H
theorem wo_lshr (H : WN (jx_run os) (L, .long (X >>> (y.toInt64 &&& 63)) :: st, σ) K) : WN (jx_run ((31, b, n) :: os)) (L, .int y :: .long X :: st, σ) K := wn_op rfl H
theorem wo_lushr (H : WN (jx_run os) (L, .long ((X.toUInt64 >>> (y.toInt64.toUInt64 &&& Int64.toUInt64 63)).toInt64) :: st, σ) K) : WN (jx_run ((32, b, n) :: os)) (L, .int y :: .long X :: st, σ) K := wn_op rfl H
theorem wo_idiv (hy : ¬ y = 0) (H : WN (jx_run os) (L, .int (x / y) :: st, σ) K) : WN (jx_run ((13, b, n) :: os)) (L, .int y :: .int x :: st, σ) K := wn_op (by rw [ev_idiv, if_neg hy]) H
theorem wo_irem (hy : ¬ y = 0) (H : WN (jx_run os) (L, .int (x - x / y * y) :: st, σ) K) : WN (jx_run ((14, b, n) :: os)) (L, .int y :: .int x :: st, σ) K := wn_op (by rw [ev_irem, if_neg hy]) H
theorem wo_ldiv (hy : ¬ Y = 0) (H : WN (jx_run os) (L, .long (X / Y) :: st, σ) K) : WN (jx_run ((25, b, n) :: os)) (L, .long Y :: .long X :: st, σ) K := wn_op (by rw [ev_ldiv, if_neg hy]) H
theorem wo_lrem (hy : ¬ Y = 0) (H : WN (jx_run os) (L, .long (X - X / Y * Y) :: st, σ) K) : WN (jx_run ((26, b, n) :: os)) (L, .long Y :: .long X :: st, σ) K := wn_op (by rw [ev_lrem, if_neg hy]) H
theorem wo_lcmp (H : WN (jx_run os) (L, .int (lg_cmp X Y) :: st, σ) K) : WN (jx_run ((33, b, n) :: os)) (L, .long Y :: .long X :: st, σ) K := wn_op rfl H
theorem wo_i2l (H : WN (jx_run os) (L, .long x.toInt64 :: st, σ) K) : WN (jx_run ((34, b, n) :: os)) (L, .int x :: st, σ) K := wn_op rfl H
theorem wo_l2i (H : WN (jx_run os) (L, .int X.toInt32 :: st, σ) K) : WN (jx_run ((35, b, n) :: os)) (L, .long X :: st, σ) K := wn_op rfl H
theorem wo_ineg (H : WN (jx_run os) (L, .int (-x) :: st, σ) K) : WN (jx_run ((15, b, n) :: os)) (L, .int x :: st, σ) K := wn_op rfl H
theorem wo_i2b (H : WN (jx_run os) (L, .int x.toInt8.toInt32 :: st, σ) K) : WN (jx_run ((36, b, n) :: os)) (L, .int x :: st, σ) K := wn_op rfl H
theorem wo_i2c (H : WN (jx_run os) (L, .int (x.toUInt32 % 65536).toInt32 :: st, σ) K) : WN (jx_run ((37, b, n) :: os)) (L, .int x :: st, σ) K := wn_op rfl H
theorem wo_dupi (H : WN (jx_run os) (L, .int x :: .int x :: st, σ) K) : WN (jx_run ((70, b, n) :: os)) (L, .int x :: st, σ) K := wn_op rfl H
theorem wo_dupr (H : WN (jx_run os) (L, .ref a :: .ref a :: st, σ) K) : WN (jx_run ((70, b, n) :: os)) (L, .ref a :: st, σ) K := wn_op rfl H
theorem wo_popi (H : WN (jx_run os) (L, st, σ) K) : WN (jx_run ((71, b, n) :: os)) (L, .int x :: st, σ) K := wn_op rfl H
theorem wo_popr (H : WN (jx_run os) (L, st, σ) K) : WN (jx_run ((71, b, n) :: os)) (L, .ref a :: st, σ) K := wn_op rfl H
theorem wo_dup2 (H : WN (jx_run os) (L, .int x :: .ref a :: .int x :: .ref a :: st, σ) K) : WN (jx_run ((72, b, n) :: os)) (L, .int x :: .ref a :: st, σ) K := wn_op rfl H
theorem wo_dupx (H : WN (jx_run os) (L, .int x :: .ref a :: .int x :: st, σ) K) : WN (jx_run ((73, b, n) :: os)) (L, .int x :: .ref a :: st, σ) K := wn_op rfl H
theorem wo_dupxr (H : WN (jx_run os) (L, .ref r :: .ref a :: .ref r :: st, σ) K) : WN (jx_run ((73, b, n) :: os)) (L, .ref r :: .ref a :: st, σ) K := wn_op rfl H
theorem wo_stat (H : WN (jx_run os) (L, .ref r :: st, σ) K) : WN (jx_run ((64, r, n) :: os)) (L, st, σ) K := wn_op rfl H
theorem wo_getI (hs : σ.1[a]? = some (ci, m)) (hk : n.toNat = k) (H : WN (jx_run os) (L, .int (σ.2.1 a k) :: st, σ) K) : WN (jx_run ((40, ci, n) :: os)) (L, .ref a :: st, σ) K := wn_op (by rw [ev_getI, hs, hk, ev_gk]) H
theorem wo_getJ (hs : σ.1[a]? = some (ci, m)) (hk : n.toNat = k) (H : WN (jx_run os) (L, .long (σ.2.2.1 a k) :: st, σ) K) : WN (jx_run ((41, ci, n) :: os)) (L, .ref a :: st, σ) K := wn_op (by rw [ev_getJ, hs, hk, ev_gk]) H
theorem wo_getR (hs : σ.1[a]? = some (ci, m)) (hk : n.toNat = k) (hr : σ.2.2.2 a k = some r) (H : WN (jx_run os) (L, .ref r :: st, σ) K) : WN (jx_run ((42, ci, n) :: os)) (L, .ref a :: st, σ) K := wn_op (by rw [ev_getR, hs, hk, ev_gk, hr]; rfl) H
theorem wo_putI (hs : σ.1[a]? = some (ci, m)) (hk : n.toNat = k) (H : WN (jx_run os) (L, st, jh_setI σ a k x) K) : WN (jx_run ((43, ci, n) :: os)) (L, .int x :: .ref a :: st, σ) K := wn_op (by rw [ev_putI, hs, hk, ev_pk]) H
theorem wo_putZ (hs : σ.1[a]? = some (ci, m)) (hk : n.toNat = k) (hx : x = 0 ∨ x = 1) (H : WN (jx_run os) (L, st, jh_setI σ a k x) K) : WN (jx_run ((46, ci, n) :: os)) (L, .int x :: .ref a :: st, σ) K := wn_op (by rw [ev_putZ, hs, hk]; rcases hx with rfl | rfl <;> (unfold ez_p; simp only [true_and]; rfl)) H
theorem wo_putC (hs : σ.1[a]? = some (ci, m)) (hk : n.toNat = k) (hx : narrow .char (.int x) = .int x ∧ fits .char (.int x) = true) (H : WN (jx_run os) (L, st, jh_setI σ a k x) K) : WN (jx_run ((47, ci, n) :: os)) (L, .int x :: .ref a :: st, σ) K := wn_op (by rw [ev_putC, hs, hk]; unfold ez_p; simp only [true_and]; rw [if_pos hx]) H
theorem wo_putJ (hs : σ.1[a]? = some (ci, m)) (hk : n.toNat = k) (H : WN (jx_run os) (L, st, jh_setJ σ a k X) K) : WN (jx_run ((44, ci, n) :: os)) (L, .long X :: .ref a :: st, σ) K := wn_op (by rw [ev_putJ, hs, hk, ev_qk]) H
theorem wo_putR (hs : σ.1[a]? = some (ci, m)) (hk : n.toNat = k) (H : WN (jx_run os) (L, st, jh_setR σ a k (some r)) K) : WN (jx_run ((45, ci, n) :: os)) (L, .ref r :: .ref a :: st, σ) K := wn_op (by rw [ev_putR, hs, hk, ev_qk]) H
theorem ez_rk {ks : List Nat} {w m : Nat} {j : Int32} {q : JS} (hw : w ∈ ks) (hi : inb j m) : ez_r ks (some (w, m)) j q = some q := by
  unfold ez_r
  simp only
  rw [if_pos ⟨hw, hi⟩]
theorem wo_ldI (hs : σ.1[a]? = some (w, m)) (hw : w ∈ [100, 200]) (hi : inb y m) (hk : cl y = k) (H : WN (jx_run os) (L, .int (σ.2.1 a k) :: st, σ) K) : WN (jx_run ((50, b, n) :: os)) (L, .int y :: .ref a :: st, σ) K := wn_op (by rw [ev_ldI, hs, ez_rk hw hi]; subst hk; rfl) H
theorem wo_ldB (hs : σ.1[a]? = some (w, m)) (hw : w ∈ [102, 103, 202]) (hi : inb y m) (hk : cl y = k) (H : WN (jx_run os) (L, .int (σ.2.1 a k) :: st, σ) K) : WN (jx_run ((52, b, n) :: os)) (L, .int y :: .ref a :: st, σ) K := wn_op (by rw [ev_ldB, hs, ez_rk hw hi]; subst hk; rfl) H
theorem wo_ldJ (hs : σ.1[a]? = some (101, m)) (hi : inb y m) (hk : cl y = k) (H : WN (jx_run os) (L, .long (σ.2.2.1 a k) :: st, σ) K) : WN (jx_run ((51, b, n) :: os)) (L, .int y :: .ref a :: st, σ) K := wn_op (by rw [ev_ldJ, hs, ez_rk (List.mem_singleton.mpr rfl) hi]; subst hk; rfl) H
theorem wo_ldR (hs : σ.1[a]? = some (w, m)) (hw : w = 104 ∨ w = 201) (hi : inb y m) (hr : σ.2.2.2 a (cl y) = some r) (H : WN (jx_run os) (L, .ref r :: st, σ) K) : WN (jx_run ((54, b, n) :: os)) (L, .int y :: .ref a :: st, σ) K := wn_op (by show jo_ldR (L, .int y :: .ref a :: st, σ) = _; unfold jo_ldR; simp only [hs]; rw [if_pos ⟨hw, hi⟩, hr]; rfl) H
theorem wo_stI (hs : σ.1[a]? = some (100, m)) (hi : inb y m) (hk : cl y = k) (H : WN (jx_run os) (L, st, jh_setI σ a k x) K) : WN (jx_run ((55, b, n) :: os)) (L, .int x :: .int y :: .ref a :: st, σ) K := wn_op (by rw [ev_stI, hs, ez_rk (List.mem_singleton.mpr rfl) hi]; subst hk; rfl) H
theorem wo_stJ (hs : σ.1[a]? = some (101, m)) (hi : inb y m) (hk : cl y = k) (H : WN (jx_run os) (L, st, jh_setJ σ a k X) K) : WN (jx_run ((56, b, n) :: os)) (L, .long X :: .int y :: .ref a :: st, σ) K := wn_op (by rw [ev_stJ, hs, ez_rk (List.mem_singleton.mpr rfl) hi]; subst hk; rfl) H
theorem wo_stB (hs : σ.1[a]? = some (w, m)) (hw : w = 102 ∨ w = 103) (hi : inb y m) (hk : cl y = k) (H : WN (jx_run os) (L, st, jh_setI σ a k (vp_nar (jt_at w) x)) K) : WN (jx_run ((57, b, n) :: os)) (L, .int x :: .int y :: .ref a :: st, σ) K := wn_op (by show jo_stB (L, .int x :: .int y :: .ref a :: st, σ) = _; unfold jo_stB; simp only [hs]; rw [if_pos ⟨hw, hi⟩]; subst hk; rfl) H
theorem wo_len (hs : σ.1[a]? = some (w, m)) (hw : 100 ≤ w) (H : WN (jx_run os) (L, .int (nI m) :: st, σ) K) : WN (jx_run ((60, b, n) :: os)) (L, .ref a :: st, σ) K := wn_op (by show jo_len (L, .ref a :: st, σ) = _; unfold jo_len; simp only [hs]; rw [if_pos hw]; rfl) H
end WO
/-! calls -/
section WC
variable {L : JL} {st tk : List Value} {σ : JH} {K : JS → Prop} {n ci m a : Nat} {f : JF} {vs : List Value}
theorem wc_v {r : Option Value × JH} (hs : σ.1[a]? = some (ci, m)) (hr : tk.reverse = .ref a :: vs) (hn : tk.length = n) (hc : Nat.ble (st.map (fun v => v.category)).sum 8 = true) (hf : f (.ref a :: vs) σ = some r) (H : K (L, r.1.toList ++ st, r.2)) : WN (jx_cv n ci f) (L, tk ++ st, σ) K := by
  refine ⟨_, ?_, H⟩
  unfold jx_cv
  have h1 : (tk ++ st).take n = tk := by rw [← hn]; exact List.take_left' rfl
  have h2 : (tk ++ st).drop n = st := by rw [← hn]; exact List.drop_left' rfl
  have h3 : vs.length + 1 = n := by have := congrArg List.length hr; rw [List.length_reverse, List.length_cons] at this; omega
  simp only [h1, h2, hr, hs, true_and]
  rw [if_pos ⟨Nat.le_of_ble_eq_true hc, h3⟩, hf]
  rfl
theorem wc_i {r : Option Value × JH} (hr : tk.reverse = .ref a :: vs) (hn : tk.length = n) (hc : Nat.ble (st.map (fun v => v.category)).sum 8 = true) (hf : f (.ref a :: vs) σ = some r) (H : K (L, r.1.toList ++ st, r.2)) : WN (jx_ci n f) (L, tk ++ st, σ) K := by
  refine ⟨_, ?_, H⟩
  unfold jx_ci
  have h1 : (tk ++ st).take n = tk := by rw [← hn]; exact List.take_left' rfl
  have h2 : (tk ++ st).drop n = st := by rw [← hn]; exact List.drop_left' rfl
  have h3 : vs.length + 1 = n := by have := congrArg List.length hr; rw [List.length_reverse, List.length_cons] at this; omega
  simp only [h1, h2, hr]
  rw [if_pos ⟨Nat.le_of_ble_eq_true hc, h3⟩, hf]
  rfl
theorem wc_s {r : Option Value × JH} (hr : tk.reverse = vs) (hn : tk.length = n) (hc : Nat.ble (st.map (fun v => v.category)).sum 8 = true) (hf : f vs σ = some r) (H : K (L, r.1.toList ++ st, r.2)) : WN (jx_cs n f) (L, tk ++ st, σ) K := by
  refine ⟨_, ?_, H⟩
  unfold jx_cs
  have h1 : (tk ++ st).take n = tk := by rw [← hn]; exact List.take_left' rfl
  have h2 : (tk ++ st).drop n = st := by rw [← hn]; exact List.drop_left' rfl
  rw [h1, h2, if_pos ⟨Nat.le_of_ble_eq_true hc, hn⟩, hr, hf]
  rfl
theorem wc_vE {F : Int32 → Prop} (tk : List Value) (hs : σ.1[a]? = some (ci, m)) (hr : tk.reverse = .ref a :: vs) (hn : tk.length = n) (hc : Nat.ble (st.map (fun v => v.category)).sum 8 = true) (H : WE f (.ref a :: vs) σ F) (k : ∀ x, F x → K (L, .int x :: st, σ)) : WN (jx_cv n ci f) (L, tk ++ st, σ) K := by
  obtain ⟨x, h1, h2⟩ := H
  exact wc_v hs hr hn hc h1 (k x h2)
theorem wc_iE {F : Int32 → Prop} (tk : List Value) (hr : tk.reverse = .ref a :: vs) (hn : tk.length = n) (hc : Nat.ble (st.map (fun v => v.category)).sum 8 = true) (H : WE f (.ref a :: vs) σ F) (k : ∀ x, F x → K (L, .int x :: st, σ)) : WN (jx_ci n f) (L, tk ++ st, σ) K := by
  obtain ⟨x, h1, h2⟩ := H
  exact wc_i hr hn hc h1 (k x h2)
theorem wc_sE {F : Int32 → Prop} (tk : List Value) (hr : tk.reverse = vs) (hn : tk.length = n) (hc : Nat.ble (st.map (fun v => v.category)).sum 8 = true) (H : WE f vs σ F) (k : ∀ x, F x → K (L, .int x :: st, σ)) : WN (jx_cs n f) (L, tk ++ st, σ) K := by
  obtain ⟨x, h1, h2⟩ := H
  exact wc_s hr hn hc h1 (k x h2)
theorem wc_vJ {F : Int64 → Prop} (tk : List Value) (hs : σ.1[a]? = some (ci, m)) (hr : tk.reverse = .ref a :: vs) (hn : tk.length = n) (hc : Nat.ble (st.map (fun v => v.category)).sum 8 = true) (H : WJ f (.ref a :: vs) σ F) (k : ∀ x, F x → K (L, .long x :: st, σ)) : WN (jx_cv n ci f) (L, tk ++ st, σ) K := by
  obtain ⟨x, h1, h2⟩ := H
  exact wc_v hs hr hn hc h1 (k x h2)
theorem wc_iJ {F : Int64 → Prop} (tk : List Value) (hr : tk.reverse = .ref a :: vs) (hn : tk.length = n) (hc : Nat.ble (st.map (fun v => v.category)).sum 8 = true) (H : WJ f (.ref a :: vs) σ F) (k : ∀ x, F x → K (L, .long x :: st, σ)) : WN (jx_ci n f) (L, tk ++ st, σ) K := by
  obtain ⟨x, h1, h2⟩ := H
  exact wc_i hr hn hc h1 (k x h2)
theorem wc_sJ {F : Int64 → Prop} (tk : List Value) (hr : tk.reverse = vs) (hn : tk.length = n) (hc : Nat.ble (st.map (fun v => v.category)).sum 8 = true) (H : WJ f vs σ F) (k : ∀ x, F x → K (L, .long x :: st, σ)) : WN (jx_cs n f) (L, tk ++ st, σ) K := by
  obtain ⟨x, h1, h2⟩ := H
  exact wc_s hr hn hc h1 (k x h2)
theorem wc_vA {F : Nat → Prop} (tk : List Value) (hs : σ.1[a]? = some (ci, m)) (hr : tk.reverse = .ref a :: vs) (hn : tk.length = n) (hc : Nat.ble (st.map (fun v => v.category)).sum 8 = true) (H : WA f (.ref a :: vs) σ F) (k : ∀ x, x < 22 → F x → K (L, .ref x :: st, σ)) : WN (jx_cv n ci f) (L, tk ++ st, σ) K := by
  obtain ⟨x, h1, h2, h3⟩ := H
  exact wc_v hs hr hn hc h1 (k x h2 h3)
theorem wc_iA {F : Nat → Prop} (tk : List Value) (hr : tk.reverse = .ref a :: vs) (hn : tk.length = n) (hc : Nat.ble (st.map (fun v => v.category)).sum 8 = true) (H : WA f (.ref a :: vs) σ F) (k : ∀ x, x < 22 → F x → K (L, .ref x :: st, σ)) : WN (jx_ci n f) (L, tk ++ st, σ) K := by
  obtain ⟨x, h1, h2, h3⟩ := H
  exact wc_i hr hn hc h1 (k x h2 h3)
theorem wc_sA {F : Nat → Prop} (tk : List Value) (hr : tk.reverse = vs) (hn : tk.length = n) (hc : Nat.ble (st.map (fun v => v.category)).sum 8 = true) (H : WA f vs σ F) (k : ∀ x, x < 22 → F x → K (L, .ref x :: st, σ)) : WN (jx_cs n f) (L, tk ++ st, σ) K := by
  obtain ⟨x, h1, h2, h3⟩ := H
  exact wc_s hr hn hc h1 (k x h2 h3)
theorem wc_vI {F : Int32 → JH → Prop} (tk : List Value) (hs : σ.1[a]? = some (ci, m)) (hr : tk.reverse = .ref a :: vs) (hn : tk.length = n) (hc : Nat.ble (st.map (fun v => v.category)).sum 8 = true) (H : WM f (.ref a :: vs) σ (kI F)) (k : ∀ x σ, F x σ → K (L, .int x :: st, σ)) : WN (jx_cv n ci f) (L, tk ++ st, σ) K := by
  obtain ⟨v, s, h1, x, rfl, h2⟩ := H
  exact wc_v hs hr hn hc h1 (k x s h2)
theorem wc_iI {F : Int32 → JH → Prop} (tk : List Value) (hr : tk.reverse = .ref a :: vs) (hn : tk.length = n) (hc : Nat.ble (st.map (fun v => v.category)).sum 8 = true) (H : WM f (.ref a :: vs) σ (kI F)) (k : ∀ x σ, F x σ → K (L, .int x :: st, σ)) : WN (jx_ci n f) (L, tk ++ st, σ) K := by
  obtain ⟨v, s, h1, x, rfl, h2⟩ := H
  exact wc_i hr hn hc h1 (k x s h2)
theorem wc_sI {F : Int32 → JH → Prop} (tk : List Value) (hr : tk.reverse = vs) (hn : tk.length = n) (hc : Nat.ble (st.map (fun v => v.category)).sum 8 = true) (H : WM f vs σ (kI F)) (k : ∀ x σ, F x σ → K (L, .int x :: st, σ)) : WN (jx_cs n f) (L, tk ++ st, σ) K := by
  obtain ⟨v, s, h1, x, rfl, h2⟩ := H
  exact wc_s hr hn hc h1 (k x s h2)
theorem wc_vV {F : JH → Prop} (tk : List Value) (hs : σ.1[a]? = some (ci, m)) (hr : tk.reverse = .ref a :: vs) (hn : tk.length = n) (hc : Nat.ble (st.map (fun v => v.category)).sum 8 = true) (H : WM f (.ref a :: vs) σ (kV F)) (k : ∀ σ, F σ → K (L, st, σ)) : WN (jx_cv n ci f) (L, tk ++ st, σ) K := by
  obtain ⟨v, s, h1, rfl, h2⟩ := H
  exact wc_v hs hr hn hc h1 (k s h2)
theorem wc_iV {F : JH → Prop} (tk : List Value) (hr : tk.reverse = .ref a :: vs) (hn : tk.length = n) (hc : Nat.ble (st.map (fun v => v.category)).sum 8 = true) (H : WM f (.ref a :: vs) σ (kV F)) (k : ∀ σ, F σ → K (L, st, σ)) : WN (jx_ci n f) (L, tk ++ st, σ) K := by
  obtain ⟨v, s, h1, rfl, h2⟩ := H
  exact wc_i hr hn hc h1 (k s h2)
theorem wc_sV {F : JH → Prop} (tk : List Value) (hr : tk.reverse = vs) (hn : tk.length = n) (hc : Nat.ble (st.map (fun v => v.category)).sum 8 = true) (H : WM f vs σ (kV F)) (k : ∀ σ, F σ → K (L, st, σ)) : WN (jx_cs n f) (L, tk ++ st, σ) K := by
  obtain ⟨v, s, h1, rfl, h2⟩ := H
  exact wc_s hr hn hc h1 (k s h2)
theorem wc_vK {F : Int64 → JH → Prop} (tk : List Value) (hs : σ.1[a]? = some (ci, m)) (hr : tk.reverse = .ref a :: vs) (hn : tk.length = n) (hc : Nat.ble (st.map (fun v => v.category)).sum 8 = true) (H : WM f (.ref a :: vs) σ (kJ F)) (k : ∀ x σ, F x σ → K (L, .long x :: st, σ)) : WN (jx_cv n ci f) (L, tk ++ st, σ) K := by
  obtain ⟨v, s, h1, x, rfl, h2⟩ := H
  exact wc_v hs hr hn hc h1 (k x s h2)
theorem wc_iK {F : Int64 → JH → Prop} (tk : List Value) (hr : tk.reverse = .ref a :: vs) (hn : tk.length = n) (hc : Nat.ble (st.map (fun v => v.category)).sum 8 = true) (H : WM f (.ref a :: vs) σ (kJ F)) (k : ∀ x σ, F x σ → K (L, .long x :: st, σ)) : WN (jx_ci n f) (L, tk ++ st, σ) K := by
  obtain ⟨v, s, h1, x, rfl, h2⟩ := H
  exact wc_i hr hn hc h1 (k x s h2)
theorem wc_sK {F : Int64 → JH → Prop} (tk : List Value) (hr : tk.reverse = vs) (hn : tk.length = n) (hc : Nat.ble (st.map (fun v => v.category)).sum 8 = true) (H : WM f vs σ (kJ F)) (k : ∀ x σ, F x σ → K (L, .long x :: st, σ)) : WN (jx_cs n f) (L, tk ++ st, σ) K := by
  obtain ⟨v, s, h1, x, rfl, h2⟩ := H
  exact wc_s hr hn hc h1 (k x s h2)
end WC
/-! loops and joins -/
def Lp1 {α0 : Type} (B : α0 → (α0 → Prop) → Prop) (a0 : α0) : Prop := ∀ X : α0 → Prop, (∀ a0, B a0 X → X a0) → X a0
theorem wp_lp1 {α0 : Type} {h : Nat} {P : JP} {K : Nat → JS → Prop} (enc : α0 → JS) {B : α0 → (α0 → Prop) → Prop} (a0 : α0) (H : Lp1 B a0) (bd : ∀ a0, B a0 (fun a0 => WP (jb_lp h P) (enc a0) K) → WP P (enc a0) (kk h (jb_lp h P) K)) : WP (jb_lp h P) (enc a0) K := H (fun a0 => WP (jb_lp h P) (enc a0) K) (fun a0 hb => wp_un (bd a0 hb))
def JJ1 {α0 : Type} (B : α0 → Prop) (A : (α0 → Prop) → Prop) : Prop := A B
theorem wp_j1 {α0 : Type} {h : Nat} {P P' : JP} {s : JS} {K : Nat → JS → Prop} (enc : α0 → JS) (ok : α0 → Prop) {B : α0 → Prop} {A : (α0 → Prop) → Prop} (H : JJ1 B A) (jp : ∀ a0, ok a0 → B a0 → WP P' (enc a0) K) (mn : ∀ J : α0 → Prop, (∀ a0, ok a0 → J a0 → kk h P' K h (enc a0)) → A J → WP P s (kk h P' K)) : WP (jb_sq P h P') s K := wp_sq (mn B (fun a0 ho hb => kk_hit (jp a0 ho hb)) H)
def Lp2 {α0 α1 : Type} (B : α0 → α1 → (α0 → α1 → Prop) → Prop) (a0 : α0) (a1 : α1) : Prop := ∀ X : α0 → α1 → Prop, (∀ a0 a1, B a0 a1 X → X a0 a1) → X a0 a1
theorem wp_lp2 {α0 α1 : Type} {h : Nat} {P : JP} {K : Nat → JS → Prop} (enc : α0 → α1 → JS) {B : α0 → α1 → (α0 → α1 → Prop) → Prop} (a0 : α0) (a1 : α1) (H : Lp2 B a0 a1) (bd : ∀ a0 a1, B a0 a1 (fun a0 a1 => WP (jb_lp h P) (enc a0 a1) K) → WP P (enc a0 a1) (kk h (jb_lp h P) K)) : WP (jb_lp h P) (enc a0 a1) K := H (fun a0 a1 => WP (jb_lp h P) (enc a0 a1) K) (fun a0 a1 hb => wp_un (bd a0 a1 hb))
def JJ2 {α0 α1 : Type} (B : α0 → α1 → Prop) (A : (α0 → α1 → Prop) → Prop) : Prop := A B
theorem wp_j2 {α0 α1 : Type} {h : Nat} {P P' : JP} {s : JS} {K : Nat → JS → Prop} (enc : α0 → α1 → JS) (ok : α0 → α1 → Prop) {B : α0 → α1 → Prop} {A : (α0 → α1 → Prop) → Prop} (H : JJ2 B A) (jp : ∀ a0 a1, ok a0 a1 → B a0 a1 → WP P' (enc a0 a1) K) (mn : ∀ J : α0 → α1 → Prop, (∀ a0 a1, ok a0 a1 → J a0 a1 → kk h P' K h (enc a0 a1)) → A J → WP P s (kk h P' K)) : WP (jb_sq P h P') s K := wp_sq (mn B (fun a0 a1 ho hb => kk_hit (jp a0 a1 ho hb)) H)
def Lp3 {α0 α1 α2 : Type} (B : α0 → α1 → α2 → (α0 → α1 → α2 → Prop) → Prop) (a0 : α0) (a1 : α1) (a2 : α2) : Prop := ∀ X : α0 → α1 → α2 → Prop, (∀ a0 a1 a2, B a0 a1 a2 X → X a0 a1 a2) → X a0 a1 a2
theorem wp_lp3 {α0 α1 α2 : Type} {h : Nat} {P : JP} {K : Nat → JS → Prop} (enc : α0 → α1 → α2 → JS) {B : α0 → α1 → α2 → (α0 → α1 → α2 → Prop) → Prop} (a0 : α0) (a1 : α1) (a2 : α2) (H : Lp3 B a0 a1 a2) (bd : ∀ a0 a1 a2, B a0 a1 a2 (fun a0 a1 a2 => WP (jb_lp h P) (enc a0 a1 a2) K) → WP P (enc a0 a1 a2) (kk h (jb_lp h P) K)) : WP (jb_lp h P) (enc a0 a1 a2) K := H (fun a0 a1 a2 => WP (jb_lp h P) (enc a0 a1 a2) K) (fun a0 a1 a2 hb => wp_un (bd a0 a1 a2 hb))
def JJ3 {α0 α1 α2 : Type} (B : α0 → α1 → α2 → Prop) (A : (α0 → α1 → α2 → Prop) → Prop) : Prop := A B
theorem wp_j3 {α0 α1 α2 : Type} {h : Nat} {P P' : JP} {s : JS} {K : Nat → JS → Prop} (enc : α0 → α1 → α2 → JS) (ok : α0 → α1 → α2 → Prop) {B : α0 → α1 → α2 → Prop} {A : (α0 → α1 → α2 → Prop) → Prop} (H : JJ3 B A) (jp : ∀ a0 a1 a2, ok a0 a1 a2 → B a0 a1 a2 → WP P' (enc a0 a1 a2) K) (mn : ∀ J : α0 → α1 → α2 → Prop, (∀ a0 a1 a2, ok a0 a1 a2 → J a0 a1 a2 → kk h P' K h (enc a0 a1 a2)) → A J → WP P s (kk h P' K)) : WP (jb_sq P h P') s K := wp_sq (mn B (fun a0 a1 a2 ho hb => kk_hit (jp a0 a1 a2 ho hb)) H)
def Lp4 {α0 α1 α2 α3 : Type} (B : α0 → α1 → α2 → α3 → (α0 → α1 → α2 → α3 → Prop) → Prop) (a0 : α0) (a1 : α1) (a2 : α2) (a3 : α3) : Prop := ∀ X : α0 → α1 → α2 → α3 → Prop, (∀ a0 a1 a2 a3, B a0 a1 a2 a3 X → X a0 a1 a2 a3) → X a0 a1 a2 a3
theorem wp_lp4 {α0 α1 α2 α3 : Type} {h : Nat} {P : JP} {K : Nat → JS → Prop} (enc : α0 → α1 → α2 → α3 → JS) {B : α0 → α1 → α2 → α3 → (α0 → α1 → α2 → α3 → Prop) → Prop} (a0 : α0) (a1 : α1) (a2 : α2) (a3 : α3) (H : Lp4 B a0 a1 a2 a3) (bd : ∀ a0 a1 a2 a3, B a0 a1 a2 a3 (fun a0 a1 a2 a3 => WP (jb_lp h P) (enc a0 a1 a2 a3) K) → WP P (enc a0 a1 a2 a3) (kk h (jb_lp h P) K)) : WP (jb_lp h P) (enc a0 a1 a2 a3) K := H (fun a0 a1 a2 a3 => WP (jb_lp h P) (enc a0 a1 a2 a3) K) (fun a0 a1 a2 a3 hb => wp_un (bd a0 a1 a2 a3 hb))
def JJ4 {α0 α1 α2 α3 : Type} (B : α0 → α1 → α2 → α3 → Prop) (A : (α0 → α1 → α2 → α3 → Prop) → Prop) : Prop := A B
theorem wp_j4 {α0 α1 α2 α3 : Type} {h : Nat} {P P' : JP} {s : JS} {K : Nat → JS → Prop} (enc : α0 → α1 → α2 → α3 → JS) (ok : α0 → α1 → α2 → α3 → Prop) {B : α0 → α1 → α2 → α3 → Prop} {A : (α0 → α1 → α2 → α3 → Prop) → Prop} (H : JJ4 B A) (jp : ∀ a0 a1 a2 a3, ok a0 a1 a2 a3 → B a0 a1 a2 a3 → WP P' (enc a0 a1 a2 a3) K) (mn : ∀ J : α0 → α1 → α2 → α3 → Prop, (∀ a0 a1 a2 a3, ok a0 a1 a2 a3 → J a0 a1 a2 a3 → kk h P' K h (enc a0 a1 a2 a3)) → A J → WP P s (kk h P' K)) : WP (jb_sq P h P') s K := wp_sq (mn B (fun a0 a1 a2 a3 ho hb => kk_hit (jp a0 a1 a2 a3 ho hb)) H)
def Lp5 {α0 α1 α2 α3 α4 : Type} (B : α0 → α1 → α2 → α3 → α4 → (α0 → α1 → α2 → α3 → α4 → Prop) → Prop) (a0 : α0) (a1 : α1) (a2 : α2) (a3 : α3) (a4 : α4) : Prop := ∀ X : α0 → α1 → α2 → α3 → α4 → Prop, (∀ a0 a1 a2 a3 a4, B a0 a1 a2 a3 a4 X → X a0 a1 a2 a3 a4) → X a0 a1 a2 a3 a4
theorem wp_lp5 {α0 α1 α2 α3 α4 : Type} {h : Nat} {P : JP} {K : Nat → JS → Prop} (enc : α0 → α1 → α2 → α3 → α4 → JS) {B : α0 → α1 → α2 → α3 → α4 → (α0 → α1 → α2 → α3 → α4 → Prop) → Prop} (a0 : α0) (a1 : α1) (a2 : α2) (a3 : α3) (a4 : α4) (H : Lp5 B a0 a1 a2 a3 a4) (bd : ∀ a0 a1 a2 a3 a4, B a0 a1 a2 a3 a4 (fun a0 a1 a2 a3 a4 => WP (jb_lp h P) (enc a0 a1 a2 a3 a4) K) → WP P (enc a0 a1 a2 a3 a4) (kk h (jb_lp h P) K)) : WP (jb_lp h P) (enc a0 a1 a2 a3 a4) K := H (fun a0 a1 a2 a3 a4 => WP (jb_lp h P) (enc a0 a1 a2 a3 a4) K) (fun a0 a1 a2 a3 a4 hb => wp_un (bd a0 a1 a2 a3 a4 hb))
def JJ5 {α0 α1 α2 α3 α4 : Type} (B : α0 → α1 → α2 → α3 → α4 → Prop) (A : (α0 → α1 → α2 → α3 → α4 → Prop) → Prop) : Prop := A B
theorem wp_j5 {α0 α1 α2 α3 α4 : Type} {h : Nat} {P P' : JP} {s : JS} {K : Nat → JS → Prop} (enc : α0 → α1 → α2 → α3 → α4 → JS) (ok : α0 → α1 → α2 → α3 → α4 → Prop) {B : α0 → α1 → α2 → α3 → α4 → Prop} {A : (α0 → α1 → α2 → α3 → α4 → Prop) → Prop} (H : JJ5 B A) (jp : ∀ a0 a1 a2 a3 a4, ok a0 a1 a2 a3 a4 → B a0 a1 a2 a3 a4 → WP P' (enc a0 a1 a2 a3 a4) K) (mn : ∀ J : α0 → α1 → α2 → α3 → α4 → Prop, (∀ a0 a1 a2 a3 a4, ok a0 a1 a2 a3 a4 → J a0 a1 a2 a3 a4 → kk h P' K h (enc a0 a1 a2 a3 a4)) → A J → WP P s (kk h P' K)) : WP (jb_sq P h P') s K := wp_sq (mn B (fun a0 a1 a2 a3 a4 ho hb => kk_hit (jp a0 a1 a2 a3 a4 ho hb)) H)
def Lp6 {α0 α1 α2 α3 α4 α5 : Type} (B : α0 → α1 → α2 → α3 → α4 → α5 → (α0 → α1 → α2 → α3 → α4 → α5 → Prop) → Prop) (a0 : α0) (a1 : α1) (a2 : α2) (a3 : α3) (a4 : α4) (a5 : α5) : Prop := ∀ X : α0 → α1 → α2 → α3 → α4 → α5 → Prop, (∀ a0 a1 a2 a3 a4 a5, B a0 a1 a2 a3 a4 a5 X → X a0 a1 a2 a3 a4 a5) → X a0 a1 a2 a3 a4 a5
theorem wp_lp6 {α0 α1 α2 α3 α4 α5 : Type} {h : Nat} {P : JP} {K : Nat → JS → Prop} (enc : α0 → α1 → α2 → α3 → α4 → α5 → JS) {B : α0 → α1 → α2 → α3 → α4 → α5 → (α0 → α1 → α2 → α3 → α4 → α5 → Prop) → Prop} (a0 : α0) (a1 : α1) (a2 : α2) (a3 : α3) (a4 : α4) (a5 : α5) (H : Lp6 B a0 a1 a2 a3 a4 a5) (bd : ∀ a0 a1 a2 a3 a4 a5, B a0 a1 a2 a3 a4 a5 (fun a0 a1 a2 a3 a4 a5 => WP (jb_lp h P) (enc a0 a1 a2 a3 a4 a5) K) → WP P (enc a0 a1 a2 a3 a4 a5) (kk h (jb_lp h P) K)) : WP (jb_lp h P) (enc a0 a1 a2 a3 a4 a5) K := H (fun a0 a1 a2 a3 a4 a5 => WP (jb_lp h P) (enc a0 a1 a2 a3 a4 a5) K) (fun a0 a1 a2 a3 a4 a5 hb => wp_un (bd a0 a1 a2 a3 a4 a5 hb))
def JJ6 {α0 α1 α2 α3 α4 α5 : Type} (B : α0 → α1 → α2 → α3 → α4 → α5 → Prop) (A : (α0 → α1 → α2 → α3 → α4 → α5 → Prop) → Prop) : Prop := A B
theorem wp_j6 {α0 α1 α2 α3 α4 α5 : Type} {h : Nat} {P P' : JP} {s : JS} {K : Nat → JS → Prop} (enc : α0 → α1 → α2 → α3 → α4 → α5 → JS) (ok : α0 → α1 → α2 → α3 → α4 → α5 → Prop) {B : α0 → α1 → α2 → α3 → α4 → α5 → Prop} {A : (α0 → α1 → α2 → α3 → α4 → α5 → Prop) → Prop} (H : JJ6 B A) (jp : ∀ a0 a1 a2 a3 a4 a5, ok a0 a1 a2 a3 a4 a5 → B a0 a1 a2 a3 a4 a5 → WP P' (enc a0 a1 a2 a3 a4 a5) K) (mn : ∀ J : α0 → α1 → α2 → α3 → α4 → α5 → Prop, (∀ a0 a1 a2 a3 a4 a5, ok a0 a1 a2 a3 a4 a5 → J a0 a1 a2 a3 a4 a5 → kk h P' K h (enc a0 a1 a2 a3 a4 a5)) → A J → WP P s (kk h P' K)) : WP (jb_sq P h P') s K := wp_sq (mn B (fun a0 a1 a2 a3 a4 a5 ho hb => kk_hit (jp a0 a1 a2 a3 a4 a5 ho hb)) H)
def Lp7 {α0 α1 α2 α3 α4 α5 α6 : Type} (B : α0 → α1 → α2 → α3 → α4 → α5 → α6 → (α0 → α1 → α2 → α3 → α4 → α5 → α6 → Prop) → Prop) (a0 : α0) (a1 : α1) (a2 : α2) (a3 : α3) (a4 : α4) (a5 : α5) (a6 : α6) : Prop := ∀ X : α0 → α1 → α2 → α3 → α4 → α5 → α6 → Prop, (∀ a0 a1 a2 a3 a4 a5 a6, B a0 a1 a2 a3 a4 a5 a6 X → X a0 a1 a2 a3 a4 a5 a6) → X a0 a1 a2 a3 a4 a5 a6
theorem wp_lp7 {α0 α1 α2 α3 α4 α5 α6 : Type} {h : Nat} {P : JP} {K : Nat → JS → Prop} (enc : α0 → α1 → α2 → α3 → α4 → α5 → α6 → JS) {B : α0 → α1 → α2 → α3 → α4 → α5 → α6 → (α0 → α1 → α2 → α3 → α4 → α5 → α6 → Prop) → Prop} (a0 : α0) (a1 : α1) (a2 : α2) (a3 : α3) (a4 : α4) (a5 : α5) (a6 : α6) (H : Lp7 B a0 a1 a2 a3 a4 a5 a6) (bd : ∀ a0 a1 a2 a3 a4 a5 a6, B a0 a1 a2 a3 a4 a5 a6 (fun a0 a1 a2 a3 a4 a5 a6 => WP (jb_lp h P) (enc a0 a1 a2 a3 a4 a5 a6) K) → WP P (enc a0 a1 a2 a3 a4 a5 a6) (kk h (jb_lp h P) K)) : WP (jb_lp h P) (enc a0 a1 a2 a3 a4 a5 a6) K := H (fun a0 a1 a2 a3 a4 a5 a6 => WP (jb_lp h P) (enc a0 a1 a2 a3 a4 a5 a6) K) (fun a0 a1 a2 a3 a4 a5 a6 hb => wp_un (bd a0 a1 a2 a3 a4 a5 a6 hb))
def JJ7 {α0 α1 α2 α3 α4 α5 α6 : Type} (B : α0 → α1 → α2 → α3 → α4 → α5 → α6 → Prop) (A : (α0 → α1 → α2 → α3 → α4 → α5 → α6 → Prop) → Prop) : Prop := A B
theorem wp_j7 {α0 α1 α2 α3 α4 α5 α6 : Type} {h : Nat} {P P' : JP} {s : JS} {K : Nat → JS → Prop} (enc : α0 → α1 → α2 → α3 → α4 → α5 → α6 → JS) (ok : α0 → α1 → α2 → α3 → α4 → α5 → α6 → Prop) {B : α0 → α1 → α2 → α3 → α4 → α5 → α6 → Prop} {A : (α0 → α1 → α2 → α3 → α4 → α5 → α6 → Prop) → Prop} (H : JJ7 B A) (jp : ∀ a0 a1 a2 a3 a4 a5 a6, ok a0 a1 a2 a3 a4 a5 a6 → B a0 a1 a2 a3 a4 a5 a6 → WP P' (enc a0 a1 a2 a3 a4 a5 a6) K) (mn : ∀ J : α0 → α1 → α2 → α3 → α4 → α5 → α6 → Prop, (∀ a0 a1 a2 a3 a4 a5 a6, ok a0 a1 a2 a3 a4 a5 a6 → J a0 a1 a2 a3 a4 a5 a6 → kk h P' K h (enc a0 a1 a2 a3 a4 a5 a6)) → A J → WP P s (kk h P' K)) : WP (jb_sq P h P') s K := wp_sq (mn B (fun a0 a1 a2 a3 a4 a5 a6 ho hb => kk_hit (jp a0 a1 a2 a3 a4 a5 a6 ho hb)) H)
def Lp8 {α0 α1 α2 α3 α4 α5 α6 α7 : Type} (B : α0 → α1 → α2 → α3 → α4 → α5 → α6 → α7 → (α0 → α1 → α2 → α3 → α4 → α5 → α6 → α7 → Prop) → Prop) (a0 : α0) (a1 : α1) (a2 : α2) (a3 : α3) (a4 : α4) (a5 : α5) (a6 : α6) (a7 : α7) : Prop := ∀ X : α0 → α1 → α2 → α3 → α4 → α5 → α6 → α7 → Prop, (∀ a0 a1 a2 a3 a4 a5 a6 a7, B a0 a1 a2 a3 a4 a5 a6 a7 X → X a0 a1 a2 a3 a4 a5 a6 a7) → X a0 a1 a2 a3 a4 a5 a6 a7
theorem wp_lp8 {α0 α1 α2 α3 α4 α5 α6 α7 : Type} {h : Nat} {P : JP} {K : Nat → JS → Prop} (enc : α0 → α1 → α2 → α3 → α4 → α5 → α6 → α7 → JS) {B : α0 → α1 → α2 → α3 → α4 → α5 → α6 → α7 → (α0 → α1 → α2 → α3 → α4 → α5 → α6 → α7 → Prop) → Prop} (a0 : α0) (a1 : α1) (a2 : α2) (a3 : α3) (a4 : α4) (a5 : α5) (a6 : α6) (a7 : α7) (H : Lp8 B a0 a1 a2 a3 a4 a5 a6 a7) (bd : ∀ a0 a1 a2 a3 a4 a5 a6 a7, B a0 a1 a2 a3 a4 a5 a6 a7 (fun a0 a1 a2 a3 a4 a5 a6 a7 => WP (jb_lp h P) (enc a0 a1 a2 a3 a4 a5 a6 a7) K) → WP P (enc a0 a1 a2 a3 a4 a5 a6 a7) (kk h (jb_lp h P) K)) : WP (jb_lp h P) (enc a0 a1 a2 a3 a4 a5 a6 a7) K := H (fun a0 a1 a2 a3 a4 a5 a6 a7 => WP (jb_lp h P) (enc a0 a1 a2 a3 a4 a5 a6 a7) K) (fun a0 a1 a2 a3 a4 a5 a6 a7 hb => wp_un (bd a0 a1 a2 a3 a4 a5 a6 a7 hb))
def JJ8 {α0 α1 α2 α3 α4 α5 α6 α7 : Type} (B : α0 → α1 → α2 → α3 → α4 → α5 → α6 → α7 → Prop) (A : (α0 → α1 → α2 → α3 → α4 → α5 → α6 → α7 → Prop) → Prop) : Prop := A B
theorem wp_j8 {α0 α1 α2 α3 α4 α5 α6 α7 : Type} {h : Nat} {P P' : JP} {s : JS} {K : Nat → JS → Prop} (enc : α0 → α1 → α2 → α3 → α4 → α5 → α6 → α7 → JS) (ok : α0 → α1 → α2 → α3 → α4 → α5 → α6 → α7 → Prop) {B : α0 → α1 → α2 → α3 → α4 → α5 → α6 → α7 → Prop} {A : (α0 → α1 → α2 → α3 → α4 → α5 → α6 → α7 → Prop) → Prop} (H : JJ8 B A) (jp : ∀ a0 a1 a2 a3 a4 a5 a6 a7, ok a0 a1 a2 a3 a4 a5 a6 a7 → B a0 a1 a2 a3 a4 a5 a6 a7 → WP P' (enc a0 a1 a2 a3 a4 a5 a6 a7) K) (mn : ∀ J : α0 → α1 → α2 → α3 → α4 → α5 → α6 → α7 → Prop, (∀ a0 a1 a2 a3 a4 a5 a6 a7, ok a0 a1 a2 a3 a4 a5 a6 a7 → J a0 a1 a2 a3 a4 a5 a6 a7 → kk h P' K h (enc a0 a1 a2 a3 a4 a5 a6 a7)) → A J → WP P s (kk h P' K)) : WP (jb_sq P h P') s K := wp_sq (mn B (fun a0 a1 a2 a3 a4 a5 a6 a7 ho hb => kk_hit (jp a0 a1 a2 a3 a4 a5 a6 a7 ho hb)) H)
def Lp9 {α0 α1 α2 α3 α4 α5 α6 α7 α8 : Type} (B : α0 → α1 → α2 → α3 → α4 → α5 → α6 → α7 → α8 → (α0 → α1 → α2 → α3 → α4 → α5 → α6 → α7 → α8 → Prop) → Prop) (a0 : α0) (a1 : α1) (a2 : α2) (a3 : α3) (a4 : α4) (a5 : α5) (a6 : α6) (a7 : α7) (a8 : α8) : Prop := ∀ X : α0 → α1 → α2 → α3 → α4 → α5 → α6 → α7 → α8 → Prop, (∀ a0 a1 a2 a3 a4 a5 a6 a7 a8, B a0 a1 a2 a3 a4 a5 a6 a7 a8 X → X a0 a1 a2 a3 a4 a5 a6 a7 a8) → X a0 a1 a2 a3 a4 a5 a6 a7 a8
theorem wp_lp9 {α0 α1 α2 α3 α4 α5 α6 α7 α8 : Type} {h : Nat} {P : JP} {K : Nat → JS → Prop} (enc : α0 → α1 → α2 → α3 → α4 → α5 → α6 → α7 → α8 → JS) {B : α0 → α1 → α2 → α3 → α4 → α5 → α6 → α7 → α8 → (α0 → α1 → α2 → α3 → α4 → α5 → α6 → α7 → α8 → Prop) → Prop} (a0 : α0) (a1 : α1) (a2 : α2) (a3 : α3) (a4 : α4) (a5 : α5) (a6 : α6) (a7 : α7) (a8 : α8) (H : Lp9 B a0 a1 a2 a3 a4 a5 a6 a7 a8) (bd : ∀ a0 a1 a2 a3 a4 a5 a6 a7 a8, B a0 a1 a2 a3 a4 a5 a6 a7 a8 (fun a0 a1 a2 a3 a4 a5 a6 a7 a8 => WP (jb_lp h P) (enc a0 a1 a2 a3 a4 a5 a6 a7 a8) K) → WP P (enc a0 a1 a2 a3 a4 a5 a6 a7 a8) (kk h (jb_lp h P) K)) : WP (jb_lp h P) (enc a0 a1 a2 a3 a4 a5 a6 a7 a8) K := H (fun a0 a1 a2 a3 a4 a5 a6 a7 a8 => WP (jb_lp h P) (enc a0 a1 a2 a3 a4 a5 a6 a7 a8) K) (fun a0 a1 a2 a3 a4 a5 a6 a7 a8 hb => wp_un (bd a0 a1 a2 a3 a4 a5 a6 a7 a8 hb))
def JJ9 {α0 α1 α2 α3 α4 α5 α6 α7 α8 : Type} (B : α0 → α1 → α2 → α3 → α4 → α5 → α6 → α7 → α8 → Prop) (A : (α0 → α1 → α2 → α3 → α4 → α5 → α6 → α7 → α8 → Prop) → Prop) : Prop := A B
theorem wp_j9 {α0 α1 α2 α3 α4 α5 α6 α7 α8 : Type} {h : Nat} {P P' : JP} {s : JS} {K : Nat → JS → Prop} (enc : α0 → α1 → α2 → α3 → α4 → α5 → α6 → α7 → α8 → JS) (ok : α0 → α1 → α2 → α3 → α4 → α5 → α6 → α7 → α8 → Prop) {B : α0 → α1 → α2 → α3 → α4 → α5 → α6 → α7 → α8 → Prop} {A : (α0 → α1 → α2 → α3 → α4 → α5 → α6 → α7 → α8 → Prop) → Prop} (H : JJ9 B A) (jp : ∀ a0 a1 a2 a3 a4 a5 a6 a7 a8, ok a0 a1 a2 a3 a4 a5 a6 a7 a8 → B a0 a1 a2 a3 a4 a5 a6 a7 a8 → WP P' (enc a0 a1 a2 a3 a4 a5 a6 a7 a8) K) (mn : ∀ J : α0 → α1 → α2 → α3 → α4 → α5 → α6 → α7 → α8 → Prop, (∀ a0 a1 a2 a3 a4 a5 a6 a7 a8, ok a0 a1 a2 a3 a4 a5 a6 a7 a8 → J a0 a1 a2 a3 a4 a5 a6 a7 a8 → kk h P' K h (enc a0 a1 a2 a3 a4 a5 a6 a7 a8)) → A J → WP P s (kk h P' K)) : WP (jb_sq P h P') s K := wp_sq (mn B (fun a0 a1 a2 a3 a4 a5 a6 a7 a8 ho hb => kk_hit (jp a0 a1 a2 a3 a4 a5 a6 a7 a8 ho hb)) H)

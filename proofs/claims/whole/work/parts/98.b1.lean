/-! ===== a cellar's lines, as functions ===== -/
section PL
variable {ts : List Nat} {n k : Nat}
/-- the cellar so far, names, who is in a ring, whether often was told, the law -/
abbrev Qs : Type := Hou × (Nat → List Nat) × (Nat → Bool) × Bool × Option Lws
abbrev qH (Q : Qs) : Hou := Q.1
abbrev qN (Q : Qs) : Nat → List Nat := Q.2.1
abbrev qR (Q : Qs) : Nat → Bool := Q.2.2.1
abbrev qO (Q : Qs) : Bool := Q.2.2.2.1
abbrev qL (Q : Qs) : Option Lws := Q.2.2.2.2
def fnd (nm : Nat → List Nat) (l : List Nat) : Nat → Option Nat
  | 0 => none
  | m + 1 => match fnd nm l m with
    | some k => some k
    | none => if nm m = l then some m else none
theorem fnd_none {nm : Nat → List Nat} {l : List Nat} : ∀ {m : Nat}, fnd nm l m = none → ∀ k, k < m → nm k ≠ l := by
  intro m
  induction m with
  | zero => intro _ k hk; exact absurd hk (Nat.not_lt_zero _)
  | succ m ih =>
    intro h k hk
    unfold fnd at h
    cases e : fnd nm l m with
    | some p => rw [e] at h; cases h
    | none =>
      rw [e] at h
      have h : (if nm m = l then some m else none) = none := h
      by_cases c : nm m = l
      · rw [if_pos c] at h; cases h
      · by_cases d : k = m
        · rw [d]; exact c
        · exact ih e k (by omega)
theorem fnd_some {nm : Nat → List Nat} {l : List Nat} {p : Nat} : ∀ {m : Nat}, fnd nm l m = some p → p < m ∧ nm p = l := by
  intro m
  induction m with
  | zero => intro h; cases h
  | succ m ih =>
    intro h
    unfold fnd at h
    cases e : fnd nm l m with
    | some k =>
      rw [e] at h
      obtain rfl := Option.some.inj h
      have := ih e
      exact ⟨by omega, this.2⟩
    | none =>
      rw [e] at h
      have h : (if nm m = l then some m else none) = some p := h
      by_cases c : nm m = l
      · rw [if_pos c] at h
        obtain rfl := Option.some.inj h
        exact ⟨Nat.lt_succ_self _, c⟩
      · rw [if_neg c] at h; cases h
def unt (ts : List Nat) (Q : Qs) (k : Nat) : Nat := if nam (tok ts k) = false then flt 1 (tok ts k) else if (fnd (qN Q) (Tl (tok ts k)) (Hn (qH Q))).isSome = true then flt 3 (tok ts k) else 0
/-- a body that was told and is of a sort -/
def tld (ts : List Nat) (nm : Nat → List Nat) (m : Nat) (F : Nat → Bool) (k : Nat) : Nat ⊕ Nat := if nam (tok ts k) = false then .inl (flt 1 (tok ts k)) else match fnd nm (Tl (tok ts k)) m with
  | none => .inl (flt 2 (tok ts k))
  | some p => if F p = true then .inr p else .inl (flt 2 (tok ts k))
def psn (ts : List Nat) (Q : Qs) (k : Nat) : Nat ⊕ Nat := tld ts (qN Q) (Hn (qH Q)) (fun p => !Hw (qH Q) p) k
def nmb (ts : List Nat) (lo hi k : Nat) : Nat ⊕ Nat := if Tk (tok ts k) = 2 then (if lo ≤ Tv (tok ts k) ∧ Tv (tok ts k) ≤ hi then .inr (Tv (tok ts k)) else .inl (flt 4 (tok ts k))) else .inl (flt 1 (tok ts k))
def kdo (T : Tok) : Option Nat := if Tk T = 1 ∧ 11 ≤ wix (Tl T) ∧ wix (Tl T) < 15 then some (wix (Tl T) - 11) else none
abbrev PQ : Type := Nat ⊕ (Nat × Qs)
def addB (Q : Qs) (l : List Nat) (c : Nat) (w : Bool) (p : Nat) : Qs := ((Hn (qH Q) + 1, up1 (Hk (qH Q)) (Hn (qH Q)) c, up1 (Hw (qH Q)) (Hn (qH Q)) w, up1 (Hp (qH Q)) (Hn (qH Q)) p, Hm (qH Q), Hb (qH Q), Hx (qH Q), Ho (qH Q)), up1 (qN Q) (Hn (qH Q)) l, qR Q, qO Q, qL Q)
def ppl (Q : Qs) : Nat := cntB (fun k => !Hw (qH Q) k) (Hn (qH Q))
def nws (Q : Qs) : Nat := cntB (Hw (qH Q)) (Hn (qH Q))
def plP (ts : List Nat) (k : Nat) (Q : Qs) : PQ := if ppl Q < 6 then (if unt ts Q (k + 1) = 0 then (match kdo (tok ts (k + 2)) with
    | none => .inl (flt 1 (tok ts (k + 2)))
    | some c => .inr (k + 3, addB Q (Tl (tok ts (k + 1))) c false 0)) else .inl (unt ts Q (k + 1))) else .inl (flt 5 (tok ts k))
def plN (ts : List Nat) (k : Nat) (Q : Qs) : PQ := if nws Q < 2 then (if unt ts Q (k + 1) = 0 then (if isW 2 (tok ts (k + 2)) = true then (match nmb ts 0 999 (k + 3) with
    | .inl e => .inl e
    | .inr v => .inr (k + 4, addB Q (Tl (tok ts (k + 1))) 0 true v)) else .inl (flt 1 (tok ts (k + 2)))) else .inl (unt ts Q (k + 1))) else .inl (flt 5 (tok ts k))
def rgQ (Q : Qs) (sz fi p : Nat) : Qs := ((Hn (qH Q), Hk (qH Q), Hw (qH Q), Hp (qH Q), (if sz = 0 then Hm (qH Q) else swp (Hm (qH Q)) fi p), Hb (qH Q), Hx (qH Q), Ho (qH Q)), qN Q, up1 (qR Q) p true, qO Q, qL Q)
def rgR (ts : List Nat) : Nat → Nat → Qs → Nat → Nat → PQ
  | 0, k, _, _, _ => .inl (flt 1 (tok ts k))
  | f + 1, k, Q, sz, fi => if 2 ≤ sz ∧ nam (tok ts k) = false then .inr (k, Q) else match psn ts Q k with
    | .inl e => .inl e
    | .inr p => if qR Q p = true then .inl (flt 3 (tok ts k)) else if sz = 6 then .inl (flt 5 (tok ts k)) else rgR ts f (k + 1) (rgQ Q sz fi p) (sz + 1) (if sz = 0 then p else fi)
def plR (ts : List Nat) (k : Nat) (Q : Qs) : PQ := rgR ts 7 (k + 1) Q 0 0
def st2 (F : Nat → Nat → Bool) (a b : Nat) : Nat → Nat → Bool := fun i j => if (i = a ∧ j = b) ∨ (i = b ∧ j = a) then true else F i j
def prQ (w : Bool) (Q : Qs) (a b : Nat) : Qs := ((Hn (qH Q), Hk (qH Q), Hw (qH Q), Hp (qH Q), Hm (qH Q), (if w = true then Hb (qH Q) else st2 (Hb (qH Q)) a b), (if w = true then st2 (Hx (qH Q)) a b else Hx (qH Q)), Ho (qH Q)), qN Q, qR Q, qO Q, qL Q)
def plB (ts : List Nat) (w : Bool) (k : Nat) (Q : Qs) : PQ := match psn ts Q (k + 1) with
  | .inl e => .inl e
  | .inr a => match psn ts Q (k + 2) with
    | .inl e => .inl e
    | .inr b => if a = b ∨ (if w = true then Hx (qH Q) a b else Hb (qH Q) a b) = true then .inl (flt 3 (tok ts (k + 2))) else .inr (k + 3, prQ w Q a b)
def ofQ (Q : Qs) (v : Nat) : Qs := ((Hn (qH Q), Hk (qH Q), Hw (qH Q), Hp (qH Q), Hm (qH Q), Hb (qH Q), Hx (qH Q), v), qN Q, qR Q, true, qL Q)
def plO (ts : List Nat) (k : Nat) (Q : Qs) : PQ := if qO Q = true then .inl (flt 3 (tok ts k)) else match nmb ts 1 9 (k + 1) with
  | .inl e => .inl e
  | .inr v => .inr (k + 2, ofQ Q v)
def lwQ (Q : Qs) (M : Lws) : Qs := (qH Q, qN Q, qR Q, qO Q, some M)
def plC (ts : List Nat) (k : Nat) (Q : Qs) : PQ := if (qL Q).isSome = true then .inl (flt 3 (tok ts k)) else match alR ts (prt ts 5) (k + 1) [] with
  | .inl e => .inl e
  | .inr q => .inr (q.1, lwQ Q q.2)
def plL (ts : List Nat) (k : Nat) (Q : Qs) : PQ := if isW 0 (tok ts k) = true then plP ts k Q else if isW 1 (tok ts k) = true then plN ts k Q else if isW 3 (tok ts k) = true then plR ts k Q else if isW 4 (tok ts k) = true then plB ts false k Q else if isW 5 (tok ts k) = true then plB ts true k Q else if isW 6 (tok ts k) = true then plO ts k Q else if isW 7 (tok ts k) = true then plC ts k Q else .inl (flt 1 (tok ts k))
def smi (ts : List Nat) (r : PQ) : PQ := match r with
  | .inl e => .inl e
  | .inr q => if isS 59 (tok ts q.1) = true then .inr (q.1 + 1, q.2) else .inl (flt 1 (tok ts q.1))
def hsR (ts : List Nat) : Nat → Nat → Qs → Nat ⊕ Qs
  | 0, _, Q => .inr Q
  | f + 1, k, Q => if Tk (tok ts k) = 0 then .inr Q else match smi ts (plL ts k Q) with
    | .inl e => .inl e
    | .inr q => hsR ts f q.1 q.2
/-! what the lines keep -/
def WQ (Q : Qs) : Prop := WH (qH Q) ∧ ppl Q ≤ 6 ∧ nws Q ≤ 2 ∧ (∀ k, k < Hn (qH Q) → okN (qN Q k) ∧ ∀ e, e < k → qN Q e ≠ qN Q k) ∧ (∀ k, Hn (qH Q) ≤ k → Hw (qH Q) k = false ∧ Hk (qH Q) k = 0 ∧ Hm (qH Q) k = k) ∧ (∀ k e, Hb (qH Q) k e = true → k < Hn (qH Q) ∧ e < Hn (qH Q)) ∧ (∀ k e, Hx (qH Q) k e = true → k < Hn (qH Q) ∧ e < Hn (qH Q)) ∧ (∀ k, qR Q k = false → Hm (qH Q) k = k) ∧ (∀ k, qR Q k = true → k < Hn (qH Q) ∧ Hw (qH Q) k = false) ∧ ∀ M, qL Q = some M → M.length ≤ 1000 ∧ okT M 0 1
theorem cnt_sum (f : Nat → Bool) (n : Nat) : cntB f n + cntB (fun k => !f k) n = n := by
  induction n with
  | zero => rfl
  | succ n ih =>
    rw [cntB_succ, cntB_succ]
    cases f n <;> simp <;> omega
theorem cnt_up {f : Nat → Bool} {n : Nat} (b : Bool) : cntB (up1 f n b) (n + 1) = cntB f n + if b = true then 1 else 0 := by
  rw [cntB_succ, up1_eq, cntB_ext (g := f) (fun k hk => up1_ne (by omega))]
theorem cnt_upn {f : Nat → Bool} {n : Nat} (b : Bool) : cntB (fun k => !up1 f n b k) (n + 1) = cntB (fun k => !f k) n + if b = true then 0 else 1 := by
  rw [cntB_succ, cntB_ext (g := fun k => !f k) (fun k hk => by rw [up1_ne (by omega)]), up1_eq]
  cases b <;> rfl
theorem WQ_add {Q : Qs} {l : List Nat} {c p : Nat} {w : Bool} (h : WQ Q) (hw : if w = true then nws Q < 2 ∧ c = 0 else ppl Q < 6 ∧ p = 0) (hc : c < 4) (hp : p < 1000) (hl : okN l) (hd : ∀ k, k < Hn (qH Q) → qN Q k ≠ l) : WQ (addB Q l c w p) := by
  obtain ⟨⟨w1, w2, w3, w4, w5, w6, w7, w8, w9, w10, w11, w12, w13⟩, g2, g3, g4, g5, g6, g7, g8, g9, g10⟩ := h
  have hs := cnt_sum (Hw (qH Q)) (Hn (qH Q))
  have e1 : ppl Q = cntB (fun k => !Hw (qH Q) k) (Hn (qH Q)) := rfl
  have e2 : nws Q = cntB (Hw (qH Q)) (Hn (qH Q)) := rfl
  have hp' : ppl (addB Q l c w p) = ppl Q + if w = true then 0 else 1 := cnt_upn w
  have hn' : nws (addB Q l c w p) = nws Q + if w = true then 1 else 0 := cnt_up w
  have n7 : Hn (qH Q) ≤ 7 := by cases w <;> simp at hw <;> omega
  have hne : ∀ k, k < Hn (qH Q) + 1 → k ≠ Hn (qH Q) → k < Hn (qH Q) := fun k h1 h2 => by omega
  refine ⟨⟨by show Hn (qH Q) + 1 ≤ 8; omega, w2, w3, fun k hk => ?_, fun k hk => ?_, ⟨fun k hk => ?_, fun k hk e he heq => ?_⟩, fun k hk hk2 => ?_, w8, w9, fun k hk hk2 => ?_, w11, w12, fun k hk hk2 => ?_⟩, ?_, ?_, fun k hk => ?_, fun k hk => ?_, fun k e he => ?_, fun k e he => ?_, g8, fun k hk => ?_, g10⟩
  · show up1 (Hk (qH Q)) (Hn (qH Q)) c k < 4
    by_cases q : k = Hn (qH Q)
    · rw [q, up1_eq]; exact hc
    · rw [up1_ne q]; exact w4 k (hne k hk q)
  · show up1 (Hp (qH Q)) (Hn (qH Q)) p k < 1000
    by_cases q : k = Hn (qH Q)
    · rw [q, up1_eq]; exact hp
    · rw [up1_ne q]; exact w5 k (hne k hk q)
  · show Hm (qH Q) k < Hn (qH Q) + 1
    by_cases q : k = Hn (qH Q)
    · rw [q, (g5 _ (Nat.le_refl _)).2.2]; omega
    · have := w6.1 k (hne k hk q); omega
  · have heq : Hm (qH Q) k = Hm (qH Q) e := heq
    by_cases q : k = Hn (qH Q)
    · by_cases r : e = Hn (qH Q)
      · omega
      · have := w6.1 e (hne e he r)
        rw [q, (g5 _ (Nat.le_refl _)).2.2] at heq
        omega
    · by_cases r : e = Hn (qH Q)
      · have := w6.1 k (hne k hk q)
        rw [r, (g5 _ (Nat.le_refl _)).2.2] at heq
        omega
      · exact w6.2 k (hne k hk q) e (hne e he r) heq
  · show Hm (qH Q) k = k
    have hk2 : up1 (Hw (qH Q)) (Hn (qH Q)) w k = true := hk2
    by_cases q : k = Hn (qH Q)
    · rw [q, (g5 _ (Nat.le_refl _)).2.2]
    · rw [up1_ne q] at hk2; exact w7 k (hne k hk q) hk2
  · show up1 (Hp (qH Q)) (Hn (qH Q)) p k = 0
    have hk2 : up1 (Hw (qH Q)) (Hn (qH Q)) w k = false := hk2
    by_cases q : k = Hn (qH Q)
    · rw [q, up1_eq] at hk2 ⊢
      rw [hk2] at hw
      simp at hw
      exact hw.2
    · rw [up1_ne q] at hk2 ⊢; exact w10 k (hne k hk q) hk2
  · show up1 (Hk (qH Q)) (Hn (qH Q)) c k = 0
    have hk2 : up1 (Hw (qH Q)) (Hn (qH Q)) w k = true := hk2
    by_cases q : k = Hn (qH Q)
    · rw [q, up1_eq] at hk2 ⊢
      rw [hk2] at hw
      simp at hw
      exact hw.2
    · rw [up1_ne q] at hk2 ⊢; exact w13 k (hne k hk q) hk2
  · rw [hp']; cases w <;> simp at hw ⊢ <;> omega
  · rw [hn']; cases w <;> simp at hw ⊢ <;> omega
  · show okN (up1 (qN Q) (Hn (qH Q)) l k) ∧ ∀ e, e < k → up1 (qN Q) (Hn (qH Q)) l e ≠ up1 (qN Q) (Hn (qH Q)) l k
    by_cases q : k = Hn (qH Q)
    · rw [q, up1_eq]
      exact ⟨hl, fun e he => by rw [up1_ne (by omega)]; exact hd e he⟩
    · rw [up1_ne q]
      have := g4 k (hne k hk q)
      exact ⟨this.1, fun e he => by rw [up1_ne (by have := hne k hk q; omega)]; exact this.2 e he⟩
  · have hk : Hn (qH Q) + 1 ≤ k := hk
    show up1 (Hw (qH Q)) (Hn (qH Q)) w k = false ∧ up1 (Hk (qH Q)) (Hn (qH Q)) c k = 0 ∧ Hm (qH Q) k = k
    rw [up1_ne (by omega), up1_ne (by omega)]
    exact g5 k (by omega)
  · have := g6 k e he
    show k < Hn (qH Q) + 1 ∧ e < Hn (qH Q) + 1
    omega
  · have := g7 k e he
    show k < Hn (qH Q) + 1 ∧ e < Hn (qH Q) + 1
    omega
  · have := g9 k hk
    refine ⟨by show k < Hn (qH Q) + 1; omega, ?_⟩
    show up1 (Hw (qH Q)) (Hn (qH Q)) w k = false
    rw [up1_ne (by omega)]
    exact this.2
theorem WQ_rg {Q : Qs} {sz fi p : Nat} (h : WQ Q) (hp : p < Hn (qH Q)) (hw : Hw (qH Q) p = false) (hr : qR Q p = false) (hf : sz ≠ 0 → fi < Hn (qH Q) ∧ qR Q fi = true) : WQ (rgQ Q sz fi p) := by
  obtain ⟨⟨w1, w2, w3, w4, w5, w6, w7, w8, w9, w10, w11, w12, w13⟩, g2, g3, g4, g5, g6, g7, g8, g9, g10⟩ := h
  have em : ∀ k, k ≠ p → (sz ≠ 0 → k ≠ fi) → (if sz = 0 then Hm (qH Q) else swp (Hm (qH Q)) fi p) k = Hm (qH Q) k := by
    intro k h1 h2
    by_cases c : sz = 0
    · rw [if_pos c]
    · rw [if_neg c, swp_o (h2 c) h1]
  refine ⟨⟨w1, w2, w3, w4, w5, ?_, fun k hk hk2 => ?_, w8, w9, w10, w11, w12, w13⟩, g2, g3, g4, fun k hk => ?_, g6, g7, fun k hk => ?_, fun k hk => ?_, g10⟩
  · show Pn (if sz = 0 then Hm (qH Q) else swp (Hm (qH Q)) fi p) (Hn (qH Q))
    by_cases c : sz = 0
    · rw [if_pos c]; exact w6
    · rw [if_neg c]; exact Pn_swp w6 (hf c).1 hp
  · show (if sz = 0 then Hm (qH Q) else swp (Hm (qH Q)) fi p) k = k
    have hk2 : Hw (qH Q) k = true := hk2
    rw [em k (fun q => by rw [q, hw] at hk2; cases hk2) (fun c q => by rw [q, (g9 fi (hf c).2).2] at hk2; cases hk2)]
    exact w7 k hk hk2
  · have hk : Hn (qH Q) ≤ k := hk
    refine ⟨(g5 k hk).1, (g5 k hk).2.1, ?_⟩
    show (if sz = 0 then Hm (qH Q) else swp (Hm (qH Q)) fi p) k = k
    rw [em k (by omega) (fun c => by have := (hf c).1; omega)]
    exact (g5 k hk).2.2
  · have hk : up1 (qR Q) p true k = false := hk
    show (if sz = 0 then Hm (qH Q) else swp (Hm (qH Q)) fi p) k = k
    have kp : k ≠ p := fun q => by rw [q, up1_eq] at hk; cases hk
    rw [up1_ne kp] at hk
    rw [em k kp (fun c q => by rw [q, (hf c).2] at hk; cases hk)]
    exact g8 k hk
  · have hk : up1 (qR Q) p true k = true := hk
    by_cases q : k = p
    · rw [q]; exact ⟨hp, hw⟩
    · rw [up1_ne q] at hk; exact g9 k hk
theorem st2_sy {F : Nat → Nat → Bool} {a b : Nat} (h : ∀ k e, F k e = F e k) : ∀ k e, st2 F a b k e = st2 F a b e k := by
  intro k e
  unfold st2
  by_cases c : (k = a ∧ e = b) ∨ (k = b ∧ e = a)
  · rw [if_pos c, if_pos (by omega)]
  · rw [if_neg c, if_neg (by omega)]; exact h k e
theorem st2_ir {F : Nat → Nat → Bool} {a b : Nat} (hab : a ≠ b) (h : ∀ k, F k k = false) : ∀ k, st2 F a b k k = false := by
  intro k
  unfold st2
  rw [if_neg (by omega)]
  exact h k
theorem st2_lt {F : Nat → Nat → Bool} {a b m : Nat} (ha : a < m) (hb : b < m) (h : ∀ k e, F k e = true → k < m ∧ e < m) : ∀ k e, st2 F a b k e = true → k < m ∧ e < m := by
  intro k e
  unfold st2
  by_cases c : (k = a ∧ e = b) ∨ (k = b ∧ e = a)
  · intro _; omega
  · rw [if_neg c]; exact h k e
theorem WQ_pr {Q : Qs} {w : Bool} {a b : Nat} (h : WQ Q) (ha : a < Hn (qH Q)) (hb : b < Hn (qH Q)) (hab : a ≠ b) : WQ (prQ w Q a b) := by
  obtain ⟨⟨w1, w2, w3, w4, w5, w6, w7, w8, w9, w10, w11, w12, w13⟩, g2, g3, g4, g5, g6, g7, g8, g9, g10⟩ := h
  cases w
  · exact ⟨⟨w1, w2, w3, w4, w5, w6, w7, w8, st2_sy w9, w10, w11, st2_ir hab w12, w13⟩, g2, g3, g4, g5, st2_lt ha hb g6, g7, g8, g9, g10⟩
  · exact ⟨⟨w1, w2, w3, w4, w5, w6, w7, st2_sy w8, w9, w10, st2_ir hab w11, w12, w13⟩, g2, g3, g4, g5, g6, st2_lt ha hb g7, g8, g9, g10⟩
theorem WQ_of {Q : Qs} {v : Nat} (h : WQ Q) (h1 : 1 ≤ v) (h2 : v < 10) : WQ (ofQ Q v) := by
  obtain ⟨⟨w1, w2, w3, w4, w5, w6, w7, w8, w9, w10, w11, w12, w13⟩, g2, g3, g4, g5, g6, g7, g8, g9, g10⟩ := h
  exact ⟨⟨w1, h2, h1, w4, w5, w6, w7, w8, w9, w10, w11, w12, w13⟩, g2, g3, g4, g5, g6, g7, g8, g9, g10⟩
theorem WQ_lw {Q : Qs} {M : Lws} (h : WQ Q) (h1 : M.length ≤ 1000) (h2 : okT M 0 1) : WQ (lwQ Q M) := by
  obtain ⟨g1, g2, g3, g4, g5, g6, g7, g8, g9, g10⟩ := h
  exact ⟨g1, g2, g3, g4, g5, g6, g7, g8, g9, fun M' e => by cases e; exact ⟨h1, h2⟩⟩
/-- a line of a told cellar ends further on, in a sound cellar -/
def okQ (n k : Nat) (r : PQ) : Prop := match r with
  | .inl e => 1 ≤ e ∧ e < 20000
  | .inr q => k < q.1 ∧ q.1 ≤ n ∧ WQ q.2
theorem tld_ok {nm : Nat → List Nat} {m : Nat} {F : Nat → Bool} (ok : okTp ts) : (∀ e, tld ts nm m F k = .inl e → 1 ≤ e ∧ e < 20000) ∧ ∀ p, tld ts nm m F k = .inr p → nam (tok ts k) = true ∧ p < m ∧ nm p = Tl (tok ts k) ∧ F p = true := by
  unfold tld
  by_cases c : nam (tok ts k) = false
  · rw [if_pos c]
    exact ⟨fun e h => by cases h; exact ⟨flt_pos (by omega), flt_lt ok (by omega)⟩, fun p h => by cases h⟩
  · rw [if_neg c]
    cases hf : fnd nm (Tl (tok ts k)) m with
    | none => exact ⟨fun e h => by cases h; exact ⟨flt_pos (by omega), flt_lt ok (by omega)⟩, fun p h => by cases h⟩
    | some p =>
      have := fnd_some hf
      show (∀ e, (if F p = true then Sum.inr p else Sum.inl (flt 2 (tok ts k))) = .inl e → 1 ≤ e ∧ e < 20000) ∧ ∀ q, (if F p = true then Sum.inr p else Sum.inl (flt 2 (tok ts k))) = .inr q → nam (tok ts k) = true ∧ q < m ∧ nm q = Tl (tok ts k) ∧ F q = true
      by_cases d : F p = true
      · rw [if_pos d]
        exact ⟨fun e h => (by cases h), fun q h => by cases h; exact ⟨by simpa using c, this.1, this.2, d⟩⟩
      · rw [if_neg d]
        exact ⟨fun e h => by cases h; exact ⟨flt_pos (by omega), flt_lt ok (by omega)⟩, fun q h => by cases h⟩
theorem nmb_ok {lo hi : Nat} (ok : okTp ts) : (∀ e, nmb ts lo hi k = .inl e → 1 ≤ e ∧ e < 20000) ∧ ∀ v, nmb ts lo hi k = .inr v → Tk (tok ts k) = 2 ∧ Tv (tok ts k) = v ∧ lo ≤ v ∧ v ≤ hi := by
  unfold nmb
  by_cases c : Tk (tok ts k) = 2
  · rw [if_pos c]
    by_cases d : lo ≤ Tv (tok ts k) ∧ Tv (tok ts k) ≤ hi
    · rw [if_pos d]
      exact ⟨fun e h => (by cases h), fun v h => by cases h; exact ⟨c, rfl, d⟩⟩
    · rw [if_neg d]
      exact ⟨fun e h => by cases h; exact ⟨flt_pos (by omega), flt_lt ok (by omega)⟩, fun p h => by cases h⟩
  · rw [if_neg c]
    exact ⟨fun e h => by cases h; exact ⟨flt_pos (by omega), flt_lt ok (by omega)⟩, fun p h => by cases h⟩
theorem unt_ok {Q : Qs} (ok : okTp ts) : unt ts Q k < 20000 ∧ (unt ts Q k = 0 → nam (tok ts k) = true ∧ okN (Tl (tok ts k)) ∧ ∀ e, e < Hn (qH Q) → qN Q e ≠ Tl (tok ts k)) := by
  unfold unt
  by_cases c : nam (tok ts k) = false
  · rw [if_pos c]
    exact ⟨flt_lt ok (by omega), fun h => by have := flt_pos (T := tok ts k) (f := 1) (by omega); omega⟩
  · rw [if_neg c]
    rw [Bool.not_eq_false] at c
    cases hf : fnd (qN Q) (Tl (tok ts k)) (Hn (qH Q)) with
    | some p =>
      rw [if_pos (show (some p).isSome = true from rfl)]
      exact ⟨flt_lt ok (by omega), fun h => by have := flt_pos (T := tok ts k) (f := 3) (by omega); omega⟩
    | none =>
      rw [if_neg (by decide)]
      refine ⟨by omega, fun _ => ⟨c, ?_, fnd_none hf⟩⟩
      obtain ⟨k1, k2, k3, k4, -⟩ := (tok_ok ok k).1
      unfold nam at c
      simp at c
      refine ⟨?_, k2, k1⟩
      rcases hl : Tl (tok ts k) with _ | ⟨x, xs⟩
      · exact absurd hl (k4 c.1)
      · exact Nat.succ_le_succ (Nat.zero_le _)
end PL

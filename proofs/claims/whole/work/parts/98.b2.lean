section PL2
variable {ts : List Nat} {n k : Nat} {Q : Qs}
theorem okQ_f {f : Nat} (ok : okTp ts) {k' : Nat} (h : 1 ≤ f ∧ f ≤ 5) : okQ n k (.inl (flt f (tok ts k'))) := ⟨flt_pos h.1, flt_lt ok h.2⟩
theorem plP_ok (ok : okTp ts) (hn : Tk (tok ts n) = 0) (hk : k ≤ n) (h0 : Tk (tok ts k) ≠ 0) (hQ : WQ Q) : okQ n k (plP ts k Q) := by
  unfold plP
  have h1 := tk_lt hn hk h0
  by_cases c : ppl Q < 6
  · rw [if_pos c]
    have hu := unt_ok (Q := Q) (k := k + 1) ok
    by_cases d : unt ts Q (k + 1) = 0
    · rw [if_pos d]
      obtain ⟨u1, u2, u3⟩ := hu.2 d
      have h2 := tk_lt hn h1 (nam_k u1)
      cases e : kdo (tok ts (k + 2)) with
      | none => exact okQ_f ok (by omega)
      | some c' =>
        unfold kdo at e
        by_cases g : Tk (tok ts (k + 2)) = 1 ∧ 11 ≤ wix (Tl (tok ts (k + 2))) ∧ wix (Tl (tok ts (k + 2))) < 15
        · rw [if_pos g] at e
          obtain rfl := Option.some.inj e
          have h3 := tk_lt (k := k + 2) hn h2 (by omega)
          exact ⟨by show k < k + 3; omega, h3, WQ_add hQ (by simp; exact c) (by omega) (by omega) u2 u3⟩
        · rw [if_neg g] at e; cases e
    · rw [if_neg d]
      exact ⟨by omega, hu.1⟩
  · rw [if_neg c]
    exact okQ_f ok (by omega)
theorem plN_ok (ok : okTp ts) (hn : Tk (tok ts n) = 0) (hk : k ≤ n) (h0 : Tk (tok ts k) ≠ 0) (hQ : WQ Q) : okQ n k (plN ts k Q) := by
  unfold plN
  have h1 := tk_lt hn hk h0
  by_cases c : nws Q < 2
  · rw [if_pos c]
    have hu := unt_ok (Q := Q) (k := k + 1) ok
    by_cases d : unt ts Q (k + 1) = 0
    · rw [if_pos d]
      obtain ⟨u1, u2, u3⟩ := hu.2 d
      have h2 := tk_lt hn h1 (nam_k u1)
      by_cases g : isW 2 (tok ts (k + 2)) = true
      · rw [if_pos g]
        have h3 := tk_lt hn h2 (isW_k g)
        obtain ⟨n1, n2⟩ := nmb_ok (lo := 0) (hi := 999) (k := k + 3) ok
        cases e : nmb ts 0 999 (k + 3) with
        | inl x => exact n1 x e
        | inr v =>
          obtain ⟨v1, v2, v3, v4⟩ := n2 v e
          have h4 := tk_lt (k := k + 3) hn h3 (by omega)
          exact ⟨by show k < k + 4; omega, h4, WQ_add hQ (by simp; exact c) (by omega) (by omega) u2 u3⟩
      · rw [if_neg g]
        exact okQ_f ok (by omega)
    · rw [if_neg d]
      exact ⟨by omega, hu.1⟩
  · rw [if_neg c]
    exact okQ_f ok (by omega)
theorem psn_ok (ok : okTp ts) : (∀ e, psn ts Q k = .inl e → 1 ≤ e ∧ e < 20000) ∧ ∀ p, psn ts Q k = .inr p → nam (tok ts k) = true ∧ p < Hn (qH Q) ∧ qN Q p = Tl (tok ts k) ∧ Hw (qH Q) p = false := by
  obtain ⟨a, b⟩ := tld_ok (nm := qN Q) (m := Hn (qH Q)) (F := fun p => !Hw (qH Q) p) (k := k) ok
  exact ⟨a, fun p h => by
    obtain ⟨b1, b2, b3, b4⟩ := b p h
    exact ⟨b1, b2, b3, by simpa using b4⟩⟩
theorem rgR_ok (ok : okTp ts) (hn : Tk (tok ts n) = 0) : ∀ (f k1 : Nat) (Q : Qs) (sz fi : Nat), k < k1 → k1 ≤ n → WQ Q → (sz ≠ 0 → fi < Hn (qH Q) ∧ qR Q fi = true) → okQ n k (rgR ts f k1 Q sz fi) := by
  intro f
  induction f with
  | zero => intro k1 Q sz fi _ _ _ _; exact okQ_f ok (by omega)
  | succ f ih =>
    intro k1 Q sz fi h1 h2 hQ hf
    unfold rgR
    by_cases c : 2 ≤ sz ∧ nam (tok ts k1) = false
    · rw [if_pos c]; exact ⟨h1, h2, hQ⟩
    · rw [if_neg c]
      obtain ⟨p1, p2⟩ := psn_ok (Q := Q) (k := k1) ok
      cases e : psn ts Q k1 with
      | inl x => exact p1 x e
      | inr p =>
        obtain ⟨v1, v2, v3, v4⟩ := p2 p e
        show okQ n k (if qR Q p = true then .inl (flt 3 (tok ts k1)) else if sz = 6 then .inl (flt 5 (tok ts k1)) else rgR ts f (k1 + 1) (rgQ Q sz fi p) (sz + 1) (if sz = 0 then p else fi))
        by_cases d : qR Q p = true
        · rw [if_pos d]; exact okQ_f ok (by omega)
        · rw [if_neg d]
          rw [Bool.not_eq_true] at d
          by_cases g : sz = 6
          · rw [if_pos g]; exact okQ_f ok (by omega)
          · rw [if_neg g]
            refine ih (k1 + 1) _ _ _ (by omega) (tk_lt hn h2 (nam_k v1)) (WQ_rg hQ v2 v4 d hf) (fun _ => ?_)
            by_cases z : sz = 0
            · rw [if_pos z]; exact ⟨v2, up1_eq _ _ _⟩
            · rw [if_neg z]
              refine ⟨(hf z).1, ?_⟩
              show up1 (qR Q) p true fi = true
              by_cases w : fi = p
              · rw [w, up1_eq]
              · rw [up1_ne w]; exact (hf z).2
theorem plB_ok {w : Bool} (ok : okTp ts) (hn : Tk (tok ts n) = 0) (hk : k ≤ n) (h0 : Tk (tok ts k) ≠ 0) (hQ : WQ Q) : okQ n k (plB ts w k Q) := by
  unfold plB
  have h1 := tk_lt hn hk h0
  obtain ⟨p1, p2⟩ := psn_ok (Q := Q) (k := k + 1) ok
  obtain ⟨q1, q2⟩ := psn_ok (Q := Q) (k := k + 2) ok
  cases e : psn ts Q (k + 1) with
  | inl x => exact p1 x e
  | inr a =>
    obtain ⟨v1, v2, v3, v4⟩ := p2 a e
    have h2 := tk_lt hn h1 (nam_k v1)
    show okQ n k (match psn ts Q (k + 2) with
      | .inl e => .inl e
      | .inr b => if a = b ∨ (if w = true then Hx (qH Q) a b else Hb (qH Q) a b) = true then .inl (flt 3 (tok ts (k + 2))) else .inr (k + 3, prQ w Q a b))
    cases e2 : psn ts Q (k + 2) with
    | inl x => exact q1 x e2
    | inr b =>
      obtain ⟨u1, u2, u3, u4⟩ := q2 b e2
      have h3 := tk_lt hn h2 (nam_k u1)
      show okQ n k (if a = b ∨ (if w = true then Hx (qH Q) a b else Hb (qH Q) a b) = true then .inl (flt 3 (tok ts (k + 2))) else .inr (k + 3, prQ w Q a b))
      by_cases c : a = b ∨ (if w = true then Hx (qH Q) a b else Hb (qH Q) a b) = true
      · rw [if_pos c]; exact okQ_f ok (by omega)
      · rw [if_neg c]
        exact ⟨by show k < k + 3; omega, h3, WQ_pr hQ v2 u2 (fun z => c (Or.inl z))⟩
theorem plO_ok (ok : okTp ts) (hn : Tk (tok ts n) = 0) (hk : k ≤ n) (h0 : Tk (tok ts k) ≠ 0) (hQ : WQ Q) : okQ n k (plO ts k Q) := by
  unfold plO
  have h1 := tk_lt hn hk h0
  by_cases c : qO Q = true
  · rw [if_pos c]; exact okQ_f ok (by omega)
  · rw [if_neg c]
    obtain ⟨n1, n2⟩ := nmb_ok (lo := 1) (hi := 9) (k := k + 1) ok
    cases e : nmb ts 1 9 (k + 1) with
    | inl x => exact n1 x e
    | inr v =>
      obtain ⟨v1, v2, v3, v4⟩ := n2 v e
      exact ⟨by show k < k + 2; omega, tk_lt hn h1 (by omega), WQ_of hQ (by omega) (by omega)⟩
theorem plC_ok (ok : okTp ts) (hn : Tk (tok ts n) = 0) (hn1 : n ≤ 1000) (hk : k ≤ n) (h0 : Tk (tok ts k) ≠ 0) (hQ : WQ Q) : okQ n k (plC ts k Q) := by
  unfold plC
  have h1 := tk_lt hn hk h0
  by_cases c : (qL Q).isSome = true
  · rw [if_pos c]; exact okQ_f ok (by omega)
  · rw [if_neg c]
    have hp := alR_ok (B := 0) hn (okF_le (by omega) (prt_ok ok hn 5 (by omega))) (k + 1) [] h1
    cases e : alR ts (prt ts 5) (k + 1) [] with
    | inl x => rw [e] at hp; exact hp
    | inr q =>
      rw [e] at hp
      have hl := okR_l hp (Nat.zero_le _)
      obtain ⟨z1, z2, ys, z3, z4, z5⟩ := hp
      exact ⟨by show k < q.1; omega, z2, WQ_lw hQ (by omega) (by rw [z3]; exact z5 0 (by omega))⟩
theorem plL_ok (ok : okTp ts) (hn : Tk (tok ts n) = 0) (hn1 : n ≤ 1000) (hk : k ≤ n) (h0 : Tk (tok ts k) ≠ 0) (hQ : WQ Q) : okQ n k (plL ts k Q) := by
  unfold plL
  by_cases c : isW 0 (tok ts k) = true
  · rw [if_pos c]; exact plP_ok ok hn hk h0 hQ
  rw [if_neg c]
  by_cases c : isW 1 (tok ts k) = true
  · rw [if_pos c]; exact plN_ok ok hn hk h0 hQ
  rw [if_neg c]
  by_cases c : isW 3 (tok ts k) = true
  · rw [if_pos c]; exact rgR_ok ok hn 7 (k + 1) Q 0 0 (by omega) (tk_lt hn hk h0) hQ (fun h => absurd rfl h)
  rw [if_neg c]
  by_cases c : isW 4 (tok ts k) = true
  · rw [if_pos c]; exact plB_ok ok hn hk h0 hQ
  rw [if_neg c]
  by_cases c : isW 5 (tok ts k) = true
  · rw [if_pos c]; exact plB_ok ok hn hk h0 hQ
  rw [if_neg c]
  by_cases c : isW 6 (tok ts k) = true
  · rw [if_pos c]; exact plO_ok ok hn hk h0 hQ
  rw [if_neg c]
  by_cases c : isW 7 (tok ts k) = true
  · rw [if_pos c]; exact plC_ok ok hn hn1 hk h0 hQ
  rw [if_neg c]
  exact okQ_f ok (by omega)
theorem smi_ok {r : PQ} (ok : okTp ts) (hn : Tk (tok ts n) = 0) (h : okQ n k r) : okQ n k (smi ts r) := by
  cases r with
  | inl e => exact h
  | inr q =>
    obtain ⟨h1, h2, h3⟩ := h
    show okQ n k (if isS 59 (tok ts q.1) = true then .inr (q.1 + 1, q.2) else .inl (flt 1 (tok ts q.1)))
    by_cases c : isS 59 (tok ts q.1) = true
    · rw [if_pos c]; exact ⟨by show k < q.1 + 1; omega, tk_lt hn h2 (isS_k c), h3⟩
    · rw [if_neg c]; exact okQ_f ok (by omega)
/-- there is an end -/
theorem tok_n (ok : okTp ts) : ∃ n, n ≤ 1000 ∧ Tk (tok ts n) = 0 := by
  refine Classical.byContradiction (fun h => ?_)
  have hall : ∀ n, n ≤ 1000 → Tk (tok ts n) ≠ 0 := fun n hn q => h ⟨n, hn, q⟩
  have : ∀ m, m ≤ 1001 → m ≤ psq ts m := by
    intro m
    induction m with
    | zero => intro _; exact Nat.zero_le _
    | succ m ih =>
      intro hm
      have h1 := ih (by omega)
      have h2 := (tok_ok ok m).2.2.2.2 (hall m (by omega))
      omega
  have h1 := this 1001 (by omega)
  have h2 := psq_le ok 1001
  have h3 := ok.1
  omega
/-! the empty cellar -/
def H00 : Hou := (0, (fun _ => 0), (fun _ => false), (fun _ => 0), (fun k => k), (fun _ _ => false), (fun _ _ => false), 9)
def Q00 : Qs := (H00, (fun _ => []), (fun _ => false), false, none)
theorem WQ_00 : WQ Q00 := by
  refine ⟨⟨Nat.zero_le _, by show 9 < 10; omega, by show 1 ≤ 9; omega, fun k hk => absurd hk (Nat.not_lt_zero _), fun k hk => absurd hk (Nat.not_lt_zero _), ⟨fun k hk => absurd hk (Nat.not_lt_zero _), fun k hk => absurd hk (Nat.not_lt_zero _)⟩, fun k hk => absurd hk (Nat.not_lt_zero _), fun k e => rfl, fun k e => rfl, fun k hk => absurd hk (Nat.not_lt_zero _), fun k => rfl, fun k => rfl, fun k hk => absurd hk (Nat.not_lt_zero _)⟩, Nat.zero_le _, Nat.zero_le _, fun k hk => absurd hk (Nat.not_lt_zero _), fun k hk => ⟨rfl, rfl, rfl⟩, fun k e h => (by cases h), fun k e h => (by cases h), fun k h => rfl, fun k h => (by cases h), fun M h => (by cases h)⟩
theorem hsR_ok (ok : okTp ts) (hn : Tk (tok ts n) = 0) (hn1 : n ≤ 1000) : ∀ (f k : Nat) (Q : Qs), k ≤ n → WQ Q → match hsR ts f k Q with
    | .inl e => 1 ≤ e ∧ e < 20000
    | .inr Q' => WQ Q' := by
  intro f
  induction f with
  | zero => intro k Q _ hQ; exact hQ
  | succ f ih =>
    intro k Q hk hQ
    unfold hsR
    by_cases c : Tk (tok ts k) = 0
    · rw [if_pos c]; exact hQ
    · rw [if_neg c]
      have h := smi_ok ok hn (plL_ok ok hn hn1 hk c hQ)
      cases e : smi ts (plL ts k Q) with
      | inl x => rw [e] at h; exact h
      | inr q => rw [e] at h; exact ih q.1 q.2 h.2.1 h.2.2
end PL2

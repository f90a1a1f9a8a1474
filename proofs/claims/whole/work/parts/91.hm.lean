/-! ===== who is home when: the turns played through ===== -/
section HM
variable {f : Nat → Nat} {n k p : Nat}
abbrev Hst : Type := (Nat → Nat) × Option Nat
def hmS (p : Nat) (st : Hst) (idx : Nat) (q : Nat × Nat) : Hst := (swp st.1 q.1 q.2, if swp st.1 q.1 q.2 p = p then (match st.2 with | some r => some r | none => some (idx + 1)) else none)
def hmR (p : Nat) : List (Nat × Nat) → Nat → Hst → Hst
  | [], _, st => st
  | q :: l, i, st => hmR p l (i + 1) (hmS p st i q)
theorem hmR_app (p : Nat) : ∀ (l m : List (Nat × Nat)) (i : Nat) (st : Hst), hmR p (l ++ m) i st = hmR p m (i + l.length) (hmR p l i st) := by
  intro l
  induction l with
  | nil => intro m i st; rfl
  | cons q l ih =>
    intro m i st
    show hmR p (l ++ m) (i + 1) (hmS p st i q) = hmR p m (i + (l.length + 1)) (hmR p l (i + 1) (hmS p st i q))
    rw [ih, show i + 1 + l.length = i + (l.length + 1) by omega]
def hmI (p : Nat) (st : Hst) (hb : Nat → Nat) : Prop := st.2 = if st.1 p = p then some (hb p) else none
theorem hm_step {st : Hst} {hb hb' : Nat → Nat} {idx : Nat} {q : Nat × Nat} (h : hmI p st hb) (h1 : swp st.1 q.1 q.2 p = p → st.1 p = p → hb' p = hb p) (h2 : swp st.1 q.1 q.2 p = p → st.1 p ≠ p → hb' p = idx + 1) : hmI p (hmS p st idx q) hb' := by
  unfold hmI at h ⊢
  show (if swp st.1 q.1 q.2 p = p then (match st.2 with | some r => some r | none => some (idx + 1)) else none) = if swp st.1 q.1 q.2 p = p then some (hb' p) else none
  by_cases c : swp st.1 q.1 q.2 p = p
  · rw [if_pos c, if_pos c]
    by_cases d : st.1 p = p
    · rw [if_pos d] at h; rw [h, h1 c d]
    · rw [if_neg d] at h; rw [h, h2 c d]
  · rw [if_neg c, if_neg c]
theorem ring_X {s l0 X0 Y0 : Nat} {hb : Nat → Nat} {a : Nat → Nat} {v : Option Nat} (hp8 : p < 8) (hc : ∀ m, m < s → itr f m k < 8) (inj : ∀ i j, i < s → j < s → itr f i k = itr f j k → i = j) (a8 : a 8 = X0) (a9 : a 9 = Y0) (ac : ∀ m, m < s → a (itr f m k) = itr f (m + 1) k) (hX : 8 ≤ X0) (hi : hmI p (a, v) hb) :
    ∀ j, j + 1 ≤ s → ∀ st, st = hmR p ((List.range j).map (fun i => (8, itr f i k))) l0 (a, v) → st.1 8 = (if j = 0 then X0 else itr f j k) ∧ st.1 9 = Y0 ∧ (∀ m, j ≤ m → m < s → st.1 (itr f m k) = itr f (m + 1) k) ∧ (1 ≤ j → st.1 k = X0) ∧ (∀ m, 1 ≤ m → m < j → st.1 (itr f m k) = itr f m k) ∧ (∀ y, y < 8 → (∀ m, m < s → y ≠ itr f m k) → st.1 y = a y) ∧ hmI p st (hb1 f k l0 hb j) := by
  intro j
  induction j with
  | zero =>
    intro _ st e
    have e : st = (a, v) := e
    subst e
    exact ⟨a8, a9, fun m _ h => ac m h, fun h => by omega, fun m h1 h2 => by omega, fun y _ _ => rfl, hi⟩
  | succ j ih =>
    intro hj st e
    obtain ⟨b8, b9, b1, b2, b3, b4, b5⟩ := ih (by omega) _ rfl
    rw [rg_map, hmR_app, List.length_map, List.length_range] at e
    generalize hmR p ((List.range j).map (fun i => (8, itr f i k))) l0 (a, v) = st0 at b8 b9 b1 b2 b3 b4 b5 e
    have e : st = hmS p st0 (l0 + j) (8, itr f j k) := e
    subst e
    have hcj := hc j (by omega)
    have cne : itr f (j + 1) k ≠ itr f j k := fun q => by have := inj (j + 1) j (by omega) (by omega) q; omega
    refine ⟨?_, ?_, fun m h1 h2 => ?_, fun _ => ?_, fun m h1 h2 => ?_, fun y h1 h2 => ?_, hm_step b5 (fun q1 q2 => ?_) (fun q1 q2 => ?_)⟩
    · show swp st0.1 8 (itr f j k) 8 = _
      rw [swp_k, b1 j (Nat.le_refl _) (by omega), if_neg (by omega)]
    · show swp st0.1 8 (itr f j k) 9 = _
      rw [swp_o (by omega) (by omega), b9]
    · show swp st0.1 8 (itr f j k) (itr f m k) = _
      have := hc m h2
      rw [swp_o (by omega) (fun q => by have := inj m j h2 (by omega) q; omega), b1 m (by omega) h2]
    · show swp st0.1 8 (itr f j k) k = _
      have hk8 : itr f 0 k < 8 := hc 0 (by omega)
      by_cases c : j = 0
      · subst c
        have : swp st0.1 8 (itr f 0 k) (itr f 0 k) = st0.1 8 := swp_e _ _ _
        rw [b8, if_pos rfl] at this
        exact this
      · have hk8 : k < 8 := hk8
        rw [swp_o (by omega) (fun q => by have := inj 0 j (by omega) (by omega) q; omega), b2 (by omega)]
    · show swp st0.1 8 (itr f j k) (itr f m k) = _
      have := hc m (by omega)
      by_cases c : m = j
      · subst c
        rw [swp_e, b8, if_neg (by omega)]
      · rw [swp_o (by omega) (fun q => by have := inj m j (by omega) (by omega) q; omega), b3 m h1 (by omega)]
    · show swp st0.1 8 (itr f j k) y = _
      rw [swp_o (by omega) (h2 j (by omega)), b4 y h1 h2]
    · show up1 (hb1 f k l0 hb j) (itr f j k) (l0 + j + 1) p = _
      by_cases c : p = itr f j k
      · exfalso
        rw [c, b1 j (Nat.le_refl _) (by omega)] at q2
        exact cne q2
      · rw [up1_ne c]
    · show up1 (hb1 f k l0 hb j) (itr f j k) (l0 + j + 1) p = _
      by_cases c : p = itr f j k
      · rw [c, up1_eq]
      · exfalso
        have q1 : swp st0.1 8 (itr f j k) p = p := q1
        rw [swp_o (by omega) c] at q1
        exact q2 q1
theorem ring_sim {s l0 X0 Y0 : Nat} {hb : Nat → Nat} {a : Nat → Nat} {v : Option Nat} (hp8 : p < 8) (hs : 2 ≤ s) (hc : ∀ m, m < s → itr f m k < 8) (inj : ∀ i j, i < s → j < s → itr f i k = itr f j k → i = j) (hcl : itr f s k = k) (a8 : a 8 = X0) (a9 : a 9 = Y0) (ac : ∀ m, m < s → a (itr f m k) = itr f (m + 1) k) (hX : 8 ≤ X0) (hY : 8 ≤ Y0) (hi : hmI p (a, v) hb) :
    ∀ st, st = hmR p (rtn f k s) l0 (a, v) → st.1 8 = Y0 ∧ st.1 9 = X0 ∧ (∀ m, m < s → st.1 (itr f m k) = itr f m k) ∧ (∀ y, y < 8 → (∀ m, m < s → y ≠ itr f m k) → st.1 y = a y) ∧ hmI p st (hbS f k s l0 hb) := by
  intro st e
  obtain ⟨b8, b9, b1, b2, b3, b4, b5⟩ := ring_X (s := s) (l0 := l0) hp8 hc inj a8 a9 ac hX hi (s - 1) (by omega) _ rfl
  unfold rtn at e
  rw [hmR_app, List.length_map, List.length_range] at e
  generalize hmR p ((List.range (s - 1)).map (fun i => (8, itr f i k))) l0 (a, v) = st0 at b8 b9 b1 b2 b3 b4 b5 e
  rw [if_neg (by omega)] at b8
  have hk8 : k < 8 := hc 0 (by omega)
  have h1 := hc (s - 1) (by omega)
  have blast := b1 (s - 1) (Nat.le_refl _) (by omega)
  rw [show s - 1 + 1 = s by omega, hcl] at blast
  have bk := b2 (by omega)
  have kne : k ≠ itr f (s - 1) k := fun q => by have := inj 0 (s - 1) (by omega) (by omega) q; omega
  generalize hz : itr f (s - 1) k = z at b8 h1 blast kne e
  -- the three last turns
  have e : st = hmS p (hmS p (hmS p st0 (l0 + (s - 1)) (9, z)) (l0 + (s - 1) + 1) (8, z)) (l0 + (s - 1) + 1 + 1) (9, k) := e
  have i1 : hmI p (hmS p st0 (l0 + (s - 1)) (9, z)) (hb1 f k l0 hb (s - 1)) := by
    refine hm_step b5 (fun _ _ => rfl) (fun q1 q2 => ?_)
    exfalso
    have q1 : swp st0.1 9 z p = p := q1
    by_cases c : p = z
    · rw [c, swp_e, b9] at q1; omega
    · rw [swp_o (by omega) c] at q1; exact q2 q1
  have w1 : ∀ y, (hmS p st0 (l0 + (s - 1)) (9, z)).1 y = swp st0.1 9 z y := fun y => rfl
  generalize hmS p st0 (l0 + (s - 1)) (9, z) = st1 at e i1 w1
  have i2 : hmI p (hmS p st1 (l0 + (s - 1) + 1) (8, z)) (up1 (hb1 f k l0 hb (s - 1)) z (l0 + s + 1)) := by
    refine hm_step i1 (fun q1 q2 => ?_) (fun q1 q2 => ?_)
    · by_cases c : p = z
      · exfalso
        rw [c, w1, swp_e, b9] at q2; omega
      · rw [up1_ne c]
    · by_cases c : p = z
      · rw [c, up1_eq]; omega
      · exfalso
        have q1 : swp st1.1 8 z p = p := q1
        rw [swp_o (by omega) c] at q1
        exact q2 q1
  have w2 : ∀ y, (hmS p st1 (l0 + (s - 1) + 1) (8, z)).1 y = swp st1.1 8 z y := fun y => rfl
  generalize hmS p st1 (l0 + (s - 1) + 1) (8, z) = st2 at e i2 w2
  have k2 : st2.1 k = X0 := by rw [w2, swp_o (by omega) kne, w1, swp_o (by omega) kne, bk]
  have i3 : hmI p (hmS p st2 (l0 + (s - 1) + 1 + 1) (9, k)) (up1 (up1 (hb1 f k l0 hb (s - 1)) z (l0 + s + 1)) k (l0 + s + 2)) := by
    refine hm_step i2 (fun q1 q2 => ?_) (fun q1 q2 => ?_)
    · by_cases c : p = k
      · exfalso
        rw [c, k2] at q2; omega
      · rw [up1_ne c]
    · by_cases c : p = k
      · rw [c, up1_eq]; omega
      · exfalso
        have q1 : swp st2.1 9 k p = p := q1
        rw [swp_o (by omega) c] at q1
        exact q2 q1
  have w3 : ∀ y, (hmS p st2 (l0 + (s - 1) + 1 + 1) (9, k)).1 y = swp st2.1 9 k y := fun y => rfl
  rw [← e] at i3 w3
  refine ⟨?_, ?_, fun m hm => ?_, fun y hy hn => ?_, ?_⟩
  · rw [w3, swp_o (by omega) (by omega), w2, swp_k, w1, swp_e, b9]
  · rw [w3, swp_k, k2]
  · have hm8 := hc m hm
    by_cases c0 : m = 0
    · subst c0
      show st.1 k = k
      rw [w3, swp_e, w2, swp_o (by omega) (by omega), w1, swp_k, blast]
    · have mk : itr f m k ≠ k := fun q => by have := inj m 0 hm (by omega) q; omega
      by_cases c1 : m = s - 1
      · rw [c1, hz, w3, swp_o (by omega) (fun q => kne q.symm), w2, swp_e, w1, swp_o (by omega) (by omega), b8]
      · have mz : itr f m k ≠ z := fun q => by rw [← hz] at q; have := inj m (s - 1) hm (by omega) q; omega
        rw [w3, swp_o (by omega) mk, w2, swp_o (by omega) mz, w1, swp_o (by omega) mz, b3 m (by omega) (by omega)]
  · have yk : y ≠ k := hn 0 (by omega)
    have yz : y ≠ z := by rw [← hz]; exact hn (s - 1) (by omega)
    rw [w3, swp_o (by omega) yk, w2, swp_o (by omega) yz, w1, swp_o (by omega) yz, b4 y hy hn]
  · unfold hbS
    rw [hz]
    exact i3
end HM

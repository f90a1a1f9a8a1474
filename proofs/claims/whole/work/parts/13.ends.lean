/-! ===== tests, switches, ends; a method out of its piece ===== -/
section JW
variable {G : JG} {cc : ByteArray} {nL own d : Nat} {ini : Bool} {ret : Option FieldType} {i j k h : Nat}
variable {p : Program} {e : Env} {R : Room} {s : State} {m : MethodId} {args : Array Value} {below : List Frame} {meth : Method} {c : Code} {n0 w0 nE wE : Nat} {Q : State → Prop}
theorem jk_br {pc t f : Nat} {b : Bool} {L : JL} {st st' : List Value} {σ : JH}
    (h : ∀ (H : Heap) (locs : List Loc) (ls : Array Slot) (cells slots : Nat), (b = true → W p (jg_l G) e R s m args below meth c H locs cells slots Q (F0 m t ls (st'.map (jv G)))) → (b = false → W p (jg_l G) e R s m args below meth c H locs cells slots Q (F0 m f ls (st'.map (jv G)))) → W p (jg_l G) e R s m args below meth c H locs cells slots Q (F0 m pc ls (st.map (jv G))))
    (k : JK G p e R s m args below meth c nL n0 w0 nE wE Q (if b = true then t else f) (L, st', σ)) : JK G p e R s m args below meth c nL n0 w0 nE wE Q pc (L, st, σ) := by
  refine ⟨k.1, k.2.1, fun H locs ls h1 h2 h3 h4 h5 => ?_⟩
  have k3 := k.2.2 H locs ls h1 h2 h3 h4 h5
  refine h H locs ls _ _ (fun hb => ?_) (fun hb => ?_)
  · rw [if_pos hb] at k3; exact k3
  · rw [if_neg (by rw [hb]; decide)] at k3; exact k3
theorem jk_if {cn t f : Nat} {S : JS} {q : Bool × JS} (X : JX G p R s m meth c cc nL n0 w0 nE wE own ini) (hj : jx_if cc j cn t f = true) (hq : jt_tst cn S = some q)
    (k : JK G p e R s m args below meth c nL n0 w0 nE wE Q (if q.1 = true then t else f) q.2) : JK G p e R s m args below meth c nL n0 w0 nE wE Q j S := by
  unfold jx_if at hj
  split at hj
  · rename_i ins len hd
    split at hj
    · rename_i c' o hi
      simp only [Bool.and_eq_true, beq_iff_eq] at hj
      obtain ⟨⟨⟨hc, hl⟩, ho⟩, hf⟩ := hj
      subst hc; subst hl; subst hf
      obtain ⟨L, st0, σ⟩ := S
      obtain ⟨hx, hb, -⟩ := id X
      unfold jx_tst at hi
      split at hi <;> cases hi
      · obtain ⟨x, st, hs, rfl⟩ := jt_t1_i (f := fun x => decide (x = 0)) hq
        have hs : st0 = _ := hs
        subst hs
        exact jk_br (fun H locs ls cells slots kt kf => lv_if_eq hx hb hd ho (fun z => kt (decide_eq_true z)) (fun z => kf (decide_eq_false z))) k
      · obtain ⟨x, st, hs, rfl⟩ := jt_t1_i (f := fun x => !decide (x = 0)) hq
        have hs : st0 = _ := hs
        subst hs
        exact jk_br (fun H locs ls cells slots kt kf => lv_if_ne hx hb hd ho (fun z => kt (by simp [z])) (fun z => kf (by simp [z]))) k
      · obtain ⟨x, st, hs, rfl⟩ := jt_t1_i (f := fun x => decide (x < 0)) hq
        have hs : st0 = _ := hs
        subst hs
        exact jk_br (fun H locs ls cells slots kt kf => lv_if_lt hx hb hd ho (fun z => kt (decide_eq_true z)) (fun z => kf (decide_eq_false z))) k
      · obtain ⟨x, st, hs, rfl⟩ := jt_t1_i (f := fun x => decide (0 ≤ x)) hq
        have hs : st0 = _ := hs
        subst hs
        exact jk_br (fun H locs ls cells slots kt kf => lv_if_ge hx hb hd ho (fun z => kt (decide_eq_true z)) (fun z => kf (decide_eq_false z))) k
      · obtain ⟨x, st, hs, rfl⟩ := jt_t1_i (f := fun x => decide (0 < x)) hq
        have hs : st0 = _ := hs
        subst hs
        exact jk_br (fun H locs ls cells slots kt kf => lv_if_gt hx hb hd ho (fun z => kt (decide_eq_true z)) (fun z => kf (decide_eq_false z))) k
      · obtain ⟨x, st, hs, rfl⟩ := jt_t1_i (f := fun x => decide (x ≤ 0)) hq
        have hs : st0 = _ := hs
        subst hs
        exact jk_br (fun H locs ls cells slots kt kf => lv_if_le hx hb hd ho (fun z => kt (decide_eq_true z)) (fun z => kf (decide_eq_false z))) k
      · obtain ⟨x, y, st, hs, rfl⟩ := jt_t2_i (f := fun x y => decide (x = y)) hq
        have hs : st0 = _ := hs
        subst hs
        exact jk_br (fun H locs ls cells slots kt kf => lv_icmp_eq hx hb hd ho (fun z => kt (decide_eq_true z)) (fun z => kf (decide_eq_false z))) k
      · obtain ⟨x, y, st, hs, rfl⟩ := jt_t2_i (f := fun x y => !decide (x = y)) hq
        have hs : st0 = _ := hs
        subst hs
        exact jk_br (fun H locs ls cells slots kt kf => lv_icmp_ne hx hb hd ho (fun z => kt (by simp [z])) (fun z => kf (by simp [z]))) k
      · obtain ⟨x, y, st, hs, rfl⟩ := jt_t2_i (f := fun x y => decide (x < y)) hq
        have hs : st0 = _ := hs
        subst hs
        exact jk_br (fun H locs ls cells slots kt kf => lv_icmp_lt hx hb hd ho (fun z => kt (decide_eq_true z)) (fun z => kf (decide_eq_false z))) k
      · obtain ⟨x, y, st, hs, rfl⟩ := jt_t2_i (f := fun x y => decide (y ≤ x)) hq
        have hs : st0 = _ := hs
        subst hs
        exact jk_br (fun H locs ls cells slots kt kf => lv_icmp_ge hx hb hd ho (fun z => kt (decide_eq_true z)) (fun z => kf (decide_eq_false z))) k
      · obtain ⟨x, y, st, hs, rfl⟩ := jt_t2_i (f := fun x y => decide (y < x)) hq
        have hs : st0 = _ := hs
        subst hs
        exact jk_br (fun H locs ls cells slots kt kf => lv_icmp_gt hx hb hd ho (fun z => kt (decide_eq_true z)) (fun z => kf (decide_eq_false z))) k
      · obtain ⟨x, y, st, hs, rfl⟩ := jt_t2_i (f := fun x y => decide (x ≤ y)) hq
        have hs : st0 = _ := hs
        subst hs
        exact jk_br (fun H locs ls cells slots kt kf => lv_icmp_le hx hb hd ho (fun z => kt (decide_eq_true z)) (fun z => kf (decide_eq_false z))) k
      · obtain ⟨x, y, st, hs, h1, h2, rfl⟩ := jt_ta_i (f := fun b => b) hq
        have hs : st0 = _ := hs
        subst hs
        have hr : ∀ r, r < 22 → jr G r = jg_sa G r := fun r hr => by unfold jr; rw [if_pos (by omega)]
        refine jk_br (fun H locs ls cells slots kt kf => lv_acmp_eq (rx := some (jr G x)) (ry := some (jr G y)) hx hb hd ho (fun z => kt (decide_eq_true ?_)) (fun z => kf (decide_eq_false fun q => z (by rw [q])))) k
        rw [hr x h1, hr y h2] at z
        exact X.2.2.2.2.1.2.2.2.2.2.1 x y h1 h2 (Option.some.inj z)
      · obtain ⟨x, y, st, hs, h1, h2, rfl⟩ := jt_ta_i (f := fun b => !b) hq
        have hs : st0 = _ := hs
        subst hs
        have hr : ∀ r, r < 22 → jr G r = jg_sa G r := fun r hr => by unfold jr; rw [if_pos (by omega)]
        refine jk_br (fun H locs ls cells slots kt kf => lv_acmp_ne (rx := some (jr G x)) (ry := some (jr G y)) hx hb hd ho (fun z => kt ?_) (fun z => kf ?_)) k
        · simp only [Bool.not_eq_true', decide_eq_false_iff_not]
          exact fun q => z (by rw [q])
        · simp only [Bool.not_eq_false', decide_eq_true_eq]
          rw [hr x h1, hr y h2] at z
          exact X.2.2.2.2.1.2.2.2.2.2.1 x y h1 h2 (Option.some.inj z)
    · cases hj
  · cases hj
theorem jfr_if {F : JN} {cn t f : Nat} (h1 : JSl G own ini cc d nL i j F) (hj : jx_if cc j cn t f = true) (ht : ¬ t = 1000000 ∧ ¬ f = 1000000) : JFr G own ini cc d nL ret i (jb_if F cn t f) := by
  refine ⟨fun S q hq => ?_, fun p e R s m args below meth c n0 w0 nE wE Q X D hr hlk S q hq a b => ?_⟩
  · obtain ⟨S1, g1, g2⟩ := Option.bind_eq_some_iff.mp hq
    obtain ⟨q1, g3, g4⟩ := Option.bind_eq_some_iff.mp g2
    cases g4
    have := h1.1 _ _ g1
    rw [← jt_tst_mono g3] at this
    exact this
  · obtain ⟨S1, g1, g2⟩ := Option.bind_eq_some_iff.mp hq
    obtain ⟨q1, g3, g4⟩ := Option.bind_eq_some_iff.mp g2
    cases g4
    exact h1.2 p e R s m args below meth c n0 w0 nE wE _ X D S S1 g1 (jk_if X hj g3 (b (by
      show ¬ (if q1.1 = true then t else f) = 1000000
      split
      · exact ht.1
      · exact ht.2)))
/-- an end at place j -/
def jx_rt (cc : ByteArray) (j k : Nat) (ret : Option FieldType) : Bool := match k, ret, decode cc j with
  | 0, none, .ok (.return_, len) => len == 1
  | 1, some .int, .ok (.ireturn, len) => len == 1
  | 2, some .long, .ok (.lreturn, len) => len == 1
  | 3, some (.object _), .ok (.areturn, len) => len == 1
  | 4, some .boolean, .ok (.ireturn, len) => len == 1
  | 5, some .byte, .ok (.ireturn, len) => len == 1
  | _, _, _ => false
theorem jk_end {pc : Nat} {L : JL} {st : List Value} {σ : JH} {v : Option Value}
    (h : ∀ (H : Heap) (locs : List Loc) (ls : Array Slot), jm G σ s H → (∀ q ∈ locs, jg_sz G ≤ q.base) → (∀ t : State, t.heap = H → s.WarmedH t.vm → JQc G v σ args s (.returned (v.map (jv G))) t) →
      W p (jg_l G) e R s m args below meth c H locs (jh_n σ - n0) (jh_w σ - w0) (MQ below (JQc G v σ) args s (jh_n σ - n0) (jh_w σ - w0) (fun a => jg_sz G ≤ a)) (F0 m pc ls (st.map (jv G)))) :
    JK G p e R s m args below meth c nL n0 w0 (jh_n σ) (jh_w σ) (MQ below (JQc G v σ) args s (jh_n σ - n0) (jh_w σ - w0) (fun a => jg_sz G ≤ a)) pc (L, st, σ) :=
  ⟨Nat.le_refl _, Nat.le_refl _, fun H locs ls _ _ h3 h4 _ => h H locs ls h3 h4 (fun t ht hW => ⟨rfl, by rw [ht]; exact jm.moved hW.alike h3⟩)⟩
theorem jk_weak {pc : Nat} {S : JS} {Q1 Q2 : State → Prop} (h : ∀ t, Q1 t → Q2 t) (k : JK G p e R s m args below meth c nL n0 w0 nE wE Q1 pc S) : JK G p e R s m args below meth c nL n0 w0 nE wE Q2 pc S :=
  ⟨k.1, k.2.1, fun H locs ls h1 h2 h3 h4 h5 T hT X => by
    obtain ⟨t, a1, b1⟩ := k.2.2 H locs ls h1 h2 h3 h4 h5 T hT X
    exact ⟨t, a1, h t b1⟩⟩
theorem jfr_rt {F : JN} {kd : Nat} (h1 : JSl G own ini cc d nL i j F) (hj : jx_rt cc j kd ret = true) : JFr G own ini cc d nL ret i (jb_rt F kd) := by
  have inv : ∀ S q, jb_rt F kd S = some q → ∃ S1, F S = some S1 ∧ q = (1000000, S1) ∧ ((kd = 0 ∧ S1.2.1 = []) ∨ (kd = 1 ∧ ∃ x, S1.2.1 = [.int x]) ∨ (kd = 2 ∧ ∃ x, S1.2.1 = [.long x]) ∨ (kd = 3 ∧ ∃ x, S1.2.1 = [.ref x]) ∨ (kd = 4 ∧ ∃ x, (x = 0 ∨ x = 1) ∧ S1.2.1 = [.int x]) ∨ (kd = 5 ∧ ∃ x, narrow .byte (.int x) = .int x ∧ S1.2.1 = [.int x])) := by
    intro S q hq
    obtain ⟨S1, g1, g2⟩ := Option.bind_eq_some_iff.mp hq
    refine ⟨S1, g1, ?_⟩
    split at g2
    · rename_i hs; cases g2; exact ⟨rfl, Or.inl ⟨rfl, hs⟩⟩
    · rename_i x hs; cases g2; exact ⟨rfl, Or.inr (Or.inl ⟨rfl, x, hs⟩)⟩
    · rename_i x hs; cases g2; exact ⟨rfl, Or.inr (Or.inr (Or.inl ⟨rfl, x, hs⟩))⟩
    · rename_i x hs; cases g2; exact ⟨rfl, Or.inr (Or.inr (Or.inr (Or.inl ⟨rfl, x, hs⟩)))⟩
    · rename_i x hs
      split at g2
      · rename_i hx; cases g2; exact ⟨rfl, Or.inr (Or.inr (Or.inr (Or.inr (Or.inl ⟨rfl, x, hx, hs⟩))))⟩
      · cases g2
    · rename_i x hs
      split at g2
      · rename_i hx; cases g2; exact ⟨rfl, Or.inr (Or.inr (Or.inr (Or.inr (Or.inr ⟨rfl, x, hx, hs⟩))))⟩
      · cases g2
    · cases g2
  refine ⟨fun S q hq => ?_, fun p e R s m args below meth c n0 w0 nE wE Q X D hr hlk S q hq a b => ?_⟩
  · obtain ⟨S1, g1, rfl, -⟩ := inv S q hq
    exact h1.1 _ _ g1
  · obtain ⟨S1, g1, rfl, g2⟩ := inv S q hq
    obtain ⟨e1, e2, hQ⟩ := a rfl
    refine h1.2 p e R s m args below meth c n0 w0 nE wE _ X D S S1 g1 ?_
    obtain ⟨L, st, σ⟩ := S1
    subst e1; subst e2
    refine jk_weak hQ ?_
    obtain ⟨hx, hb, -⟩ := id X
    unfold jx_rt at hj
    rcases g2 with ⟨rfl, hs⟩ | ⟨rfl, x, hs⟩ | ⟨rfl, x, hs⟩ | ⟨rfl, x, hs⟩ | ⟨rfl, x, h01, hs⟩ | ⟨rfl, x, h01, hs⟩
    · have hs : st = _ := hs
      subst hs
      split at hj <;> first | cases hj | skip
      all_goals first | (rename_i hz; omega) | skip
      rename_i hd
      cases eq_of_beq hj
      exact jk_end (v := none) fun H locs ls hM hlo hq => W.vret hx hb hr hq hlo hd hlk
    · have hs : st = _ := hs
      subst hs
      split at hj <;> first | cases hj | skip
      all_goals first | (rename_i hz; omega) | skip
      rename_i hd
      cases eq_of_beq hj
      exact jk_end (v := some (.int x)) fun H locs ls hM hlo hq => W.iret hx hb hr hq hlo hd hlk
    · have hs : st = _ := hs
      subst hs
      split at hj <;> first | cases hj | skip
      all_goals first | (rename_i hz; omega) | skip
      rename_i hd
      cases eq_of_beq hj
      exact jk_end (v := some (.long x)) fun H locs ls hM hlo hq => W.lret hx hb hr hq hlo hd hlk
    · have hs : st = _ := hs
      subst hs
      split at hj <;> first | cases hj | skip
      all_goals first | (rename_i hz; omega) | skip
      rename_i hd
      cases eq_of_beq hj
      exact jk_end (v := some (.ref x)) fun H locs ls hM hlo hq => W.aret hx hb hr (Or.inl ⟨_, rfl⟩) (Or.inr ⟨_, rfl⟩) hq hlo hd hlk
    · have hs : st = _ := hs
      subst hs
      split at hj <;> first | cases hj | skip
      all_goals first | (rename_i hz; omega) | skip
      rename_i hd
      cases eq_of_beq hj
      exact jk_end (v := some (.int x)) fun H locs ls hM hlo hq => W.zret hx hb hr (by rcases h01 with rfl | rfl <;> rfl) hq hlo hd hlk
    · have hs : st = _ := hs
      subst hs
      split at hj <;> first | cases hj | skip
      all_goals first | (rename_i hz; omega) | skip
      rename_i hd
      cases eq_of_beq hj
      exact jk_end (v := some (.int x)) fun H locs ls hM hlo hq => W.zret hx hb hr h01 hq hlo hd hlk
end JW

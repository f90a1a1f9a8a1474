/-! ===== class and model at their start ===== -/
section ZA
variable {σ s : JH} {B T : List (Nat × Nat)}
theorem Rc_0 (hl : Ly s) (h : ZcI s) : Rc (zC Q00) 69 91 s := by
  obtain ⟨⟨r1, r2, r3, r4⟩, ⟨a1, a2, a3, a4, a5, a6⟩, ⟨b1, b2, b3, b4, b5, b6, b7, b8, b9⟩, c1, c2, c3, c4, c5⟩ := h
  have e : ∀ {p k r : Nat}, s.2.2.2 p k = some r → rf s p k = r := fun q => by unfold rf; rw [q]; rfl
  refine ⟨⟨hl, Or.inl rfl, Or.inl rfl, e r1, e r2, e r3, e r4⟩, ⟨a1, a2, a3, a4, fun k hk => absurd hk (Nat.not_lt_zero _), fun k hk => absurd hk (Nat.not_lt_zero _), fun k hk => absurd hk (Nat.not_lt_zero _), fun k hk => absurd hk (Nat.not_lt_zero _), fun k hk => absurd hk (Nat.not_lt_zero _), fun k hk => absurd hk (Nat.not_lt_zero _)⟩, ⟨by decide, ⟨Or.inr (Or.inl ⟨rfl, by omega, 0, by omega, rfl⟩), rfl⟩, a5, fun i q g => ?_⟩, fun k hk => absurd hk (Nat.not_lt_zero _), ⟨⟨e b1, fun k hk => absurd hk (Nat.not_lt_zero _), fun k hk => absurd hk (Nat.not_lt_zero _), fun k hk => absurd hk (Nat.not_lt_zero _), b2, b3, b4, b5, b6⟩, b7, ⟨b9, b8, Nat.zero_le _, fun q g => by cases g⟩⟩, ⟨0, by decide, c1, c2, fun i q g => by cases g⟩, ⟨c3, fun i q hi g => by cases g⟩, ⟨c4, fun i q g => by cases g⟩, ⟨c5, fun i c g => by cases g⟩⟩
  match i with
  | 0 =>
    have g : some ((2, nI 0) : Nat × Int32) = some q := g
    rw [← Option.some.inj g]
    exact a6
  | i + 1 => cases g
theorem ZcI_o (h : ZcI σ) (f : Fo 204 σ s) : ZcI s := by
  obtain ⟨⟨r1, r2, r3, r4⟩, ⟨a1, a2, a3, a4, a5, a6⟩, ⟨b1, b2, b3, b4, b5, b6, b7, b8, b9⟩, c1, c2, c3, c4, c5⟩ := h
  have i := f.1
  exact ⟨⟨(f.2.2 _ _ (by decide)).trans r1, (f.2.2 _ _ (by decide)).trans r2, (f.2.2 _ _ (by decide)).trans r3, (f.2.2 _ _ (by decide)).trans r4⟩, ⟨(i _ _ (by decide)).trans a1, (i _ _ (by decide)).trans a2, (i _ _ (by decide)).trans a3, (i _ _ (by decide)).trans a4, (i _ _ (by decide)).trans a5, (i _ _ (by decide)).trans a6⟩, ⟨(f.2.2 _ _ (by decide)).trans b1, (i _ _ (by decide)).trans b2, (i _ _ (by decide)).trans b3, (i _ _ (by decide)).trans b4, (i _ _ (by decide)).trans b5, (i _ _ (by decide)).trans b6, (i _ _ (by decide)).trans b7, (i _ _ (by decide)).trans b8, (f.2.1 _ _ (by decide)).trans b9⟩, (i _ _ (by decide)).trans c1, (i _ _ (by decide)).trans c2, (i _ _ (by decide)).trans c3, (i _ _ (by decide)).trans c4, (i _ _ (by decide)).trans c5⟩
theorem Lc_n (h : Lc σ) {d m : Nat} (hn : σ.1.length = 204) : Lc (jh_new σ d m) := by
  have h5 : ly_sh.length = 230 := by decide +kernel
  have h3 : ∀ q ∈ ly_dyn, q.1.1 < 204 := by decide +kernel
  have f : Fo 204 σ (jh_new σ d m) := Fo_n (by omega)
  refine ⟨fun a h1 h2 => ?_, fun q hq h1 => (f.2.2 _ _ h1).trans (h.2.1 q hq h1), fun q hq => ?_⟩
  · have e : ly_sh[a]? = some ly_sh[a] := List.getElem?_eq_getElem (by omega)
    rw [e]; exact Up_n _ _ ((h.1 a h1 h2).trans e)
  · obtain ⟨g, g1, g2⟩ := h.2.2 q hq
    exact ⟨g, (f.2.2 _ _ (h3 q hq)).trans g1, g2⟩
end ZA

/-! ===== the state moves ===== -/
abbrev zF (Z : Ste) (F : Ful) (U : List (Mud × Int32)) (K : Nat → Option Ful) : Ste := (tH Z, tL Z, tN Z, tP Z, F, U, K, tT Z)
section UP
variable {Z : Ste} {F : Ful} {U : List (Mud × Int32)} {K : Nat → Option Ful} {h pl : Nat} {s t σ : JH} {P : Nat → Nat → Prop}
def PcU (b j : Nat) : Prop := (114 ≤ b ∧ b < 118) ∨ (123 ≤ b ∧ b < 204) ∨ (b = 64 ∧ 13 ≤ j ∧ j ≤ 15)
theorem Rc_up (z : Rc Z h pl s) (f : Fg P s t) (hl : Ly t) (hP : ∀ b j, 64 ≤ b → b < 204 → P b j → PcT b j ∨ PcU b j) (hF : cFu (tH Z) F 114 h t) (hU : cPa (tH Z) U h t) (hK : cMk (tH Z) K h t) : Rc (zF Z F U K) h pl t := by
  obtain ⟨⟨l0, l1, l2, l3, l4, l5, l6⟩, z1, z2, z3, z4, z5, z6, z7, z8⟩ := z
  have hh := ho_is l1
  have hp := pl_is l2
  have no : ∀ b j, 64 ≤ b → b < 204 → ¬ PcT b j → ¬ PcU b j → ¬ P b j := fun b j g1 g2 g3 g5 g4 => (hP b j g1 g2 g4).elim g3 g5
  have r : ∀ j, j ≤ 12 → rf t 64 j = rf s 64 j := fun j hj => by
    show (t.2.2.2 64 j).getD 0 = (s.2.2.2 64 j).getD 0
    rw [f.2.2.2 64 j (no _ _ (by omega) (by omega) (by unfold PcT; omega) (by unfold PcU; omega))]
  exact ⟨⟨hl, l1, l2, (r 9 (by omega)).trans l3, (r 10 (by omega)).trans l4, (r 11 (by omega)).trans l5, (r 12 (by omega)).trans l6⟩, cH_g f (fun b j g1 g2 => no b j (by omega) (by omega) (by unfold PcT; omega) (by unfold PcU; omega)) z1, cL_g f (no _ _ (by omega) (by omega) (by unfold PcT; omega) (by unfold PcU; omega)) (fun j => no _ _ (by omega) (by omega) (by unfold PcT; omega) (by unfold PcU; omega)) z2, cNm_g f (fun j => no _ _ (by omega) (by omega) (by unfold PcT; omega) (by unfold PcU; omega)) z3, hF, hU, hK, cPn_g f (fun b j g1 g2 => no b j (by omega) (by omega) (by unfold PcT; omega) (by unfold PcU; omega)) z7, cTp_g f (no _ _ (by omega) (by omega) (by unfold PcT; omega) (by unfold PcU; omega)) (fun j => no _ _ (by omega) (by omega) (by unfold PcT; omega) (by unfold PcU; omega)) z8⟩
def PmU (b j : Nat) : Prop := b = 218 ∨ b = 219 ∨ (b = 204 ∧ j = 24)
theorem Rm_up (hZ : WZ Z) (z : Rm Z s) (f : Fg P s t) (hl : Ly t) (hP : ∀ b j, 204 ≤ b → b < 229 → P b j → PmT b j ∨ PmU b j) (hF : mFu (tH Z) F 0 t) (hU : mPa (tH Z) U t) (hK : mMk (tH Z) K t) : Rm (zF Z F U K) t := by
  obtain ⟨z0, z1, z2, z3, z4, z5, z6, z7, z8⟩ := z
  obtain ⟨w1, w2, w3, w4, w5, w6, w7, w8, w9, w10⟩ := hZ
  have n8 := w1.1
  have no : ∀ b j, 204 ≤ b → b < 229 → ¬ PmT b j → ¬ PmU b j → ¬ P b j := fun b j g1 g2 g3 g5 g4 => (hP b j g1 g2 g4).elim g3 g5
  have g1 : mHL (tH Z) (tL Z) (s.1, t.2.1, s.2.2) := mHL_f (Fg_i f) (fun b j h1 h2 => no b j (by omega) (by omega) (by unfold PmT; omega) (by unfold PmU; omega)) z1
  exact ⟨hl, g1, ⟨(f.2.1 _ _ (no _ _ (by omega) (by omega) (by unfold PmT; omega) (by unfold PmU; omega))).trans z2.1, (f.2.1 _ _ (no _ _ (by omega) (by omega) (by unfold PmT; omega) (by unfold PmU; omega))).trans z2.2.1, fun j w e => (f.2.2.1 _ _ (no _ _ (by omega) (by omega) (by unfold PmT; omega) (by unfold PmU; omega))).trans (z2.2.2 j w e)⟩, ⟨(f.2.1 _ _ (no _ _ (by omega) (by omega) (by unfold PmT; omega) (by unfold PmU; omega))).trans z3.1, fun k hk => (f.2.2.1 _ _ (no _ _ (by omega) (by omega) (by unfold PmT; omega) (by unfold PmU; omega))).trans (z3.2 k hk)⟩, hF, hU, hK, mPn_g w6 f (fun j _ => no _ _ (by omega) (by omega) (by unfold PmT; omega) (by unfold PmU; omega)) z7, ⟨(f.2.1 _ _ (no _ _ (by omega) (by omega) (by unfold PmT; omega) (by unfold PmU; omega))).trans z8.1, fun i c e => (f.2.1 _ _ (no _ _ (by omega) (by omega) (by unfold PmT; omega) (by unfold PmU; omega))).trans (z8.2 i c e)⟩⟩
theorem WZ_up (hZ : WZ Z) (hF : WS (tH Z) F.1) (hU : ∀ q ∈ U, WS (tH Z) q.1) (hl : U.length ≤ 16) (hK : ∀ i q, K i = some q → WS (tH Z) q.1) : WZ (zF Z F U K) := by
  obtain ⟨w1, w2, w3, w4, w5, w6, w7, w8, w9, w10⟩ := hZ
  exact ⟨w1, hF, hU, hK, w5, w6, w7, hl, w9, w10⟩
/-- what is remembered: sixteen at most -/
def rem (U : List (Mud × Int32)) (q : Mud × Int32) : List (Mud × Int32) := (if U.length = 16 then U.drop 1 else U) ++ [q]
theorem rem_len {U : List (Mud × Int32)} {q : Mud × Int32} (h : U.length ≤ 16) : (rem U q).length = min (U.length + 1) 16 := by
  unfold rem
  split
  · rw [List.length_append, List.length_drop]; show _ + 1 = _; omega
  · rw [List.length_append]; show _ + 1 = _; omega
theorem rem_mem {U : List (Mud × Int32)} {q x : Mud × Int32} (h : x ∈ rem U q) : x ∈ U ∨ x = q := by
  unfold rem at h
  rcases List.mem_append.mp h with h | h
  · split at h
    · exact Or.inl (List.mem_of_mem_drop h)
    · exact Or.inl h
  · exact Or.inr (List.mem_singleton.mp h)
theorem rem_get {U : List (Mud × Int32)} {q x : Mud × Int32} {i : Nat} (h : U.length ≤ 16) (e : (rem U q)[i]? = some x) : (i + 1 = (rem U q).length ∧ x = q) ∨ (i + 1 < (rem U q).length ∧ U[i + (U.length + 1 - (rem U q).length)]? = some x) := by
  have hl := rem_len (q := q) h
  have hi := (List.getElem?_eq_some_iff.mp e).1
  unfold rem at e
  by_cases c : U.length = 16
  · rw [if_pos c] at e
    have h15 : (U.drop 1).length = 15 := by rw [List.length_drop]; omega
    by_cases d : i < 15
    · rw [List.getElem?_append_left (by omega), List.getElem?_drop] at e
      refine Or.inr ⟨by omega, ?_⟩
      rw [hl, c, Nat.add_comm i]
      exact e
    · rw [List.getElem?_append_right (by omega), h15, show i - 15 = 0 by omega] at e
      exact Or.inl ⟨by omega, (Option.some.inj e).symm⟩
  · rw [if_neg c] at e
    by_cases d : i < U.length
    · rw [List.getElem?_append_left (by omega)] at e
      refine Or.inr ⟨by omega, ?_⟩
      rw [hl, show i + (U.length + 1 - min (U.length + 1) 16) = i by omega]
      exact e
    · rw [List.getElem?_append_right (by omega), show i - U.length = 0 by omega] at e
      exact Or.inl ⟨by omega, (Option.some.inj e).symm⟩
end UP

/-! ===== the class's constructor ===== -/
section ZC
variable {L : JL} {st : List Value} {σ s t σ0 : JH} {os : List JO} {K : JS → Prop} {a b c d e h r m k n ci w : Nat} {B T : List (Nat × Nat)} {Sh R Q : List (Nat × Nat × Nat)} {Rf : List ((Nat × Nat) × Nat)} {Ii : List ((Nat × Nat) × Int32)} {Jj : List ((Nat × Nat) × Int64)}
def Cz (n : Nat) (Sh : List (Nat × Nat × Nat)) (Rf : List ((Nat × Nat) × Nat)) (Ii : List ((Nat × Nat) × Int32)) (Jj : List ((Nat × Nat) × Int64)) (B : List (Nat × Nat)) (σ0 s : JH) : Prop := (∃ T, Cn B T s ∧ 64 + T.length = n) ∧ (∀ q ∈ Sh, s.1[q.1]? = some q.2) ∧ (∀ q ∈ Rf, q.1.1 < n ∧ s.2.2.2 q.1.1 q.1.2 = some q.2) ∧ (∀ q ∈ Ii, q.1.1 < n ∧ s.2.1 q.1.1 q.1.2 = q.2) ∧ (∀ q ∈ Jj, q.1.1 < n ∧ s.2.2.1 q.1.1 q.1.2 = q.2) ∧ Fo 64 σ0 s ∧ Up σ0 s
theorem cz_call {n' : Nat} {T' : List (Nat × Nat)} (z : Cz n Sh Rf Ii Jj B σ0 σ) (y : Cn B T' s) (hl : 64 + T'.length = n') (u : Up σ s) (f : Fo n σ s) (hn : 64 ≤ n) (hnn : n ≤ n') : Cz n' Sh Rf Ii Jj B σ0 s := by
  obtain ⟨-, z2, z3, z4, z5, z6, z7⟩ := z
  refine ⟨⟨T', y, hl⟩, fun q g => u _ _ (z2 q g), fun q g => ?_, fun q g => ?_, fun q g => ?_, Fo_t z6 (Fo_m f hn), Up_t z7 u⟩
  · have := z3 q g; exact ⟨by omega, (f.2.2 _ _ this.1).trans this.2⟩
  · have := z4 q g; exact ⟨by omega, (f.1 _ _ this.1).trans this.2⟩
  · have := z5 q g; exact ⟨by omega, (f.2.1 _ _ this.1).trans this.2⟩
theorem cz_new (z : Cz n Sh Rf Ii Jj B σ0 σ) (hn : 64 ≤ n) (hd : d ≠ 99) : Cz (n + 1) ((n, d, m) :: Sh) Rf Ii Jj B σ0 (jh_new σ d m) := by
  obtain ⟨T, c1, c2⟩ := z.1
  have e : σ.1.length = n := (Cn_len c1).trans c2
  have y := cz_call (s := jh_new σ d m) (n' := n + 1) z (Cn_new c1 hd) (by rw [List.length_append]; show 64 + (_ + 1) = _; omega) Up_n (Fo_n (by omega)) hn (by omega)
  refine ⟨y.1, fun q g => ?_, y.2.2⟩
  rcases List.mem_cons.mp g with rfl | g
  · exact At_n c1 c2
  · exact y.2.1 q g
theorem cz_setR (z : Cz n Sh Rf Ii Jj B σ0 σ) (ha : 64 ≤ a) (han : a < n) (hf : ∀ q ∈ Rf, q.1 ≠ (a, k)) : Cz n Sh (((a, k), r) :: Rf) Ii Jj B σ0 (jh_setR σ a k (some r)) := by
  obtain ⟨⟨T, c1, c2⟩, z2, z3, z4, z5, z6, z7⟩ := z
  refine ⟨⟨T, Cn_1 c1 rfl, c2⟩, z2, fun q g => ?_, z4, z5, Fo_t z6 (Fo_R ha), Up_t z7 (Up_e rfl)⟩
  rcases List.mem_cons.mp g with rfl | g
  · exact ⟨han, if_pos ⟨rfl, rfl⟩⟩
  · exact ⟨(z3 q g).1, (if_neg (fun y => hf q g (Prod.ext y.1 y.2))).trans (z3 q g).2⟩
theorem cz_R (z : Cz n Sh Rf Ii Jj B σ0 s) (ha : a < n) (h : s.2.2.2 a k = some r) : Cz n Sh (((a, k), r) :: Rf) Ii Jj B σ0 s := ⟨z.1, z.2.1, fun q g => by
  rcases List.mem_cons.mp g with rfl | g
  · exact ⟨ha, h⟩
  · exact z.2.2.1 q g, z.2.2.2⟩
theorem cz_S {q0 : Nat × Nat} (z : Cz n Sh Rf Ii Jj B σ0 s) (h : s.1[a]? = some q0) : Cz n ((a, q0) :: Sh) Rf Ii Jj B σ0 s := ⟨z.1, fun q g => by
  rcases List.mem_cons.mp g with rfl | g
  · exact h
  · exact z.2.1 q g, z.2.2⟩
theorem cz_I {x : Int32} (z : Cz n Sh Rf Ii Jj B σ0 s) (ha : a < n) (h : s.2.1 a k = x) : Cz n Sh Rf (((a, k), x) :: Ii) Jj B σ0 s := ⟨z.1, z.2.1, z.2.2.1, fun q g => by
  rcases List.mem_cons.mp g with rfl | g
  · exact ⟨ha, h⟩
  · exact z.2.2.2.1 q g, z.2.2.2.2⟩
theorem cz_J {x : Int64} (z : Cz n Sh Rf Ii Jj B σ0 s) (ha : a < n) (h : s.2.2.1 a k = x) : Cz n Sh Rf Ii (((a, k), x) :: Jj) B σ0 s := ⟨z.1, z.2.1, z.2.2.1, z.2.2.2.1, fun q g => by
  rcases List.mem_cons.mp g with rfl | g
  · exact ⟨ha, h⟩
  · exact z.2.2.2.2.1 q g, z.2.2.2.2.2⟩
theorem cz_L (z : Cz n Sh Rf Ii Jj B σ0 s) (l : Lq R Q e s) (hb : ∀ q ∈ Q, e + q.1 < n) : Cz n (R.map (fun q => (e + q.1, q.2)) ++ Sh) (Q.map (fun q => ((e + q.1, q.2.1), e + q.2.2)) ++ Rf) Ii Jj B σ0 s := ⟨z.1, fun q g => by
  rcases List.mem_append.mp g with g | g
  · obtain ⟨p, p1, rfl⟩ := List.mem_map.mp g
    exact l.1 p p1
  · exact z.2.1 q g, fun q g => by
  rcases List.mem_append.mp g with g | g
  · obtain ⟨p, p1, rfl⟩ := List.mem_map.mp g
    exact ⟨hb p p1, l.2 p p1⟩
  · exact z.2.2.1 q g, z.2.2.2⟩
theorem cz_H (z : Cz n Sh Rf Ii Jj B σ0 s) (h1 : ∀ q ∈ zHs, (69 + q.1, q.2) ∈ Sh) (h2 : ∀ q ∈ zHr, ((69 + q.1, q.2.1), 69 + q.2.2) ∈ Rf) : Lq zHs zHr 69 s := ⟨fun q g => z.2.1 _ (h1 q g), fun q g => (z.2.2.1 _ (h2 q g)).2⟩
theorem cz_len {T : List (Nat × Nat)} (h : 64 + T.length = n) : 64 + (T ++ [(d, m)]).length = n + 1 := by rw [List.length_append]; show 64 + (_ + 1) = _; omega
theorem cz_call2 {n' : Nat} (z : Cz n Sh Rf Ii Jj B σ0 σ) (y : ∃ T', Cn B T' s ∧ 64 + T'.length = n') (u : Up σ s) (f : Fo k σ s) (hk : 64 ≤ k) (hnn : n ≤ n') (b1 : ∀ q ∈ Rf, q.1.1 < k) (b2 : ∀ q ∈ Ii, q.1.1 < k) (b3 : ∀ q ∈ Jj, q.1.1 < k) : Cz n' Sh Rf Ii Jj B σ0 s := by
  obtain ⟨-, z2, z3, z4, z5, z6, z7⟩ := z
  refine ⟨y, fun q g => u _ _ (z2 q g), fun q g => ?_, fun q g => ?_, fun q g => ?_, Fo_t z6 (Fo_m f hk), Up_t z7 u⟩
  · have := z3 q g; exact ⟨by omega, (f.2.2 _ _ (b1 q g)).trans this.2⟩
  · have := z4 q g; exact ⟨by omega, (f.1 _ _ (b2 q g)).trans this.2⟩
  · have := z5 q g; exact ⟨by omega, (f.2.1 _ _ (b3 q g)).trans this.2⟩
theorem Mq_o {ar j : Nat} (h : Mq ar j σ) (u : Up σ s) (f : Fo k σ s) (hk : ar + 1 + 4 * j < k) : Mq ar j s := by
  have bm : ∀ q ∈ zMr, q.1 = 0 := by decide
  obtain ⟨h1, h2, h3⟩ := h
  exact ⟨Lq_o h1 u f (fun q g => by have := bm q g; omega), (f.2.2 _ _ (by omega)).trans h2, (f.2.2 _ _ (by omega)).trans h3⟩
def zSh : List (Nat × Nat × Nat) := [(64, 10, 16), (65, 9, 9), (66, 102, 1000), (67, 5, 2), (68, 2, 1), (69, 0, 15), (70, 101, 8), (71, 100, 8), (72, 100, 8), (73, 100, 8), (74, 100, 8), (75, 100, 8), (76, 100, 8), (77, 1, 3), (78, 100, 1000), (79, 100, 32), (80, 0, 15), (81, 101, 8), (82, 100, 8), (83, 100, 8), (84, 100, 8), (85, 100, 8), (86, 100, 8), (87, 100, 8), (88, 1, 3), (89, 100, 1000), (90, 100, 32), (91, 4, 3), (92, 100, 30), (93, 100, 90), (94, 4, 3), (95, 100, 30), (96, 100, 90), (97, 6, 6), (98, 100, 24), (99, 100, 8), (100, 7, 7), (101, 100, 5), (102, 100, 5), (103, 3, 12), (104, 100, 8), (105, 100, 8), (106, 100, 8), (107, 8, 9), (108, 100, 1024), (109, 100, 64), (110, 3, 12), (111, 100, 8), (112, 100, 8), (113, 100, 8), (114, 3, 12), (115, 100, 8), (116, 100, 8), (117, 100, 8), (118, 3, 12), (119, 100, 8), (120, 100, 8), (121, 100, 8), (122, 104, 16), (187, 104, 4)]
def zRf : List ((Nat × Nat) × Nat) := [((64, 0), 65), ((64, 1), 67), ((64, 2), 97), ((64, 3), 100), ((64, 4), 107), ((64, 5), 114), ((64, 6), 118), ((64, 7), 122), ((64, 8), 187), ((65, 0), 66), ((67, 0), 65), ((67, 1), 68), ((68, 0), 65), ((69, 0), 70), ((69, 1), 71), ((69, 2), 72), ((69, 3), 73), ((69, 4), 74), ((69, 5), 75), ((69, 6), 76), ((69, 7), 77), ((77, 0), 78), ((77, 1), 79), ((80, 0), 81), ((80, 1), 82), ((80, 2), 83), ((80, 3), 84), ((80, 4), 85), ((80, 5), 86), ((80, 6), 87), ((80, 7), 88), ((88, 0), 89), ((88, 1), 90), ((91, 0), 92), ((91, 1), 93), ((94, 0), 95), ((94, 1), 96), ((97, 0), 98), ((97, 1), 99), ((100, 0), 103), ((100, 1), 101), ((100, 2), 102), ((103, 0), 104), ((103, 1), 105), ((103, 2), 106), ((107, 0), 110), ((107, 1), 108), ((107, 2), 109), ((110, 0), 111), ((110, 1), 112), ((110, 2), 113), ((114, 0), 115), ((114, 1), 116), ((114, 2), 117), ((118, 0), 119), ((118, 1), 120), ((118, 2), 121), ((64, 9), 69), ((64, 10), 80), ((64, 11), 91), ((64, 12), 94), ((65, 4), 21), ((103, 3), 69), ((110, 3), 69), ((114, 3), 69), ((118, 3), 69)]
theorem z_d1 : ∀ a, a < 204 → a < 64 ∨ (∃ q ∈ zSh, q.1 = a ∧ ly_sh[a]? = some q.2) ∨ (123 ≤ a ∧ a < 187 ∧ ∃ q ∈ zMs, q.1 = (a - 123) % 4 ∧ ly_sh[a]? = some q.2) ∨ (188 ≤ a ∧ ∃ q ∈ zMs, q.1 = (a - 188) % 4 ∧ ly_sh[a]? = some q.2) := by decide +kernel
theorem z_d2 : ∀ q ∈ ly_ref, q.1.1 < 204 → q.1.1 < 64 ∨ q ∈ zRf ∨ (q.1.1 = 122 ∧ q.1.2 < 16 ∧ q.2 = 123 + 4 * q.1.2) ∨ (q.1.1 = 187 ∧ q.1.2 < 4 ∧ q.2 = 188 + 4 * q.1.2) ∨ (123 ≤ q.1.1 ∧ q.1.1 < 187 ∧ (q.1.1 - 123) % 4 = 0 ∧ (0, q.1.2, q.2 - q.1.1) ∈ zMr ∧ q.1.1 ≤ q.2) ∨ (188 ≤ q.1.1 ∧ (q.1.1 - 188) % 4 = 0 ∧ (0, q.1.2, q.2 - q.1.1) ∈ zMr ∧ q.1.1 ≤ q.2) := by decide +kernel
theorem z_d3 : ∀ q ∈ ly_dyn, (q.2 = 1 ∧ (q.1, 69) ∈ zRf) ∨ (q.2 = 1 ∧ (q.1, 80) ∈ zRf) ∨ (q.2 = 2 ∧ (q.1, 91) ∈ zRf) ∨ (q.2 = 2 ∧ (q.1, 94) ∈ zRf) ∨ (q.2 = 3 ∧ (q.1, 21) ∈ zRf) ∨ (q.2 = 1 ∧ q.1.2 = 3 ∧ 123 ≤ q.1.1 ∧ q.1.1 < 187 ∧ (q.1.1 - 123) % 4 = 0) ∨ (q.2 = 1 ∧ q.1.2 = 3 ∧ 188 ≤ q.1.1 ∧ q.1.1 < 204 ∧ (q.1.1 - 188) % 4 = 0) := by decide +kernel
theorem cz_sub {Sh' : List (Nat × Nat × Nat)} {Rf' : List ((Nat × Nat) × Nat)} (z : Cz n Sh Rf Ii Jj B σ0 s) (h1 : ∀ q ∈ Sh', q ∈ Sh) (h2 : ∀ q ∈ Rf', q ∈ Rf) : Cz n Sh' Rf' Ii Jj B σ0 s := ⟨z.1, fun q g => z.2.1 q (h1 q g), fun q g => z.2.2.1 q (h2 q g), z.2.2.2⟩
theorem rR_ne {j : Nat} {v : Option Nat} (h : b ≠ a ∨ j ≠ k) : (jh_setR σ a k v).2.2.2 b j = σ.2.2.2 b j := if_neg (fun q => h.elim (fun h => h q.1) (fun h => h q.2))
theorem z_fin (z : Cz 204 zSh zRf Ii Jj B σ s) (m1 : ∀ j, j < 16 → Mq 122 j s) (m2 : ∀ j, j < 4 → Mq 187 j s) (hB : ∀ a, a < 64 → a ≠ 24 → σ.1[a]? = ly_sh[a]?) (hR : ∀ q ∈ ly_ref, q.1.1 < 64 → σ.2.2.2 q.1.1 q.1.2 = some q.2) : Lc s := by
  obtain ⟨z1, z2, z3, z4, z5, z6, z7⟩ := z
  have h5 : ly_sh.length = 230 := by decide +kernel
  refine ⟨fun a h1 h2 => ?_, fun q hq h1 => ?_, fun q hq => ?_⟩
  · by_cases c : a < 64
    · have e : ly_sh[a]? = some ly_sh[a] := List.getElem?_eq_getElem (by omega)
      rw [e]; exact z7 _ _ ((hB a c h2).trans e)
    · rcases z_d1 a h1 with g | ⟨q, g1, g2, g3⟩ | ⟨g0, g0', q, g1, g2, g3⟩ | ⟨g0, q, g1, g2, g3⟩
      · exact absurd g c
      · rw [g3, ← g2]; exact z2 q g1
      · have := (m1 ((a - 123) / 4) (by omega)).1.1 q g1
        rw [g2, show 122 + 1 + 4 * ((a - 123) / 4) + (a - 123) % 4 = a by omega] at this
        rw [this, g3]
      · have := (m2 ((a - 188) / 4) (by omega)).1.1 q g1
        rw [g2, show 187 + 1 + 4 * ((a - 188) / 4) + (a - 188) % 4 = a by omega] at this
        rw [this, g3]
  · rcases z_d2 q hq h1 with g | g | ⟨g1, g2, g3⟩ | ⟨g1, g2, g3⟩ | ⟨g1, g2, g3, g4, g5⟩ | ⟨g1, g3, g4, g5⟩
    · exact (z6.2.2 _ _ g).trans (hR q hq g)
    · exact (z3 q g).2
    · rw [g1, g3]; exact (m1 _ g2).2.2
    · rw [g1, g3]; exact (m2 _ g2).2.2
    · have := (m1 ((q.1.1 - 123) / 4) (by omega)).1.2 _ g4
      simp only at this
      rw [show 122 + 1 + 4 * ((q.1.1 - 123) / 4) + 0 = q.1.1 by omega, show 122 + 1 + 4 * ((q.1.1 - 123) / 4) + (q.2 - q.1.1) = q.2 by omega] at this
      exact this
    · have := (m2 ((q.1.1 - 188) / 4) (by omega)).1.2 _ g4
      simp only at this
      rw [show 187 + 1 + 4 * ((q.1.1 - 188) / 4) + 0 = q.1.1 by omega, show 187 + 1 + 4 * ((q.1.1 - 188) / 4) + (q.2 - q.1.1) = q.2 by omega] at this
      exact this
  · rcases z_d3 q hq with ⟨e, g⟩ | ⟨e, g⟩ | ⟨e, g⟩ | ⟨e, g⟩ | ⟨e, g⟩ | ⟨e, g1, g2, g3, g4⟩ | ⟨e, g1, g2, g3, g4⟩
    · exact ⟨69, (z3 _ g).2, by rw [e]; exact Or.inl rfl⟩
    · exact ⟨80, (z3 _ g).2, by rw [e]; exact Or.inr rfl⟩
    · exact ⟨91, (z3 _ g).2, by rw [e]; exact Or.inl rfl⟩
    · exact ⟨94, (z3 _ g).2, by rw [e]; exact Or.inr rfl⟩
    · exact ⟨21, (z3 _ g).2, by rw [e]; exact (by decide : 21 < 22)⟩
    · have := (m1 ((q.1.1 - 123) / 4) (by omega)).2.1
      rw [show 122 + 1 + 4 * ((q.1.1 - 123) / 4) = q.1.1 by omega] at this
      exact ⟨69, by rw [g1]; exact this, by rw [e]; exact Or.inl rfl⟩
    · have := (m2 ((q.1.1 - 188) / 4) (by omega)).2.1
      rw [show 187 + 1 + 4 * ((q.1.1 - 188) / 4) = q.1.1 by omega] at this
      exact ⟨69, by rw [g1]; exact this, by rw [e]; exact Or.inl rfl⟩
/-- what the class holds at its start -/
def ZcI (s : JH) : Prop := (s.2.2.2 64 9 = some 69 ∧ s.2.2.2 64 10 = some 80 ∧ s.2.2.2 64 11 = some 91 ∧ s.2.2.2 64 12 = some 94) ∧ (s.2.1 69 8 = nI 0 ∧ s.2.1 69 9 = nI 0 ∧ s.2.1 69 10 = nI 0 ∧ s.2.1 69 12 = nI 9 ∧ s.2.1 77 2 = nI 1 ∧ s.2.1 78 0 = mI 1) ∧ (s.2.2.2 114 3 = some 69 ∧ s.2.1 114 4 = nI 0 ∧ s.2.1 114 5 = nI 0 ∧ s.2.1 114 6 = nI 0 ∧ s.2.1 114 7 = nI 0 ∧ s.2.1 114 8 = nI 0 ∧ s.2.1 114 9 = nI 0 ∧ s.2.1 114 11 = nI 0 ∧ s.2.2.1 114 10 = 0) ∧ s.2.1 64 13 = nI 0 ∧ s.2.1 64 14 = nI 0 ∧ s.2.1 64 15 = nI 0 ∧ s.2.1 91 2 = nI 0 ∧ s.2.1 65 1 = nI 0
set_option maxHeartbeats 4000000 in
set_option maxRecDepth 20000 in
theorem z_Ct_init (h0 : Cn B T σ) (hc : 64 + T.length = 65) (hs : σ.1[64]? = some (10, 16)) (i13 : σ.2.1 64 13 = nI 0) (i14 : σ.2.1 64 14 = nI 0) (i15 : σ.2.1 64 15 = nI 0) (hB : ∀ a, a < 64 → a ≠ 24 → σ.1[a]? = ly_sh[a]?) (hR : ∀ q ∈ ly_ref, q.1.1 < 64 → σ.2.2.2 q.1.1 q.1.2 = some q.2) : WM q_Ct_init [.ref 64] σ (kV fun s => Lc s ∧ Fo 64 σ s ∧ (∃ T', Cn B T' s ∧ 64 + T'.length = 204) ∧ Up σ s ∧ ZcI s) := by
  refine wm_V [some (.ref 64), none] (Nat.le_of_ble_eq_true rfl) rfl (wp_sq (wp_go (wn_jn (wo_aload rfl (wn_nil (wn_jn (wn_oi rfl (wn_jn ?_))))))))
  have z0 : Cz 65 [(64, 10, 16)] [] [((64, 13), nI 0), ((64, 14), nI 0), ((64, 15), nI 0)] [] B σ σ := by
    refine ⟨⟨T, h0, hc⟩, fun q g => ?_, fun q g => absurd g List.not_mem_nil, fun q g => ?_, fun q g => absurd g List.not_mem_nil, Fo_r _ _, Up_r _⟩
    · rw [List.mem_singleton.mp g]; exact hs
    · simp only [List.mem_cons, List.not_mem_nil, or_false] at g
      rcases g with rfl | rfl | rfl
      · exact ⟨by decide, i13⟩
      · exact ⟨by decide, i14⟩
      · exact ⟨by decide, i15⟩
  obtain ⟨T0, c0, k0⟩ := z0.1
  have y0 := cz_new (d := 9) (m := 9) z0 (by decide) (by decide)
  have e0 : σ.1.length = 65 := (Cn_len c0).trans k0
  refine wo_aload rfl (wo_new (a := 65) (m := 9) c0 k0 rfl (wo_dupr (wn_nil (wn_jn ?_))))
  refine wc_ci [.ref 65] rfl rfl rfl (z_Tp_init (a := 65) (Cn_new c0 (by decide)) (cz_len k0) (At_n c0 k0)) fun v0 ⟨p1, p2, q1, q2, q3, pf, q4⟩ => ?_
  have x0 := cz_call (n' := 67) z0 p1 (by simp only [List.length_append, List.length_singleton]; omega) (Up_t Up_n p2) (Fo_t (Fo_n (by omega)) pf) (by decide) (by decide)
  have x0 := cz_S (a := 65) x0 (p2 _ _ (At_n c0 k0))
  have x0 := cz_S x0 q1
  have x0 := cz_R x0 (by decide) q2
  have x0 := cz_R x0 (by decide) q3
  have x0 := cz_I (k := 1) (x := nI 0) x0 (by decide) (q4.trans (if_pos e0.symm))
  have z1 := cz_setR (a := 64) (k := 0) (r := 65) x0 (by decide) (by decide) (by decide +kernel)
  refine wn_jn (wo_putF (m := 16) (k := 0) (x0.2.1 (64, 10, 16) (by decide +kernel)) rfl ?_)
  generalize jh_setR v0 64 0 (some 65) = s1 at z1
  obtain ⟨T1, c1, k1⟩ := z1.1
  have y1 := cz_new (d := 5) (m := 2) z1 (by decide) (by decide)
  have e1 : s1.1.length = 67 := (Cn_len c1).trans k1
  refine wo_aload rfl (wo_new (a := 67) (m := 2) c1 k1 rfl (wo_dupr (wo_aload rfl (wo_getR (m := 16) (k := 0) (y1.2.1 (64, 10, 16) (by decide +kernel)) rfl (y1.2.2.1 ((64, 0), 65) (by decide +kernel)).2 (wn_nil (wn_jn ?_))))))
  refine wc_ci [.ref 65, .ref 67] rfl rfl rfl (z_Re_init (a := 67) (Cn_new c1 (by decide)) (cz_len k1) (At_n c1 k1)) fun v1 ⟨p1, p2, q1, q2, q3, q4, pf⟩ => ?_
  have x1 := cz_call (n' := 69) z1 p1 (by simp only [List.length_append, List.length_singleton]; omega) (Up_t Up_n p2) (Fo_t (Fo_n (by omega)) pf) (by decide) (by decide)
  have x1 := cz_S (a := 67) x1 (p2 _ _ (At_n c1 k1))
  have x1 := cz_S x1 q1
  have x1 := cz_R x1 (by decide) q2
  have x1 := cz_R x1 (by decide) q3
  have x1 := cz_R x1 (by decide) q4
  have z2 := cz_setR (a := 64) (k := 1) (r := 67) x1 (by decide) (by decide) (by decide +kernel)
  refine wn_jn (wo_putF (m := 16) (k := 1) (x1.2.1 (64, 10, 16) (by decide +kernel)) rfl ?_)
  generalize jh_setR v1 64 1 (some 67) = s2 at z2
  obtain ⟨T2, c2, k2⟩ := z2.1
  have y2 := cz_new (d := 0) (m := 15) z2 (by decide) (by decide)
  have e2 : s2.1.length = 69 := (Cn_len c2).trans k2
  refine wo_aload rfl (wo_new (a := 69) (m := 15) c2 k2 rfl (wo_dupr (wn_nil (wn_jn ?_))))
  refine wc_ci [.ref 69] rfl rfl rfl (z_Ho_init (h := 69) (Cn_new c2 (by decide)) (cz_len k2) (At_n c2 k2)) fun v2 ⟨p1, p2, pl, pf, q1, q2, q3, q4, q5, q6⟩ => ?_
  have x2 := cz_call (n' := 80) z2 p1 (by simp only [List.length_append, List.length_singleton]; omega) (Up_t Up_n p2) (Fo_t (Fo_n (by omega)) pf) (by decide) (by decide)
  have x2 := cz_S (a := 69) x2 (p2 _ _ (At_n c2 k2))
  have x2 := cz_L (e := 69) x2 pl (by decide)
  have x2 := cz_I x2 (by decide) q1
  have x2 := cz_I x2 (by decide) q2
  have x2 := cz_I x2 (by decide) q3
  have x2 := cz_I x2 (by decide) q4
  have x2 := cz_I x2 (by decide) q5
  have x2 := cz_I x2 (by decide) q6
  have z3 := cz_setR (a := 64) (k := 9) (r := 69) x2 (by decide) (by decide) (by decide +kernel)
  refine wn_jn (wo_putR (m := 16) (k := 9) (x2.2.1 (64, 10, 16) (by decide +kernel)) rfl ?_)
  generalize jh_setR v2 64 9 (some 69) = s3 at z3
  obtain ⟨T3, c3, k3⟩ := z3.1
  have y3 := cz_new (d := 0) (m := 15) z3 (by decide) (by decide)
  have e3 : s3.1.length = 80 := (Cn_len c3).trans k3
  refine wo_aload rfl (wo_new (a := 80) (m := 15) c3 k3 rfl (wo_dupr (wn_nil (wn_jn ?_))))
  refine wc_ci [.ref 80] rfl rfl rfl (z_Ho_init (h := 80) (Cn_new c3 (by decide)) (cz_len k3) (At_n c3 k3)) fun v3 ⟨p1, p2, pl, pf, q1, q2, q3, q4, q5, q6⟩ => ?_
  have x3 := cz_call (n' := 91) z3 p1 (by simp only [List.length_append, List.length_singleton]; omega) (Up_t Up_n p2) (Fo_t (Fo_n (by omega)) pf) (by decide) (by decide)
  have x3 := cz_S (a := 80) x3 (p2 _ _ (At_n c3 k3))
  have x3 := cz_L (e := 80) x3 pl (by decide)
  have z4 := cz_setR (a := 64) (k := 10) (r := 80) x3 (by decide) (by decide) (by decide +kernel)
  refine wn_jn (wo_putR (m := 16) (k := 10) (x3.2.1 (64, 10, 16) (by decide +kernel)) rfl ?_)
  generalize jh_setR v3 64 10 (some 80) = s4 at z4
  obtain ⟨T4, c4, k4⟩ := z4.1
  have y4 := cz_new (d := 4) (m := 3) z4 (by decide) (by decide)
  have e4 : s4.1.length = 91 := (Cn_len c4).trans k4
  refine wo_aload rfl (wo_new (a := 91) (m := 3) c4 k4 rfl (wo_dupr (wn_nil (wn_jn ?_))))
  refine wc_ci [.ref 91] rfl rfl rfl (z_Pl_init2 (a := 91) (Cn_new c4 (by decide)) (cz_len k4) (At_n c4 k4)) fun v4 ⟨p1, p2, q1, q2, q3, q4, pf, q5⟩ => ?_
  have x4 := cz_call (n' := 94) z4 p1 (by simp only [List.length_append, List.length_singleton]; omega) (Up_t Up_n p2) (Fo_t (Fo_n (by omega)) pf) (by decide) (by decide)
  have x4 := cz_S (a := 91) x4 (p2 _ _ (At_n c4 k4))
  have x4 := cz_S x4 q1
  have x4 := cz_S x4 q2
  have x4 := cz_R x4 (by decide) q3
  have x4 := cz_R x4 (by decide) q4
  have x4 := cz_I (k := 2) (x := nI 0) x4 (by decide) (q5.trans (if_pos e4.symm))
  have z5 := cz_setR (a := 64) (k := 11) (r := 91) x4 (by decide) (by decide) (by decide +kernel)
  refine wn_jn (wo_putR (m := 16) (k := 11) (x4.2.1 (64, 10, 16) (by decide +kernel)) rfl ?_)
  generalize jh_setR v4 64 11 (some 91) = s5 at z5
  obtain ⟨T5, c5, k5⟩ := z5.1
  have y5 := cz_new (d := 4) (m := 3) z5 (by decide) (by decide)
  have e5 : s5.1.length = 94 := (Cn_len c5).trans k5
  refine wo_aload rfl (wo_new (a := 94) (m := 3) c5 k5 rfl (wo_dupr (wn_nil (wn_jn ?_))))
  refine wc_ci [.ref 94] rfl rfl rfl (z_Pl_init2 (a := 94) (Cn_new c5 (by decide)) (cz_len k5) (At_n c5 k5)) fun v5 ⟨p1, p2, q1, q2, q3, q4, pf, q5⟩ => ?_
  have x5 := cz_call (n' := 97) z5 p1 (by simp only [List.length_append, List.length_singleton]; omega) (Up_t Up_n p2) (Fo_t (Fo_n (by omega)) pf) (by decide) (by decide)
  have x5 := cz_S (a := 94) x5 (p2 _ _ (At_n c5 k5))
  have x5 := cz_S x5 q1
  have x5 := cz_S x5 q2
  have x5 := cz_R x5 (by decide) q3
  have x5 := cz_R x5 (by decide) q4
  have z6 := cz_setR (a := 64) (k := 12) (r := 94) x5 (by decide) (by decide) (by decide +kernel)
  refine wn_jn (wo_putR (m := 16) (k := 12) (x5.2.1 (64, 10, 16) (by decide +kernel)) rfl ?_)
  generalize jh_setR v5 64 12 (some 94) = s6 at z6
  obtain ⟨T6, c6, k6⟩ := z6.1
  have y6 := cz_new (d := 6) (m := 6) z6 (by decide) (by decide)
  have e6 : s6.1.length = 97 := (Cn_len c6).trans k6
  refine wo_aload rfl (wo_new (a := 97) (m := 6) c6 k6 rfl (wo_dupr (wn_nil (wn_jn ?_))))
  refine wc_ci [.ref 97] rfl rfl rfl (z_Ri_init (a := 97) (Cn_new c6 (by decide)) (cz_len k6) (At_n c6 k6)) fun v6 ⟨p1, p2, q1, q2, q3, q4, pf⟩ => ?_
  have x6 := cz_call (n' := 100) z6 p1 (by simp only [List.length_append, List.length_singleton]; omega) (Up_t Up_n p2) (Fo_t (Fo_n (by omega)) pf) (by decide) (by decide)
  have x6 := cz_S (a := 97) x6 (p2 _ _ (At_n c6 k6))
  have x6 := cz_S x6 q1
  have x6 := cz_S x6 q2
  have x6 := cz_R x6 (by decide) q3
  have x6 := cz_R x6 (by decide) q4
  have z7 := cz_setR (a := 64) (k := 2) (r := 97) x6 (by decide) (by decide) (by decide +kernel)
  refine wn_jn (wo_putF (m := 16) (k := 2) (x6.2.1 (64, 10, 16) (by decide +kernel)) rfl ?_)
  generalize jh_setR v6 64 2 (some 97) = s7 at z7
  obtain ⟨T7, c7, k7⟩ := z7.1
  have y7 := cz_new (d := 7) (m := 7) z7 (by decide) (by decide)
  have e7 : s7.1.length = 100 := (Cn_len c7).trans k7
  refine wo_aload rfl (wo_new (a := 100) (m := 7) c7 k7 rfl (wo_dupr (wo_aload rfl (wo_getR (m := 16) (k := 9) (y7.2.1 (64, 10, 16) (by decide +kernel)) rfl (y7.2.2.1 ((64, 9), 69) (by decide +kernel)).2 (wn_nil (wn_jn ?_))))))
  refine wc_ci [.ref 69, .ref 100] rfl rfl rfl (z_Se_init (a := 100) (Cn_new c7 (by decide)) (cz_len k7) (At_n c7 k7) (cz_H y7 (by decide +kernel) (by decide +kernel)) (by decide) (y7.2.2.2.1 ((69, 8), nI 0) (by decide +kernel)).2 (y7.2.2.2.1 ((69, 9), nI 0) (by decide +kernel)).2) fun v7 ⟨p1, p2, q1, q2, pl, q3, q4, q5, q6, pf⟩ => ?_
  have x7 := cz_call (n' := 107) z7 p1 (by simp only [List.length_append, List.length_singleton]; omega) (Up_t Up_n p2) (Fo_t (Fo_n (by omega)) pf) (by decide) (by decide)
  have x7 := cz_S (a := 100) x7 (p2 _ _ (At_n c7 k7))
  have x7 := cz_S x7 q1
  have x7 := cz_S x7 q2
  have x7 := cz_L (e := 103) x7 pl (by decide)
  have x7 := cz_R x7 (by decide) q3
  have x7 := cz_R x7 (by decide) q4
  have x7 := cz_R x7 (by decide) q5
  have x7 := cz_R x7 (by decide) q6
  have z8 := cz_setR (a := 64) (k := 3) (r := 100) x7 (by decide) (by decide) (by decide +kernel)
  refine wn_jn (wo_putF (m := 16) (k := 3) (x7.2.1 (64, 10, 16) (by decide +kernel)) rfl ?_)
  generalize jh_setR v7 64 3 (some 100) = s8 at z8
  obtain ⟨T8, c8, k8⟩ := z8.1
  have y8 := cz_new (d := 8) (m := 9) z8 (by decide) (by decide)
  have e8 : s8.1.length = 107 := (Cn_len c8).trans k8
  refine wo_aload rfl (wo_new (a := 107) (m := 9) c8 k8 rfl (wo_dupr (wo_aload rfl (wo_getR (m := 16) (k := 9) (y8.2.1 (64, 10, 16) (by decide +kernel)) rfl (y8.2.2.1 ((64, 9), 69) (by decide +kernel)).2 (wn_nil (wn_jn ?_))))))
  refine wc_ci [.ref 69, .ref 107] rfl rfl rfl (z_Ta_init (a := 107) (Cn_new c8 (by decide)) (cz_len k8) (At_n c8 k8) (cz_H y8 (by decide +kernel) (by decide +kernel)) (by decide) (y8.2.2.2.1 ((69, 8), nI 0) (by decide +kernel)).2 (y8.2.2.2.1 ((69, 9), nI 0) (by decide +kernel)).2) fun v8 ⟨p1, p2, q1, q2, pl, q3, q4, q5, q6, pf⟩ => ?_
  have x8 := cz_call (n' := 114) z8 p1 (by simp only [List.length_append, List.length_singleton]; omega) (Up_t Up_n p2) (Fo_t (Fo_n (by omega)) pf) (by decide) (by decide)
  have x8 := cz_S (a := 107) x8 (p2 _ _ (At_n c8 k8))
  have x8 := cz_S x8 q1
  have x8 := cz_S x8 q2
  have x8 := cz_L (e := 110) x8 pl (by decide)
  have x8 := cz_R x8 (by decide) q3
  have x8 := cz_R x8 (by decide) q4
  have x8 := cz_R x8 (by decide) q5
  have x8 := cz_R x8 (by decide) q6
  have z9 := cz_setR (a := 64) (k := 4) (r := 107) x8 (by decide) (by decide) (by decide +kernel)
  refine wn_jn (wo_putF (m := 16) (k := 4) (x8.2.1 (64, 10, 16) (by decide +kernel)) rfl ?_)
  generalize jh_setR v8 64 4 (some 107) = s9 at z9
  obtain ⟨T9, c9, k9⟩ := z9.1
  have y9 := cz_new (d := 3) (m := 12) z9 (by decide) (by decide)
  have e9 : s9.1.length = 114 := (Cn_len c9).trans k9
  refine wo_aload rfl (wo_new (a := 114) (m := 12) c9 k9 rfl (wo_dupr (wo_aload rfl (wo_getR (m := 16) (k := 9) (y9.2.1 (64, 10, 16) (by decide +kernel)) rfl (y9.2.2.1 ((64, 9), 69) (by decide +kernel)).2 (wn_nil (wn_jn ?_))))))
  refine wc_ci [.ref 69, .ref 114] rfl rfl rfl (z_Mu_init (a := 114) (Cn_new c9 (by decide)) (cz_len k9) (At_n c9 k9) (cz_H y9 (by decide +kernel) (by decide +kernel)) (by decide) (y9.2.2.2.1 ((69, 8), nI 0) (by decide +kernel)).2 (y9.2.2.2.1 ((69, 9), nI 0) (by decide +kernel)).2) fun v9 ⟨p1, p2, pl, pf, q1, q2, q3, q4⟩ => ?_
  have x9 := cz_call (n' := 118) z9 p1 (by simp only [List.length_append, List.length_singleton]; omega) (Up_t Up_n p2) (Fo_t (Fo_n (by omega)) pf) (by decide) (by decide)
  have x9 := cz_S (a := 114) x9 (p2 _ _ (At_n c9 k9))
  have x9 := cz_L (e := 114) x9 pl (by decide)
  have x9 := cz_R x9 (by decide) q1
  have x9 := cz_I x9 (by decide) (q2 4 (by decide) (by decide))
  have x9 := cz_I x9 (by decide) (q2 5 (by decide) (by decide))
  have x9 := cz_I x9 (by decide) (q2 6 (by decide) (by decide))
  have x9 := cz_I x9 (by decide) (q2 7 (by decide) (by decide))
  have x9 := cz_I x9 (by decide) (q2 8 (by decide) (by decide))
  have x9 := cz_I x9 (by decide) (q2 9 (by decide) (by decide))
  have x9 := cz_I x9 (by decide) q3
  have x9 := cz_J x9 (by decide) q4
  have z10 := cz_setR (a := 64) (k := 5) (r := 114) x9 (by decide) (by decide) (by decide +kernel)
  refine wn_jn (wo_putF (m := 16) (k := 5) (x9.2.1 (64, 10, 16) (by decide +kernel)) rfl ?_)
  generalize jh_setR v9 64 5 (some 114) = s10 at z10
  obtain ⟨T10, c10, k10⟩ := z10.1
  have y10 := cz_new (d := 3) (m := 12) z10 (by decide) (by decide)
  have e10 : s10.1.length = 118 := (Cn_len c10).trans k10
  refine wo_aload rfl (wo_new (a := 118) (m := 12) c10 k10 rfl (wo_dupr (wo_aload rfl (wo_getR (m := 16) (k := 9) (y10.2.1 (64, 10, 16) (by decide +kernel)) rfl (y10.2.2.1 ((64, 9), 69) (by decide +kernel)).2 (wn_nil (wn_jn ?_))))))
  refine wc_ci [.ref 69, .ref 118] rfl rfl rfl (z_Mu_init (a := 118) (Cn_new c10 (by decide)) (cz_len k10) (At_n c10 k10) (cz_H y10 (by decide +kernel) (by decide +kernel)) (by decide) (y10.2.2.2.1 ((69, 8), nI 0) (by decide +kernel)).2 (y10.2.2.2.1 ((69, 9), nI 0) (by decide +kernel)).2) fun v10 ⟨p1, p2, pl, pf, q1, q2, q3, q4⟩ => ?_
  have x10 := cz_call (n' := 122) z10 p1 (by simp only [List.length_append, List.length_singleton]; omega) (Up_t Up_n p2) (Fo_t (Fo_n (by omega)) pf) (by decide) (by decide)
  have x10 := cz_S (a := 118) x10 (p2 _ _ (At_n c10 k10))
  have x10 := cz_L (e := 118) x10 pl (by decide)
  have x10 := cz_R x10 (by decide) q1
  have z11 := cz_setR (a := 64) (k := 6) (r := 118) x10 (by decide) (by decide) (by decide +kernel)
  refine (wo_putF (m := 16) (k := 6) (x10.2.1 (64, 10, 16) (by decide +kernel)) rfl ?_)
  generalize jh_setR v10 64 6 (some 118) = s11 at z11
  obtain ⟨T11, c11, k11⟩ := z11.1
  have y11 := cz_new (d := 104) (m := 16) z11 (by decide) (by decide)
  have z12 := cz_setR (a := 64) (k := 7) (r := 122) y11 (by decide) (by decide) (by decide +kernel)
  refine wo_aload rfl (wo_ipush (c := nI 16) rfl (wo_newm (a := 122) (m := 16) c11 k11 (by decide) (by decide) (wo_putF (m := 16) (k := 7) (y11.2.1 (64, 10, 16) (by decide +kernel)) rfl ?_)))
  generalize jh_setR (jh_new s11 104 16) 64 7 (some 122) = s12 at z12
  refine wo_ipush (c := nI 0) rfl (wo_istore (L' := [some (.ref 64), some (.int (nI 0))]) rfl rfl (wn_nil (kk_hit (wp_sq ?_))))
  refine z_loop (k := 7) (ar := 122) (N := 16) (B := B) rfl rfl rfl rfl z12.1 (z12.2.1 (122, 104, 16) (by decide +kernel)) (z12.2.1 (64, 10, 16) (by decide +kernel)) (z12.2.2.1 ((64, 7), 122) (by decide +kernel)).2 (z12.2.2.1 ((64, 9), 69) (by decide +kernel)).2 (cz_H z12 (by decide +kernel) (by decide +kernel)) (z12.2.2.2.1 ((69, 8), nI 0) (by decide +kernel)).2 (z12.2.2.2.1 ((69, 9), nI 0) (by decide +kernel)).2 (by decide) (by decide) fun s13 g1 u13 f13 m13 => ?_
  refine kk_hit (wp_sq (wp_go ?_))
  have z13 := cz_call2 (k := 122) (n' := 187) z12 g1 u13 f13 (by decide) (by decide) (by decide +kernel) (by decide +kernel) (by decide +kernel)
  obtain ⟨T13, c13, k13⟩ := z13.1
  have e13 : s13.1.length = 187 := (Cn_len c13).trans k13
  have y13 := cz_new (d := 104) (m := 4) z13 (by decide) (by decide)
  have z14 := cz_setR (a := 64) (k := 8) (r := 187) y13 (by decide) (by decide) (by decide +kernel)
  have m14 : ∀ j, j < 16 → Mq 122 j (jh_setR (jh_new s13 104 4) 64 8 (some 187)) := fun j hj => by
    obtain ⟨⟨r1, r2⟩, r3, r4⟩ := Mq_o (k := 187) (m13 j hj) Up_n (Fo_n (by omega)) (by omega)
    exact ⟨⟨r1, fun q g => (rR_ne (by omega)).trans (r2 q g)⟩, (rR_ne (by omega)).trans r3, (rR_ne (by omega)).trans r4⟩
  refine wo_aload rfl (wo_ipush (c := nI 4) rfl (wo_newm (a := 187) (m := 4) c13 k13 (by decide) (by decide) (wo_putF (m := 16) (k := 8) (y13.2.1 (64, 10, 16) (by decide +kernel)) rfl ?_)))
  generalize jh_setR (jh_new s13 104 4) 64 8 (some 187) = s14 at z14 m14
  refine wo_ipush (c := nI 0) rfl (wo_istore (L' := [some (.ref 64), some (.int (nI 0))]) rfl rfl (wn_nil (kk_hit (wp_sq ?_))))
  refine z_loop (k := 8) (ar := 187) (N := 4) (B := B) rfl rfl rfl rfl z14.1 (z14.2.1 (187, 104, 4) (by decide +kernel)) (z14.2.1 (64, 10, 16) (by decide +kernel)) (z14.2.2.1 ((64, 8), 187) (by decide +kernel)).2 (z14.2.2.1 ((64, 9), 69) (by decide +kernel)).2 (cz_H z14 (by decide +kernel) (by decide +kernel)) (z14.2.2.2.1 ((69, 8), nI 0) (by decide +kernel)).2 (z14.2.2.2.1 ((69, 9), nI 0) (by decide +kernel)).2 (by decide) (by decide) fun s15 g2 u15 f15 m15 => ?_
  have z15 := cz_call2 (k := 187) (n' := 204) z14 g2 u15 f15 (by decide) (by decide) (by decide +kernel) (by decide +kernel) (by decide +kernel)
  refine kk_hit (wp_rt (wn_nil ⟨rfl, e_V ?_⟩))
  have lc : Lc s15 := z_fin (cz_sub z15 (by decide +kernel) (by decide +kernel)) (fun j hj => Mq_o (k := 187) (m14 j hj) u15 f15 (by omega)) m15 hB hR
  have R : ∀ p k r, ((p, k), r) ∈ _ → s15.2.2.2 p k = some r := fun p k r g => (z15.2.2.1 ((p, k), r) g).2
  have I : ∀ p k x, ((p, k), x) ∈ _ → s15.2.1 p k = x := fun p k x g => (z15.2.2.2.1 ((p, k), x) g).2
  exact ⟨lc, z15.2.2.2.2.2.1, z15.1, z15.2.2.2.2.2.2, ⟨R 64 9 69 (by decide +kernel), R 64 10 80 (by decide +kernel), R 64 11 91 (by decide +kernel), R 64 12 94 (by decide +kernel)⟩, ⟨I 69 8 _ (by decide +kernel), I 69 9 _ (by decide +kernel), I 69 10 _ (by decide +kernel), I 69 12 _ (by decide +kernel), I 77 2 _ (by decide +kernel), I 78 0 _ (by decide +kernel)⟩, ⟨R 114 3 69 (by decide +kernel), I 114 4 _ (by decide +kernel), I 114 5 _ (by decide +kernel), I 114 6 _ (by decide +kernel), I 114 7 _ (by decide +kernel), I 114 8 _ (by decide +kernel), I 114 9 _ (by decide +kernel), I 114 11 _ (by decide +kernel), (z15.2.2.2.2.1 ((114, 10), 0) (by decide +kernel)).2⟩, I 64 13 _ (by decide +kernel), I 64 14 _ (by decide +kernel), I 64 15 _ (by decide +kernel), I 91 2 _ (by decide +kernel), I 65 1 _ (by decide +kernel)⟩
end ZC

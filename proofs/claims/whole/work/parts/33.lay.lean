/-! ===== where everything lies once both are made ===== -/
def ly_sh : List (Nat × Nat) := [(50, 3), (50, 3), (50, 3), (50, 3), (50, 3), (50, 3), (50, 3), (50, 3), (50, 3), (50, 3), (50, 3), (50, 3), (50, 3), (50, 3), (50, 3), (50, 3), (50, 3), (50, 3), (50, 3), (50, 3), (50, 3), (50, 3), (200, 22), (201, 22), (200, 0), (51, 2), (99, 0), (99, 0), (202, 8), (99, 0), (99, 0), (99, 0), (99, 0), (99, 0), (99, 0), (99, 0), (99, 0), (99, 0), (99, 0), (99, 0), (99, 0), (99, 0), (99, 0), (99, 0), (99, 0), (99, 0), (99, 0), (99, 0), (99, 0), (99, 0), (99, 0), (99, 0), (99, 0), (99, 0), (99, 0), (99, 0), (99, 0), (99, 0), (99, 0), (99, 0), (99, 0), (99, 0), (99, 0), (99, 0), (10, 16), (9, 9), (102, 1000), (5, 2), (2, 1), (0, 15), (101, 8), (100, 8), (100, 8), (100, 8), (100, 8), (100, 8), (100, 8), (1, 3), (100, 1000), (100, 32), (0, 15), (101, 8), (100, 8), (100, 8), (100, 8), (100, 8), (100, 8), (100, 8), (1, 3), (100, 1000), (100, 32), (4, 3), (100, 30), (100, 90), (4, 3), (100, 30), (100, 90), (6, 6), (100, 24), (100, 8), (7, 7), (100, 5), (100, 5), (3, 12), (100, 8), (100, 8), (100, 8), (8, 9), (100, 1024), (100, 64), (3, 12), (100, 8), (100, 8), (100, 8), (3, 12), (100, 8), (100, 8), (100, 8), (3, 12), (100, 8), (100, 8), (100, 8), (104, 16), (3, 12), (100, 8), (100, 8), (100, 8), (3, 12), (100, 8), (100, 8), (100, 8), (3, 12), (100, 8), (100, 8), (100, 8), (3, 12), (100, 8), (100, 8), (100, 8), (3, 12), (100, 8), (100, 8), (100, 8), (3, 12), (100, 8), (100, 8), (100, 8), (3, 12), (100, 8), (100, 8), (100, 8), (3, 12), (100, 8), (100, 8), (100, 8), (3, 12), (100, 8), (100, 8), (100, 8), (3, 12), (100, 8), (100, 8), (100, 8), (3, 12), (100, 8), (100, 8), (100, 8), (3, 12), (100, 8), (100, 8), (100, 8), (3, 12), (100, 8), (100, 8), (100, 8), (3, 12), (100, 8), (100, 8), (100, 8), (3, 12), (100, 8), (100, 8), (100, 8), (3, 12), (100, 8), (100, 8), (100, 8), (104, 4), (3, 12), (100, 8), (100, 8), (100, 8), (3, 12), (100, 8), (100, 8), (100, 8), (3, 12), (100, 8), (100, 8), (100, 8), (3, 12), (100, 8), (100, 8), (100, 8), (11, 45), (100, 1000), (100, 1002), (100, 1002), (101, 1002), (101, 21), (100, 360), (100, 2200), (100, 2200), (101, 8), (101, 8), (100, 250), (100, 3), (100, 1100), (100, 2484), (103, 4), (100, 40), (100, 40), (100, 8), (100, 10), (100, 5), (100, 5), (101, 800), (100, 64), (100, 64), (101, 1)]
def ly_ref : List ((Nat × Nat) × Nat) := [((23, 0), 0), ((23, 1), 1), ((23, 2), 2), ((23, 3), 3), ((23, 4), 4), ((23, 5), 5), ((23, 6), 6), ((23, 7), 7), ((23, 8), 8), ((23, 9), 9), ((23, 10), 10), ((23, 11), 11), ((23, 12), 12), ((23, 13), 13), ((23, 14), 14), ((23, 15), 15), ((23, 16), 16), ((23, 17), 17), ((23, 18), 18), ((23, 19), 19), ((23, 20), 20), ((23, 21), 21), ((25, 1), 28), ((64, 0), 65), ((64, 1), 67), ((64, 2), 97), ((64, 3), 100), ((64, 4), 107), ((64, 5), 114), ((64, 6), 118), ((64, 7), 122), ((64, 8), 187), ((65, 0), 66), ((67, 0), 65), ((67, 1), 68), ((68, 0), 65), ((69, 0), 70), ((69, 1), 71), ((69, 2), 72), ((69, 3), 73), ((69, 4), 74), ((69, 5), 75), ((69, 6), 76), ((69, 7), 77), ((77, 0), 78), ((77, 1), 79), ((80, 0), 81), ((80, 1), 82), ((80, 2), 83), ((80, 3), 84), ((80, 4), 85), ((80, 5), 86), ((80, 6), 87), ((80, 7), 88), ((88, 0), 89), ((88, 1), 90), ((91, 0), 92), ((91, 1), 93), ((94, 0), 95), ((94, 1), 96), ((97, 0), 98), ((97, 1), 99), ((100, 0), 103), ((100, 1), 101), ((100, 2), 102), ((103, 0), 104), ((103, 1), 105), ((103, 2), 106), ((107, 0), 110), ((107, 1), 108), ((107, 2), 109), ((110, 0), 111), ((110, 1), 112), ((110, 2), 113), ((114, 0), 115), ((114, 1), 116), ((114, 2), 117), ((118, 0), 119), ((118, 1), 120), ((118, 2), 121), ((122, 0), 123), ((122, 1), 127), ((122, 2), 131), ((122, 3), 135), ((122, 4), 139), ((122, 5), 143), ((122, 6), 147), ((122, 7), 151), ((122, 8), 155), ((122, 9), 159), ((122, 10), 163), ((122, 11), 167), ((122, 12), 171), ((122, 13), 175), ((122, 14), 179), ((122, 15), 183), ((123, 0), 124), ((123, 1), 125), ((123, 2), 126), ((127, 0), 128), ((127, 1), 129), ((127, 2), 130), ((131, 0), 132), ((131, 1), 133), ((131, 2), 134), ((135, 0), 136), ((135, 1), 137), ((135, 2), 138), ((139, 0), 140), ((139, 1), 141), ((139, 2), 142), ((143, 0), 144), ((143, 1), 145), ((143, 2), 146), ((147, 0), 148), ((147, 1), 149), ((147, 2), 150), ((151, 0), 152), ((151, 1), 153), ((151, 2), 154), ((155, 0), 156), ((155, 1), 157), ((155, 2), 158), ((159, 0), 160), ((159, 1), 161), ((159, 2), 162), ((163, 0), 164), ((163, 1), 165), ((163, 2), 166), ((167, 0), 168), ((167, 1), 169), ((167, 2), 170), ((171, 0), 172), ((171, 1), 173), ((171, 2), 174), ((175, 0), 176), ((175, 1), 177), ((175, 2), 178), ((179, 0), 180), ((179, 1), 181), ((179, 2), 182), ((183, 0), 184), ((183, 1), 185), ((183, 2), 186), ((187, 0), 188), ((187, 1), 192), ((187, 2), 196), ((187, 3), 200), ((188, 0), 189), ((188, 1), 190), ((188, 2), 191), ((192, 0), 193), ((192, 1), 194), ((192, 2), 195), ((196, 0), 197), ((196, 1), 198), ((196, 2), 199), ((200, 0), 201), ((200, 1), 202), ((200, 2), 203), ((204, 1), 205), ((204, 4), 206), ((204, 5), 207), ((204, 6), 208), ((204, 9), 209), ((204, 10), 210), ((204, 11), 211), ((204, 12), 212), ((204, 14), 213), ((204, 15), 214), ((204, 20), 215), ((204, 21), 216), ((204, 22), 217), ((204, 23), 218), ((204, 25), 219), ((204, 26), 220), ((204, 27), 221), ((204, 32), 222), ((204, 33), 223), ((204, 35), 224), ((204, 36), 225), ((204, 39), 226), ((204, 42), 227), ((204, 43), 228)]
def ly_dyn : List ((Nat × Nat) × Nat) := [((64, 9), 1), ((64, 10), 1), ((64, 11), 2), ((64, 12), 2), ((65, 4), 3), ((103, 3), 1), ((110, 3), 1), ((114, 3), 1), ((118, 3), 1), ((123, 3), 1), ((127, 3), 1), ((131, 3), 1), ((135, 3), 1), ((139, 3), 1), ((143, 3), 1), ((147, 3), 1), ((151, 3), 1), ((155, 3), 1), ((159, 3), 1), ((163, 3), 1), ((167, 3), 1), ((171, 3), 1), ((175, 3), 1), ((179, 3), 1), ((183, 3), 1), ((188, 3), 1), ((192, 3), 1), ((196, 3), 1), ((200, 3), 1)]
def muL : List Nat := [103, 110, 114, 118, 123, 127, 131, 135, 139, 143, 147, 151, 155, 159, 163, 167, 171, 175, 179, 183, 188, 192, 196, 200]
def IsHo (a : Nat) : Prop := a = 69 ∨ a = 80
def IsLa (a : Nat) : Prop := a = 77 ∨ a = 88
def IsPl (a : Nat) : Prop := a = 91 ∨ a = 94
def IsMu (a : Nat) : Prop := a ∈ muL
def IsA8 (a : Nat) : Prop := a < 229 ∧ a ≠ 24 ∧ ly_sh[a]? = some (100, 8)
def ly_ok (d h : Nat) : Prop := match d with
  | 1 => IsHo h
  | 2 => IsPl h
  | _ => h < 22
def rf (σ : JH) (a k : Nat) : Nat := (σ.2.2.2 a k).getD 0
def Ly (σ : JH) : Prop := (∀ a, a < 229 → a ≠ 24 → σ.1[a]? = ly_sh[a]?) ∧ (∀ q ∈ ly_ref, σ.2.2.2 q.1.1 q.1.2 = some q.2) ∧ (∀ q ∈ ly_dyn, ∃ h, σ.2.2.2 q.1.1 q.1.2 = some h ∧ ly_ok q.2 h)
theorem ly_setI {σ : JH} {a k : Nat} {x : Int32} (h : Ly σ) : Ly (jh_setI σ a k x) := h
theorem ly_setJ {σ : JH} {a k : Nat} {x : Int64} (h : Ly σ) : Ly (jh_setJ σ a k x) := h
theorem ly_cpy {σ : JH} {a b i k n : Nat} (h : Ly σ) : Ly (jh_cpy σ a b i k n) := h
theorem wl_n {σ' : JH} {F : JH → Prop} {os : List JO} {L : JL} {st : List Value} {K : JS → Prop} (hl : Ly σ') (H : lt σ' F) (k : ∀ s, Ly s → F s → WN (jx_run os) (L, st, s) K) : WN (jx_run os) (L, st, σ') K := k σ' hl H
theorem wo_ac {L : JL} {st : List Value} {σ : JH} {K : JS → Prop} {a a' na nb i k w : Nat} {x y q : Int32} {F : JH → Prop} (hl : Ly σ) (hs : σ.1[a]? = some (100, na)) (hs' : σ.1[a']? = some (100, nb)) (hc : ¬ x < 0 ∧ ¬ y < 0 ∧ ¬ q < 0 ∧ x.toNatClampNeg + q.toNatClampNeg ≤ na ∧ y.toNatClampNeg + q.toNatClampNeg ≤ nb) (h1 : cl x = i) (h2 : cl y = k) (h3 : cl q = w) (h : Nat.ble (st.map (fun v => v.category)).sum 8 = true) (H : lt (jh_cpy σ a a' i k w) F) (c : ∀ s, Ly s → F s → K (L, st, s)) : WN jx_ac (L, .int q :: .int y :: .ref a' :: .int x :: .ref a :: st, σ) K := by
  refine ⟨_, ?_, c _ (ly_cpy hl) H⟩
  unfold jx_ac
  simp only [hs, hs', true_and]
  rw [if_pos ⟨hc.1, hc.2.1, hc.2.2.1, hc.2.2.2.1, hc.2.2.2.2, Nat.le_of_ble_eq_true h⟩]
  subst h1; subst h2; subst h3; rfl
theorem ly_setR {σ : JH} {a k d r : Nat} (h : Ly σ) (h1 : ∀ q ∈ ly_ref, q.1 ≠ (a, k)) (h2 : ∀ q ∈ ly_dyn, q.1 = (a, k) → q.2 = d) (h3 : ly_ok d r) : Ly (jh_setR σ a k (some r)) := by
  refine ⟨h.1, fun q hq => ?_, fun q hq => ?_⟩
  · show ju σ.2.2.2 a k (some r) q.1.1 q.1.2 = some q.2
    unfold ju
    rw [if_neg (fun e => h1 q hq (Prod.ext e.1 e.2))]
    exact h.2.1 q hq
  · show ∃ h, ju σ.2.2.2 a k (some r) q.1.1 q.1.2 = some h ∧ ly_ok q.2 h
    unfold ju
    by_cases e : q.1.1 = a ∧ q.1.2 = k
    · rw [if_pos e, h2 q hq (Prod.ext e.1 e.2)]; exact ⟨r, rfl, h3⟩
    · rw [if_neg e]; exact h.2.2 q hq
theorem ly_d {σ : JH} {a k d : Nat} (h : Ly σ) (hm : ((a, k), d) ∈ ly_dyn) : σ.2.2.2 a k = some (rf σ a k) ∧ ly_ok d (rf σ a k) := by
  obtain ⟨r, h1, h2⟩ := h.2.2 _ hm
  have h1 : σ.2.2.2 a k = some r := h1
  have e : rf σ a k = r := by unfold rf; rw [h1]; rfl
  rw [e]
  exact ⟨h1, h2⟩
theorem ly_mu : ∀ a ∈ muL, (a < 226 ∧ a ≠ 24 ∧ a + 1 ≠ 24 ∧ a + 2 ≠ 24 ∧ a + 3 ≠ 24) ∧ ly_sh[a]? = some (3, 12) ∧ ly_sh[a + 1]? = some (100, 8) ∧ ly_sh[a + 2]? = some (100, 8) ∧ ly_sh[a + 3]? = some (100, 8) := by decide +kernel
theorem ly_mur : ∀ a ∈ muL, ((a, 0), a + 1) ∈ ly_ref ∧ ((a, 1), a + 2) ∈ ly_ref ∧ ((a, 2), a + 3) ∈ ly_ref ∧ ((a, 3), 1) ∈ ly_dyn := by decide +kernel
theorem ly_mu3 : ∀ a ∈ muL, (∀ q ∈ ly_ref, q.1 ≠ (a, 3)) ∧ (∀ q ∈ ly_dyn, q.1 = (a, 3) → q.2 = 1) := by decide +kernel
theorem sh_Mu {σ : JH} {a : Nat} (h : Ly σ) (ha : IsMu a) : σ.1[a]? = some (3, 12) := by
  have q := ly_mu a ha
  rw [h.1 a (by omega) q.1.2.1]; exact q.2.1
theorem sa_Mu_1 {σ : JH} {a : Nat} (h : Ly σ) (ha : IsMu a) : σ.1[a + 1]? = some (100, 8) := by
  have q := ly_mu a ha
  rw [h.1 (a + 1) (by omega) q.1.2.2.1]; exact q.2.2.1
theorem sa_Mu_2 {σ : JH} {a : Nat} (h : Ly σ) (ha : IsMu a) : σ.1[a + 2]? = some (100, 8) := by
  have q := ly_mu a ha
  rw [h.1 (a + 2) (by omega) q.1.2.2.2.1]; exact q.2.2.2.1
theorem sa_Mu_3 {σ : JH} {a : Nat} (h : Ly σ) (ha : IsMu a) : σ.1[a + 3]? = some (100, 8) := by
  have q := ly_mu a ha
  rw [h.1 (a + 3) (by omega) q.1.2.2.2.2]; exact q.2.2.2.2
theorem rl_Mu_0 {σ : JH} {a : Nat} (h : Ly σ) (ha : IsMu a) : σ.2.2.2 a 0 = some (a + 1) := h.2.1 _ (ly_mur a ha).1
theorem rl_Mu_1 {σ : JH} {a : Nat} (h : Ly σ) (ha : IsMu a) : σ.2.2.2 a 1 = some (a + 2) := h.2.1 _ (ly_mur a ha).2.1
theorem rl_Mu_2 {σ : JH} {a : Nat} (h : Ly σ) (ha : IsMu a) : σ.2.2.2 a 2 = some (a + 3) := h.2.1 _ (ly_mur a ha).2.2.1
theorem rl_Mu_3 {σ : JH} {a : Nat} (h : Ly σ) (ha : IsMu a) : σ.2.2.2 a 3 = some (rf σ a 3) := (ly_d h (ly_mur a ha).2.2.2).1
theorem kd_Mu_3 {σ : JH} {a : Nat} (h : Ly σ) (ha : IsMu a) : IsHo (rf σ a 3) := (ly_d h (ly_mur a ha).2.2.2).2
theorem ly_put_Mu_3 {σ : JH} {a r : Nat} (h : Ly σ) (ha : IsMu a) (hr : IsHo r) : Ly (jh_setR σ a 3 (some r)) := ly_setR (d := 1) h (ly_mu3 a ha).1 (ly_mu3 a ha).2 hr
theorem la_Ho {h : Nat} (q : IsHo h) : IsLa (h + 8) := by rcases q with rfl | rfl <;> unfold IsLa <;> decide
theorem mu_past {i : Int32} (h : inb i 16) : IsMu (123 + 4 * cl i) := by
  have h : cl i < 16 := Nat.not_le.mp (fun q => h (Or.inr q))
  have : ∀ j, j < 16 → 123 + 4 * j ∈ muL := by decide
  exact this _ h
theorem mu_mark {i : Int32} (h : inb i 4) : IsMu (188 + 4 * cl i) := by
  have h : cl i < 4 := Nat.not_le.mp (fun q => h (Or.inr q))
  have : ∀ j, j < 4 → 188 + 4 * j ∈ muL := by decide
  exact this _ h
theorem rl_past {σ : JH} {i : Int32} (hl : Ly σ) (h : inb i 16) : σ.2.2.2 122 (cl i) = some (123 + 4 * cl i) := by
  have h : cl i < 16 := Nat.not_le.mp (fun q => h (Or.inr q))
  have : ∀ j, j < 16 → ((122, j), 123 + 4 * j) ∈ ly_ref := by decide +kernel
  exact hl.2.1 _ (this _ h)
theorem rl_mark {σ : JH} {i : Int32} (hl : Ly σ) (h : inb i 4) : σ.2.2.2 187 (cl i) = some (188 + 4 * cl i) := by
  have h : cl i < 4 := Nat.not_le.mp (fun q => h (Or.inr q))
  have : ∀ j, j < 4 → ((187, j), 188 + 4 * j) ∈ ly_ref := by decide +kernel
  exact hl.2.1 _ (this _ h)
theorem rl_all {σ : JH} {i : Int32} (hl : Ly σ) (h : inb i 22) : σ.2.2.2 23 (cl i) = some (cl i) := by
  have h : cl i < 22 := Nat.not_le.mp (fun q => h (Or.inr q))
  have : ∀ j, j < 22 → ((23, j), j) ∈ ly_ref := by decide +kernel
  exact hl.2.1 _ (this _ h)
theorem wo_all {i : Int32} (h : inb i 22) : cl i < 22 := Nat.not_le.mp (fun q => h (Or.inr q))
theorem sh_Wo {σ : JH} {w : Nat} (hl : Ly σ) (h : w < 22) : σ.1[w]? = some (50, 3) := by
  have : ∀ j, j < 22 → ly_sh[j]? = some (50, 3) := by decide +kernel
  rw [hl.1 w (by omega) (by omega)]; exact this w h
theorem sh_A8 {σ : JH} {a : Nat} (hl : Ly σ) (h : IsA8 a) : σ.1[a]? = some (100, 8) := by rw [hl.1 a h.1 h.2.1]; exact h.2.2
theorem sh_Ho {σ : JH} {a : Nat} (h : Ly σ) (ha : IsHo a) : σ.1[a]? = some (0, 15) := by rcases ha with rfl | rfl <;> exact (h.1 _ (by decide) (by decide)).trans rfl
theorem sa_Ho_1 {σ : JH} {a : Nat} (h : Ly σ) (ha : IsHo a) : σ.1[a + 1]? = some (101, 8) := by rcases ha with rfl | rfl <;> exact (h.1 _ (by decide) (by decide)).trans rfl
theorem sa_Ho_2 {σ : JH} {a : Nat} (h : Ly σ) (ha : IsHo a) : σ.1[a + 2]? = some (100, 8) := by rcases ha with rfl | rfl <;> exact (h.1 _ (by decide) (by decide)).trans rfl
theorem sa_Ho_3 {σ : JH} {a : Nat} (h : Ly σ) (ha : IsHo a) : σ.1[a + 3]? = some (100, 8) := by rcases ha with rfl | rfl <;> exact (h.1 _ (by decide) (by decide)).trans rfl
theorem sa_Ho_4 {σ : JH} {a : Nat} (h : Ly σ) (ha : IsHo a) : σ.1[a + 4]? = some (100, 8) := by rcases ha with rfl | rfl <;> exact (h.1 _ (by decide) (by decide)).trans rfl
theorem sa_Ho_5 {σ : JH} {a : Nat} (h : Ly σ) (ha : IsHo a) : σ.1[a + 5]? = some (100, 8) := by rcases ha with rfl | rfl <;> exact (h.1 _ (by decide) (by decide)).trans rfl
theorem sa_Ho_6 {σ : JH} {a : Nat} (h : Ly σ) (ha : IsHo a) : σ.1[a + 6]? = some (100, 8) := by rcases ha with rfl | rfl <;> exact (h.1 _ (by decide) (by decide)).trans rfl
theorem sa_Ho_7 {σ : JH} {a : Nat} (h : Ly σ) (ha : IsHo a) : σ.1[a + 7]? = some (100, 8) := by rcases ha with rfl | rfl <;> exact (h.1 _ (by decide) (by decide)).trans rfl
theorem rl_Ho_0 {σ : JH} {a : Nat} (h : Ly σ) (ha : IsHo a) : σ.2.2.2 a 0 = some (a + 1) := by rcases ha with rfl | rfl <;> exact h.2.1 ((_, 0), _) (by decide +kernel)
theorem rl_Ho_1 {σ : JH} {a : Nat} (h : Ly σ) (ha : IsHo a) : σ.2.2.2 a 1 = some (a + 2) := by rcases ha with rfl | rfl <;> exact h.2.1 ((_, 1), _) (by decide +kernel)
theorem rl_Ho_2 {σ : JH} {a : Nat} (h : Ly σ) (ha : IsHo a) : σ.2.2.2 a 2 = some (a + 3) := by rcases ha with rfl | rfl <;> exact h.2.1 ((_, 2), _) (by decide +kernel)
theorem rl_Ho_3 {σ : JH} {a : Nat} (h : Ly σ) (ha : IsHo a) : σ.2.2.2 a 3 = some (a + 4) := by rcases ha with rfl | rfl <;> exact h.2.1 ((_, 3), _) (by decide +kernel)
theorem rl_Ho_4 {σ : JH} {a : Nat} (h : Ly σ) (ha : IsHo a) : σ.2.2.2 a 4 = some (a + 5) := by rcases ha with rfl | rfl <;> exact h.2.1 ((_, 4), _) (by decide +kernel)
theorem rl_Ho_5 {σ : JH} {a : Nat} (h : Ly σ) (ha : IsHo a) : σ.2.2.2 a 5 = some (a + 6) := by rcases ha with rfl | rfl <;> exact h.2.1 ((_, 5), _) (by decide +kernel)
theorem rl_Ho_6 {σ : JH} {a : Nat} (h : Ly σ) (ha : IsHo a) : σ.2.2.2 a 6 = some (a + 7) := by rcases ha with rfl | rfl <;> exact h.2.1 ((_, 6), _) (by decide +kernel)
theorem rl_Ho_7 {σ : JH} {a : Nat} (h : Ly σ) (ha : IsHo a) : σ.2.2.2 a 7 = some (a + 8) := by rcases ha with rfl | rfl <;> exact h.2.1 ((_, 7), _) (by decide +kernel)
theorem sh_La {σ : JH} {a : Nat} (h : Ly σ) (ha : IsLa a) : σ.1[a]? = some (1, 3) := by rcases ha with rfl | rfl <;> exact (h.1 _ (by decide) (by decide)).trans rfl
theorem sa_La_1 {σ : JH} {a : Nat} (h : Ly σ) (ha : IsLa a) : σ.1[a + 1]? = some (100, 1000) := by rcases ha with rfl | rfl <;> exact (h.1 _ (by decide) (by decide)).trans rfl
theorem sa_La_2 {σ : JH} {a : Nat} (h : Ly σ) (ha : IsLa a) : σ.1[a + 2]? = some (100, 32) := by rcases ha with rfl | rfl <;> exact (h.1 _ (by decide) (by decide)).trans rfl
theorem rl_La_0 {σ : JH} {a : Nat} (h : Ly σ) (ha : IsLa a) : σ.2.2.2 a 0 = some (a + 1) := by rcases ha with rfl | rfl <;> exact h.2.1 ((_, 0), _) (by decide +kernel)
theorem rl_La_1 {σ : JH} {a : Nat} (h : Ly σ) (ha : IsLa a) : σ.2.2.2 a 1 = some (a + 2) := by rcases ha with rfl | rfl <;> exact h.2.1 ((_, 1), _) (by decide +kernel)
theorem sh_Pl {σ : JH} {a : Nat} (h : Ly σ) (ha : IsPl a) : σ.1[a]? = some (4, 3) := by rcases ha with rfl | rfl <;> exact (h.1 _ (by decide) (by decide)).trans rfl
theorem sa_Pl_1 {σ : JH} {a : Nat} (h : Ly σ) (ha : IsPl a) : σ.1[a + 1]? = some (100, 30) := by rcases ha with rfl | rfl <;> exact (h.1 _ (by decide) (by decide)).trans rfl
theorem sa_Pl_2 {σ : JH} {a : Nat} (h : Ly σ) (ha : IsPl a) : σ.1[a + 2]? = some (100, 90) := by rcases ha with rfl | rfl <;> exact (h.1 _ (by decide) (by decide)).trans rfl
theorem rl_Pl_0 {σ : JH} {a : Nat} (h : Ly σ) (ha : IsPl a) : σ.2.2.2 a 0 = some (a + 1) := by rcases ha with rfl | rfl <;> exact h.2.1 ((_, 0), _) (by decide +kernel)
theorem rl_Pl_1 {σ : JH} {a : Nat} (h : Ly σ) (ha : IsPl a) : σ.2.2.2 a 1 = some (a + 2) := by rcases ha with rfl | rfl <;> exact h.2.1 ((_, 1), _) (by decide +kernel)
theorem ls_22 {σ : JH} (h : Ly σ) : σ.1[22]? = some (200, 22) := (h.1 22 (by decide) (by decide)).trans rfl
theorem ls_23 {σ : JH} (h : Ly σ) : σ.1[23]? = some (201, 22) := (h.1 23 (by decide) (by decide)).trans rfl
theorem ls_25 {σ : JH} (h : Ly σ) : σ.1[25]? = some (51, 2) := (h.1 25 (by decide) (by decide)).trans rfl
theorem ls_28 {σ : JH} (h : Ly σ) : σ.1[28]? = some (202, 8) := (h.1 28 (by decide) (by decide)).trans rfl
theorem ls_64 {σ : JH} (h : Ly σ) : σ.1[64]? = some (10, 16) := (h.1 64 (by decide) (by decide)).trans rfl
theorem ls_65 {σ : JH} (h : Ly σ) : σ.1[65]? = some (9, 9) := (h.1 65 (by decide) (by decide)).trans rfl
theorem ls_66 {σ : JH} (h : Ly σ) : σ.1[66]? = some (102, 1000) := (h.1 66 (by decide) (by decide)).trans rfl
theorem ls_67 {σ : JH} (h : Ly σ) : σ.1[67]? = some (5, 2) := (h.1 67 (by decide) (by decide)).trans rfl
theorem ls_68 {σ : JH} (h : Ly σ) : σ.1[68]? = some (2, 1) := (h.1 68 (by decide) (by decide)).trans rfl
theorem ls_97 {σ : JH} (h : Ly σ) : σ.1[97]? = some (6, 6) := (h.1 97 (by decide) (by decide)).trans rfl
theorem ls_98 {σ : JH} (h : Ly σ) : σ.1[98]? = some (100, 24) := (h.1 98 (by decide) (by decide)).trans rfl
theorem ls_99 {σ : JH} (h : Ly σ) : σ.1[99]? = some (100, 8) := (h.1 99 (by decide) (by decide)).trans rfl
theorem ls_100 {σ : JH} (h : Ly σ) : σ.1[100]? = some (7, 7) := (h.1 100 (by decide) (by decide)).trans rfl
theorem ls_101 {σ : JH} (h : Ly σ) : σ.1[101]? = some (100, 5) := (h.1 101 (by decide) (by decide)).trans rfl
theorem ls_102 {σ : JH} (h : Ly σ) : σ.1[102]? = some (100, 5) := (h.1 102 (by decide) (by decide)).trans rfl
theorem ls_107 {σ : JH} (h : Ly σ) : σ.1[107]? = some (8, 9) := (h.1 107 (by decide) (by decide)).trans rfl
theorem ls_108 {σ : JH} (h : Ly σ) : σ.1[108]? = some (100, 1024) := (h.1 108 (by decide) (by decide)).trans rfl
theorem ls_109 {σ : JH} (h : Ly σ) : σ.1[109]? = some (100, 64) := (h.1 109 (by decide) (by decide)).trans rfl
theorem ls_122 {σ : JH} (h : Ly σ) : σ.1[122]? = some (104, 16) := (h.1 122 (by decide) (by decide)).trans rfl
theorem ls_187 {σ : JH} (h : Ly σ) : σ.1[187]? = some (104, 4) := (h.1 187 (by decide) (by decide)).trans rfl
theorem ls_204 {σ : JH} (h : Ly σ) : σ.1[204]? = some (11, 45) := (h.1 204 (by decide) (by decide)).trans rfl
theorem ls_205 {σ : JH} (h : Ly σ) : σ.1[205]? = some (100, 1000) := (h.1 205 (by decide) (by decide)).trans rfl
theorem ls_206 {σ : JH} (h : Ly σ) : σ.1[206]? = some (100, 1002) := (h.1 206 (by decide) (by decide)).trans rfl
theorem ls_207 {σ : JH} (h : Ly σ) : σ.1[207]? = some (100, 1002) := (h.1 207 (by decide) (by decide)).trans rfl
theorem ls_208 {σ : JH} (h : Ly σ) : σ.1[208]? = some (101, 1002) := (h.1 208 (by decide) (by decide)).trans rfl
theorem ls_209 {σ : JH} (h : Ly σ) : σ.1[209]? = some (101, 21) := (h.1 209 (by decide) (by decide)).trans rfl
theorem ls_210 {σ : JH} (h : Ly σ) : σ.1[210]? = some (100, 360) := (h.1 210 (by decide) (by decide)).trans rfl
theorem ls_211 {σ : JH} (h : Ly σ) : σ.1[211]? = some (100, 2200) := (h.1 211 (by decide) (by decide)).trans rfl
theorem ls_212 {σ : JH} (h : Ly σ) : σ.1[212]? = some (100, 2200) := (h.1 212 (by decide) (by decide)).trans rfl
theorem ls_213 {σ : JH} (h : Ly σ) : σ.1[213]? = some (101, 8) := (h.1 213 (by decide) (by decide)).trans rfl
theorem ls_214 {σ : JH} (h : Ly σ) : σ.1[214]? = some (101, 8) := (h.1 214 (by decide) (by decide)).trans rfl
theorem ls_215 {σ : JH} (h : Ly σ) : σ.1[215]? = some (100, 250) := (h.1 215 (by decide) (by decide)).trans rfl
theorem ls_216 {σ : JH} (h : Ly σ) : σ.1[216]? = some (100, 3) := (h.1 216 (by decide) (by decide)).trans rfl
theorem ls_217 {σ : JH} (h : Ly σ) : σ.1[217]? = some (100, 1100) := (h.1 217 (by decide) (by decide)).trans rfl
theorem ls_218 {σ : JH} (h : Ly σ) : σ.1[218]? = some (100, 2484) := (h.1 218 (by decide) (by decide)).trans rfl
theorem ls_219 {σ : JH} (h : Ly σ) : σ.1[219]? = some (103, 4) := (h.1 219 (by decide) (by decide)).trans rfl
theorem ls_220 {σ : JH} (h : Ly σ) : σ.1[220]? = some (100, 40) := (h.1 220 (by decide) (by decide)).trans rfl
theorem ls_221 {σ : JH} (h : Ly σ) : σ.1[221]? = some (100, 40) := (h.1 221 (by decide) (by decide)).trans rfl
theorem ls_222 {σ : JH} (h : Ly σ) : σ.1[222]? = some (100, 8) := (h.1 222 (by decide) (by decide)).trans rfl
theorem ls_223 {σ : JH} (h : Ly σ) : σ.1[223]? = some (100, 10) := (h.1 223 (by decide) (by decide)).trans rfl
theorem ls_224 {σ : JH} (h : Ly σ) : σ.1[224]? = some (100, 5) := (h.1 224 (by decide) (by decide)).trans rfl
theorem ls_225 {σ : JH} (h : Ly σ) : σ.1[225]? = some (100, 5) := (h.1 225 (by decide) (by decide)).trans rfl
theorem ls_226 {σ : JH} (h : Ly σ) : σ.1[226]? = some (101, 800) := (h.1 226 (by decide) (by decide)).trans rfl
theorem ls_227 {σ : JH} (h : Ly σ) : σ.1[227]? = some (100, 64) := (h.1 227 (by decide) (by decide)).trans rfl
theorem ls_228 {σ : JH} (h : Ly σ) : σ.1[228]? = some (100, 64) := (h.1 228 (by decide) (by decide)).trans rfl
theorem lr_25_1 {σ : JH} (h : Ly σ) : σ.2.2.2 25 1 = some 28 := h.2.1 ((25, 1), 28) (List.mem_of_getElem? (i := 22) rfl)
theorem lr_64_0 {σ : JH} (h : Ly σ) : σ.2.2.2 64 0 = some 65 := h.2.1 ((64, 0), 65) (List.mem_of_getElem? (i := 23) rfl)
theorem lr_64_1 {σ : JH} (h : Ly σ) : σ.2.2.2 64 1 = some 67 := h.2.1 ((64, 1), 67) (List.mem_of_getElem? (i := 24) rfl)
theorem lr_64_2 {σ : JH} (h : Ly σ) : σ.2.2.2 64 2 = some 97 := h.2.1 ((64, 2), 97) (List.mem_of_getElem? (i := 25) rfl)
theorem lr_64_3 {σ : JH} (h : Ly σ) : σ.2.2.2 64 3 = some 100 := h.2.1 ((64, 3), 100) (List.mem_of_getElem? (i := 26) rfl)
theorem lr_64_4 {σ : JH} (h : Ly σ) : σ.2.2.2 64 4 = some 107 := h.2.1 ((64, 4), 107) (List.mem_of_getElem? (i := 27) rfl)
theorem lr_64_5 {σ : JH} (h : Ly σ) : σ.2.2.2 64 5 = some 114 := h.2.1 ((64, 5), 114) (List.mem_of_getElem? (i := 28) rfl)
theorem lr_64_6 {σ : JH} (h : Ly σ) : σ.2.2.2 64 6 = some 118 := h.2.1 ((64, 6), 118) (List.mem_of_getElem? (i := 29) rfl)
theorem lr_64_7 {σ : JH} (h : Ly σ) : σ.2.2.2 64 7 = some 122 := h.2.1 ((64, 7), 122) (List.mem_of_getElem? (i := 30) rfl)
theorem lr_64_8 {σ : JH} (h : Ly σ) : σ.2.2.2 64 8 = some 187 := h.2.1 ((64, 8), 187) (List.mem_of_getElem? (i := 31) rfl)
theorem lr_65_0 {σ : JH} (h : Ly σ) : σ.2.2.2 65 0 = some 66 := h.2.1 ((65, 0), 66) (List.mem_of_getElem? (i := 32) rfl)
theorem lr_67_0 {σ : JH} (h : Ly σ) : σ.2.2.2 67 0 = some 65 := h.2.1 ((67, 0), 65) (List.mem_of_getElem? (i := 33) rfl)
theorem lr_67_1 {σ : JH} (h : Ly σ) : σ.2.2.2 67 1 = some 68 := h.2.1 ((67, 1), 68) (List.mem_of_getElem? (i := 34) rfl)
theorem lr_68_0 {σ : JH} (h : Ly σ) : σ.2.2.2 68 0 = some 65 := h.2.1 ((68, 0), 65) (List.mem_of_getElem? (i := 35) rfl)
theorem lr_97_0 {σ : JH} (h : Ly σ) : σ.2.2.2 97 0 = some 98 := h.2.1 ((97, 0), 98) (List.mem_of_getElem? (i := 60) rfl)
theorem lr_97_1 {σ : JH} (h : Ly σ) : σ.2.2.2 97 1 = some 99 := h.2.1 ((97, 1), 99) (List.mem_of_getElem? (i := 61) rfl)
theorem lr_100_0 {σ : JH} (h : Ly σ) : σ.2.2.2 100 0 = some 103 := h.2.1 ((100, 0), 103) (List.mem_of_getElem? (i := 62) rfl)
theorem lr_100_1 {σ : JH} (h : Ly σ) : σ.2.2.2 100 1 = some 101 := h.2.1 ((100, 1), 101) (List.mem_of_getElem? (i := 63) rfl)
theorem lr_100_2 {σ : JH} (h : Ly σ) : σ.2.2.2 100 2 = some 102 := h.2.1 ((100, 2), 102) (List.mem_of_getElem? (i := 64) rfl)
theorem lr_107_0 {σ : JH} (h : Ly σ) : σ.2.2.2 107 0 = some 110 := h.2.1 ((107, 0), 110) (List.mem_of_getElem? (i := 68) rfl)
theorem lr_107_1 {σ : JH} (h : Ly σ) : σ.2.2.2 107 1 = some 108 := h.2.1 ((107, 1), 108) (List.mem_of_getElem? (i := 69) rfl)
theorem lr_107_2 {σ : JH} (h : Ly σ) : σ.2.2.2 107 2 = some 109 := h.2.1 ((107, 2), 109) (List.mem_of_getElem? (i := 70) rfl)
theorem lr_204_1 {σ : JH} (h : Ly σ) : σ.2.2.2 204 1 = some 205 := h.2.1 ((204, 1), 205) (List.mem_of_getElem? (i := 160) rfl)
theorem lr_204_4 {σ : JH} (h : Ly σ) : σ.2.2.2 204 4 = some 206 := h.2.1 ((204, 4), 206) (List.mem_of_getElem? (i := 161) rfl)
theorem lr_204_5 {σ : JH} (h : Ly σ) : σ.2.2.2 204 5 = some 207 := h.2.1 ((204, 5), 207) (List.mem_of_getElem? (i := 162) rfl)
theorem lr_204_6 {σ : JH} (h : Ly σ) : σ.2.2.2 204 6 = some 208 := h.2.1 ((204, 6), 208) (List.mem_of_getElem? (i := 163) rfl)
theorem lr_204_9 {σ : JH} (h : Ly σ) : σ.2.2.2 204 9 = some 209 := h.2.1 ((204, 9), 209) (List.mem_of_getElem? (i := 164) rfl)
theorem lr_204_10 {σ : JH} (h : Ly σ) : σ.2.2.2 204 10 = some 210 := h.2.1 ((204, 10), 210) (List.mem_of_getElem? (i := 165) rfl)
theorem lr_204_11 {σ : JH} (h : Ly σ) : σ.2.2.2 204 11 = some 211 := h.2.1 ((204, 11), 211) (List.mem_of_getElem? (i := 166) rfl)
theorem lr_204_12 {σ : JH} (h : Ly σ) : σ.2.2.2 204 12 = some 212 := h.2.1 ((204, 12), 212) (List.mem_of_getElem? (i := 167) rfl)
theorem lr_204_14 {σ : JH} (h : Ly σ) : σ.2.2.2 204 14 = some 213 := h.2.1 ((204, 14), 213) (List.mem_of_getElem? (i := 168) rfl)
theorem lr_204_15 {σ : JH} (h : Ly σ) : σ.2.2.2 204 15 = some 214 := h.2.1 ((204, 15), 214) (List.mem_of_getElem? (i := 169) rfl)
theorem lr_204_20 {σ : JH} (h : Ly σ) : σ.2.2.2 204 20 = some 215 := h.2.1 ((204, 20), 215) (List.mem_of_getElem? (i := 170) rfl)
theorem lr_204_21 {σ : JH} (h : Ly σ) : σ.2.2.2 204 21 = some 216 := h.2.1 ((204, 21), 216) (List.mem_of_getElem? (i := 171) rfl)
theorem lr_204_22 {σ : JH} (h : Ly σ) : σ.2.2.2 204 22 = some 217 := h.2.1 ((204, 22), 217) (List.mem_of_getElem? (i := 172) rfl)
theorem lr_204_23 {σ : JH} (h : Ly σ) : σ.2.2.2 204 23 = some 218 := h.2.1 ((204, 23), 218) (List.mem_of_getElem? (i := 173) rfl)
theorem lr_204_25 {σ : JH} (h : Ly σ) : σ.2.2.2 204 25 = some 219 := h.2.1 ((204, 25), 219) (List.mem_of_getElem? (i := 174) rfl)
theorem lr_204_26 {σ : JH} (h : Ly σ) : σ.2.2.2 204 26 = some 220 := h.2.1 ((204, 26), 220) (List.mem_of_getElem? (i := 175) rfl)
theorem lr_204_27 {σ : JH} (h : Ly σ) : σ.2.2.2 204 27 = some 221 := h.2.1 ((204, 27), 221) (List.mem_of_getElem? (i := 176) rfl)
theorem lr_204_32 {σ : JH} (h : Ly σ) : σ.2.2.2 204 32 = some 222 := h.2.1 ((204, 32), 222) (List.mem_of_getElem? (i := 177) rfl)
theorem lr_204_33 {σ : JH} (h : Ly σ) : σ.2.2.2 204 33 = some 223 := h.2.1 ((204, 33), 223) (List.mem_of_getElem? (i := 178) rfl)
theorem lr_204_35 {σ : JH} (h : Ly σ) : σ.2.2.2 204 35 = some 224 := h.2.1 ((204, 35), 224) (List.mem_of_getElem? (i := 179) rfl)
theorem lr_204_36 {σ : JH} (h : Ly σ) : σ.2.2.2 204 36 = some 225 := h.2.1 ((204, 36), 225) (List.mem_of_getElem? (i := 180) rfl)
theorem lr_204_39 {σ : JH} (h : Ly σ) : σ.2.2.2 204 39 = some 226 := h.2.1 ((204, 39), 226) (List.mem_of_getElem? (i := 181) rfl)
theorem lr_204_42 {σ : JH} (h : Ly σ) : σ.2.2.2 204 42 = some 227 := h.2.1 ((204, 42), 227) (List.mem_of_getElem? (i := 182) rfl)
theorem lr_204_43 {σ : JH} (h : Ly σ) : σ.2.2.2 204 43 = some 228 := h.2.1 ((204, 43), 228) (List.mem_of_getElem? (i := 183) rfl)
theorem lr_64_9 {σ : JH} (h : Ly σ) : σ.2.2.2 64 9 = some (rf σ 64 9) := (ly_d (d := 1) h (List.mem_of_getElem? (i := 0) rfl)).1
theorem kd_64_9 {σ : JH} (h : Ly σ) : IsHo (rf σ 64 9) := (ly_d (d := 1) h (List.mem_of_getElem? (i := 0) rfl)).2
theorem ly_put_64_9 {σ : JH} {r : Nat} (h : Ly σ) (hr : IsHo r) : Ly (jh_setR σ 64 9 (some r)) := ly_setR (d := 1) h (by decide +kernel) (by decide +kernel) hr
theorem lr_64_10 {σ : JH} (h : Ly σ) : σ.2.2.2 64 10 = some (rf σ 64 10) := (ly_d (d := 1) h (List.mem_of_getElem? (i := 1) rfl)).1
theorem kd_64_10 {σ : JH} (h : Ly σ) : IsHo (rf σ 64 10) := (ly_d (d := 1) h (List.mem_of_getElem? (i := 1) rfl)).2
theorem ly_put_64_10 {σ : JH} {r : Nat} (h : Ly σ) (hr : IsHo r) : Ly (jh_setR σ 64 10 (some r)) := ly_setR (d := 1) h (by decide +kernel) (by decide +kernel) hr
theorem lr_64_11 {σ : JH} (h : Ly σ) : σ.2.2.2 64 11 = some (rf σ 64 11) := (ly_d (d := 2) h (List.mem_of_getElem? (i := 2) rfl)).1
theorem kd_64_11 {σ : JH} (h : Ly σ) : IsPl (rf σ 64 11) := (ly_d (d := 2) h (List.mem_of_getElem? (i := 2) rfl)).2
theorem ly_put_64_11 {σ : JH} {r : Nat} (h : Ly σ) (hr : IsPl r) : Ly (jh_setR σ 64 11 (some r)) := ly_setR (d := 2) h (by decide +kernel) (by decide +kernel) hr
theorem lr_64_12 {σ : JH} (h : Ly σ) : σ.2.2.2 64 12 = some (rf σ 64 12) := (ly_d (d := 2) h (List.mem_of_getElem? (i := 3) rfl)).1
theorem kd_64_12 {σ : JH} (h : Ly σ) : IsPl (rf σ 64 12) := (ly_d (d := 2) h (List.mem_of_getElem? (i := 3) rfl)).2
theorem ly_put_64_12 {σ : JH} {r : Nat} (h : Ly σ) (hr : IsPl r) : Ly (jh_setR σ 64 12 (some r)) := ly_setR (d := 2) h (by decide +kernel) (by decide +kernel) hr
theorem lr_65_4 {σ : JH} (h : Ly σ) : σ.2.2.2 65 4 = some (rf σ 65 4) := (ly_d (d := 3) h (List.mem_of_getElem? (i := 4) rfl)).1
theorem kd_65_4 {σ : JH} (h : Ly σ) : rf σ 65 4 < 22 := (ly_d (d := 3) h (List.mem_of_getElem? (i := 4) rfl)).2
theorem ly_put_65_4 {σ : JH} {r : Nat} (h : Ly σ) (hr : r < 22) : Ly (jh_setR σ 65 4 (some r)) := ly_setR (d := 3) h (by decide +kernel) (by decide +kernel) hr
theorem mu_103 : IsMu 103 := by unfold IsMu; decide
theorem mu_110 : IsMu 110 := by unfold IsMu; decide
theorem mu_114 : IsMu 114 := by unfold IsMu; decide
theorem mu_118 : IsMu 118 := by unfold IsMu; decide

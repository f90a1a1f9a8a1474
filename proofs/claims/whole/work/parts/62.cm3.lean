/-! ===== the class: muddles are copied, begun, played ===== -/
theorem mu_sep {a b : Nat} (ha : IsMu a) (hb : IsMu b) (h : a ≠ b) : a + 4 ≤ b ∨ b + 4 ≤ a := by
  have : ∀ a ∈ muL, ∀ b ∈ muL, a ≠ b → a + 4 ≤ b ∨ b + 4 ≤ a := by decide
  exact this a ha b hb h
theorem rC_eq {σ : JH} {x y j : Nat} (h : j < 8) : (jh_cpy σ x y 0 0 8).2.1 y j = σ.2.1 x j := by
  show (if y = y ∧ 0 ≤ j ∧ j < 0 + 8 then σ.2.1 x (0 + (j - 0)) else σ.2.1 y j) = _
  rw [if_pos ⟨rfl, by omega, by omega⟩, Nat.zero_add, Nat.sub_zero]
theorem rC_ne {σ : JH} {x y q j : Nat} (h : q ≠ y) : (jh_cpy σ x y 0 0 8).2.1 q j = σ.2.1 q j := if_neg (fun z => h z.1)
theorem rC_f (σ : JH) (x y b j : Nat) : rf (jh_cpy σ x y 0 0 8) b j = rf σ b j := rfl
theorem rR_I (σ : JH) (a k : Nat) (x : Option Nat) : (jh_setR σ a k x).2.1 = σ.2.1 := rfl
theorem rR_f (σ : JH) (a k r b j : Nat) : rf (jh_setR σ a k (some r)) b j = if b = a ∧ j = k then r else rf σ b j := by
  show ((if b = a ∧ j = k then some r else σ.2.2.2 b j).getD 0) = _
  by_cases h : b = a ∧ j = k
  · rw [if_pos h, if_pos h]; rfl
  · rw [if_neg h, if_neg h]; rfl
def PMc (a b j : Nat) : Prop := (b = a ∧ j ≤ 9) ∨ (a < b ∧ b < a + 4)
section C3
variable {H : Hou} {L : Option Lws} {S : Mud} {a h k e p d : Nat} {σ s : JH}
theorem Fg_C {x y : Nat} {P : Nat → Nat → Prop} (f : Fg P σ s) (hp : ∀ j, P y j) : Fg P σ (jh_cpy s x y 0 0 8) := ⟨f.1, fun b j q => by
  rw [rC_ne (fun z => q (by rw [z]; exact hp j))]
  exact f.2.1 b j q, f.2.2.1, f.2.2.2⟩
theorem Fg_sR {b j : Nat} {x : Option Nat} {P : Nat → Nat → Prop} (f : Fg P σ s) (hp : P b j) : Fg P σ (jh_setR s b j x) := ⟨f.1, f.2.1, f.2.2.1, fun c i q => by
  show (if c = b ∧ i = j then x else s.2.2.2 c i) = _
  rw [if_neg (fun z => q (by rw [z.1, z.2]; exact hp))]
  exact f.2.2.2 c i q⟩
theorem cH_g {t : JH} {P : Nat → Nat → Prop} (f : Fg P s t) (hP : ∀ b j, h ≤ b → b < h + 8 → ¬ P b j) (q : cH H h s) : cH H h t := by
  have g : cH H h (s.1, t.2.1, s.2.2) := cH_f (Fg_i f) hP q
  exact g
set_option maxHeartbeats 1000000 in
theorem c_copy (ha : IsMu a) (hp : IsMu p) (hne : a ≠ p) (hW : WH H) (q : Cs H S p h σ) : WM q_Mu_copy [.ref a, .ref p] σ (kV fun s => Cs H S a h s ∧ Fg (PMc a) σ s ∧ s.2.1 a 9 = σ.2.1 p 9) := by
  have n8 := hW.1
  have hs := mu_sep ha hp hne
  have hh := ho_lt q.2.1
  have hg := mu_ge ha
  obtain ⟨hl, hho, hH, hM⟩ := q
  obtain ⟨m0, m1, m2, m3, m4, m5, m6, m7, m8⟩ := hM
  refine w_Mu_copy a p hl ha hp ?_
  try simp only [lt]
  have hl3 : Ly (jh_cpy (jh_cpy (jh_cpy σ (p + 1) (a + 1) 0 0 8) (p + 2) (a + 2) 0 0 8) (p + 3) (a + 3) 0 0 8) := hl
  have e3 : rf (jh_cpy (jh_cpy (jh_cpy σ (p + 1) (a + 1) 0 0 8) (p + 2) (a + 2) 0 0 8) (p + 3) (a + 3) 0 0 8) p 3 = h := m0
  rw [e3]
  have hl4 := ly_put_Mu_3 hl3 ha hho
  have f3 : Fg (PMc a) σ (jh_cpy (jh_cpy (jh_cpy σ (p + 1) (a + 1) 0 0 8) (p + 2) (a + 2) 0 0 8) (p + 3) (a + 3) 0 0 8) := Fg_C (Fg_C (Fg_C (Fg_r _ _) (fun j => by unfold PMc; omega)) (fun j => by unfold PMc; omega)) (fun j => by unfold PMc; omega)
  have f4 := Fg_sR (x := some h) f3 (show PMc a a 3 by unfold PMc; omega)
  have r1 : ∀ j, j < 8 → (jh_setR (jh_cpy (jh_cpy (jh_cpy σ (p + 1) (a + 1) 0 0 8) (p + 2) (a + 2) 0 0 8) (p + 3) (a + 3) 0 0 8) a 3 (some h)).2.1 (a + 1) j = σ.2.1 (p + 1) j := fun j hj => by
    rw [rR_I, rC_ne (by omega), rC_ne (by omega), rC_eq hj]
  have r2 : ∀ j, j < 8 → (jh_setR (jh_cpy (jh_cpy (jh_cpy σ (p + 1) (a + 1) 0 0 8) (p + 2) (a + 2) 0 0 8) (p + 3) (a + 3) 0 0 8) a 3 (some h)).2.1 (a + 2) j = σ.2.1 (p + 2) j := fun j hj => by
    rw [rR_I, rC_ne (by omega), rC_eq hj, rC_ne (by omega)]
  have r3 : ∀ j, j < 8 → (jh_setR (jh_cpy (jh_cpy (jh_cpy σ (p + 1) (a + 1) 0 0 8) (p + 2) (a + 2) 0 0 8) (p + 3) (a + 3) 0 0 8) a 3 (some h)).2.1 (a + 3) j = σ.2.1 (p + 3) j := fun j hj => by
    rw [rR_I, rC_eq hj, rC_ne (by omega), rC_ne (by omega)]
  have r4 : ∀ j, (jh_setR (jh_cpy (jh_cpy (jh_cpy σ (p + 1) (a + 1) 0 0 8) (p + 2) (a + 2) 0 0 8) (p + 3) (a + 3) 0 0 8) a 3 (some h)).2.1 p j = σ.2.1 p j := fun j => by
    rw [rR_I, rC_ne (by omega), rC_ne (by omega), rC_ne (by omega)]
  have r5 : rf (jh_setR (jh_cpy (jh_cpy (jh_cpy σ (p + 1) (a + 1) 0 0 8) (p + 2) (a + 2) 0 0 8) (p + 3) (a + 3) 0 0 8) a 3 (some h)) a 3 = h := by rw [rR_f, if_pos ⟨rfl, rfl⟩]
  generalize jh_setR (jh_cpy (jh_cpy (jh_cpy σ (p + 1) (a + 1) 0 0 8) (p + 2) (a + 2) 0 0 8) (p + 3) (a + 3) 0 0 8) a 3 (some h) = t at hl4 f4 r1 r2 r3 r4 r5
  have hpa : p ≠ a := fun z => hne z.symm
  simp (disch := omega) only [rI_ne, r4]
  have f5 : ∀ x4 x5 x6 x7 x8 x9, Fi (fun b j => b = a ∧ 4 ≤ j ∧ j ≤ 9) t (jh_setI (jh_setI (jh_setI (jh_setI (jh_setI (jh_setI t a 4 x4) a 5 x5) a 6 x6) a 7 x7) a 8 x8) a 9 x9) := fun x4 x5 x6 x7 x8 x9 => Fi_s (Fi_s (Fi_s (Fi_s (Fi_s (Fi_s (Fi_r _ _) (by omega)) (by omega)) (by omega)) (by omega)) (by omega)) (by omega)
  have f6 := Fg_t f4 (Fg_m (Fi_g (f5 (σ.2.1 p 4) (σ.2.1 p 5) (σ.2.1 p 6) (σ.2.1 p 7) (σ.2.1 p 8) (σ.2.1 p 9))) (fun b j q => by unfold PMc; omega))
  refine ⟨⟨Fi_ly (f5 _ _ _ _ _ _) hl4, hho, cH_g f6 (fun b j h1 h2 => by unfold PMc; omega) hH, ?_⟩, f6, rI_eq⟩
  refine ⟨r5, fun j hj => ?_, fun j hj => ?_, fun j hj => ?_, ?_, ?_, ?_, ?_, ?_⟩
  · simp (disch := omega) only [rI_ne]; rw [r1 j (by omega)]; exact m1 j hj
  · simp (disch := omega) only [rI_ne]; rw [r2 j (by omega)]; exact m2 j hj
  · simp (disch := omega) only [rI_ne]; rw [r3 j (by omega)]; exact m3 j hj
  · simp (disch := omega) only [rI_ne, rI_eq]; exact m4
  · simp (disch := omega) only [rI_ne, rI_eq]; exact m5
  · simp (disch := omega) only [rI_ne, rI_eq]; exact m6
  · simp (disch := omega) only [rI_ne, rI_eq]; exact m7
  · simp (disch := omega) only [rI_ne, rI_eq]; exact m8
/-! looking for rows from a muddle -/
theorem mu_not {a : Nat} (ha : IsMu a) : a ≠ 103 → a ≠ 110 → 114 ≤ a := by
  intro h1 h2
  have : ∀ b ∈ muL, b ≠ 103 → b ≠ 110 → 114 ≤ b := by decide
  exact this a ha h1 h2
theorem Cs_g {t : JH} {P : Nat → Nat → Prop} (q : Cs H S a h s) (f : Fg P s t) (hl : Ly t) (h0 : ¬ P a 3) (h1 : ∀ j, j ≤ 8 → ¬ P a j) (h2 : ∀ b j, a < b → b < a + 4 → ¬ P b j) (h3 : ∀ b j, (69 ≤ b ∧ h ≤ b) → (b < 88 ∧ b < h + 8) → ¬ P b j) : Cs H S a h t := by
  have hh := ho_lt q.2.1
  have g : cMx H S (opn H S) (ast H S) a h (s.1, t.2.1, s.2.2) := cMx_f (Fg_i f) h1 h2 q.2.2.2
  obtain ⟨m0, m1⟩ := g
  refine ⟨hl, q.2.1, cH_g f (fun b j g1 g2 => h3 b j (by omega) (by omega)) q.2.2.1, ?_, m1⟩
  rw [← m0]
  show (t.2.2.2 a 3).getD 0 = (s.2.2.2 a 3).getD 0
  rw [f.2.2.2 a 3 h0]
/-- the places of the row seeker -/
def PSk (b j : Nat) : Prop := (100 ≤ b ∧ b < 107) ∨ b = 79 ∨ b = 90
def fhA (H : Hou) (S : Mud) : Nat → Nat → Option (List Nat)
  | 0, _ => none
  | m + 1, D => match undoR H D S [] with
    | some r => some r
    | none => fhA H S m (D + 1)
theorem cR_nil : cR [] s := fun i p q => by cases q
theorem lh_len (hW : WH H) : ∀ (d : Nat) (S : Mud) (pre r : List Nat), undoR H d S pre = some r → r.length = pre.length + d := by
  intro d
  induction d with
  | zero =>
    intro S pre r h
    have h : (if wrs H S = 0 then some pre else none) = some r := h
    split at h
    · injection h with h; rw [h]; rfl
    · cases h
  | succ d ih =>
    intro S pre r h
    have h : (if 2 * (d + 1) < wrs H S then none else (opl H S).findSome? (fun p => undoR H d (trnC S p) (pre ++ [p]))) = some r := h
    split at h
    · cases h
    · obtain ⟨p, _, hu⟩ := fs_some h
      have := ih _ _ _ hu
      rw [len_app] at this
      omega
set_option maxHeartbeats 1000000 in
theorem c_findHome {a T : Nat} (ha : IsMu a) (h103 : a ≠ 103) (hW : WH H) (hS : WS H S) (q : Cs H S a h σ) (hT : T ≤ 5) : WM q_Se_findHome [.ref 100, .ref a, .int (nI T)] σ (kI fun y s => Ly s ∧ Fg PSk σ s ∧ y = bI (fhA H S (T + 1) 0).isSome ∧ ∀ r, fhA H S (T + 1) 0 = some r → cK r s) := by
  refine w_Se_findHome a _ q.1 ha ?_
  refine WM_V (c_copy mu_103 ha (fun z => h103 z.symm) hW q) fun s0 ⟨C0, f0, _⟩ => ⟨C0.1, ?_⟩
  try simp only [lt]
  have f1 : Fi (fun b j => b = 100 ∧ j = 3) s0 (jh_setI s0 100 3 (nI 0)) := Fi_s (Fi_r _ _) ⟨rfl, rfl⟩
  have C1 : Cs H S 103 h (jh_setI s0 100 3 (nI 0)) := Cs_f C0 f1 (fun j _ => by omega) (fun b j _ _ => by omega) (fun b j _ _ => by omega)
  have g1 : Fg PSk σ (jh_setI s0 100 3 (nI 0)) := Fg_t (Fg_m f0 (fun b j q => by unfold PMc at q; unfold PSk; omega)) (Fg_m (Fi_g f1) (fun b j q => by unfold PSk; omega))
  refine Lp1_inv (I := fun m s => ∃ D, D ≤ T + 1 ∧ m = T + 1 - D ∧ s.2.1 100 3 = nI D ∧ Cs H S 103 h s ∧ Fg PSk σ s ∧ fhA H S (T + 1 - D) D = fhA H S (T + 1) 0) ?_ (m := T + 1) ⟨0, by omega, by omega, rI_eq, C1, g1, rfl⟩
  rintro m s ⟨D, hD, rfl, e3, hC, hg, hf⟩ X hX
  refine ⟨hC.1, ?_⟩
  rw [e3]
  by_cases c : T < D
  · rw [if_pos (by rw [nI_ltN (by omega) (by omega)]; exact c)]
    rw [show T + 1 - D = 0 by omega] at hf
    have hf : none = fhA H S (T + 1) 0 := hf
    rw [← hf]
    exact ⟨hC.1, hg, rfl, fun r z => by cases z⟩
  · rw [if_neg (by rw [nI_ltN (by omega) (by omega)]; exact c), if_neg (by rw [nI_ltN (by omega) (by omega)]; omega)]
    rw [show T + 1 - D = (T - D) + 1 by omega] at hf
    have hf : (match undoR H D S [] with | some r => some r | none => fhA H S (T - D) (D + 1)) = fhA H S (T + 1) 0 := hf
    have nxt : ∀ t, Cs H S 103 h t → Fg PSk σ t → t.2.1 100 3 = nI D → undoR H D S [] = none → X (jh_setI t 100 3 (t.2.1 100 3 + nI 1)) := by
      intro t hCt hgt et hu
      rw [hu] at hf
      have f2 : Fi (fun b j => b = 100 ∧ j = 3) t (jh_setI t 100 3 (t.2.1 100 3 + nI 1)) := Fi_s (Fi_r _ _) ⟨rfl, rfl⟩
      refine hX (T + 1 - (D + 1)) _ (by omega) ⟨D + 1, by omega, rfl, by rw [rI_eq, et, nI_add], Cs_f hCt f2 (fun j _ => by omega) (fun b j _ _ => by omega) (fun b j _ _ => by omega), Fg_t hgt (Fg_m (Fi_g f2) (fun b j q => by unfold PSk; omega)), ?_⟩
      rw [show T + 1 - (D + 1) = T - D by omega]
      exact hf
    refine WE_i (c_canBeHome mu_103 hW hS hC (by omega)) ?_
    cases hb : cbh H S D
    · rw [if_pos (by decide)]
      try simp only [lt]
      have := nxt s hC hg e3 (cbh_undo hW hS hb)
      rw [e3] at this
      exact this
    · rw [if_neg (by decide)]
      refine WM_I (c_leadsHome hW 40 D (by omega) S [] s (by show 0 + D ≤ 5; omega) hS hC cR_nil (by rw [e3]; show nI D = nI (0 + D); rw [Nat.zero_add])) fun y t ⟨hy, hCt, hft, hRt, hrt⟩ => ⟨hCt.1, ?_⟩
      rw [lh_undo hW D S [] hS] at hy hrt
      have et : t.2.1 100 3 = nI D := (hft.2.2 100 3 (by unfold PSe PM; omega)).trans e3
      have hgt : Fg PSk σ t := Fg_t hg (Fg_m (Fi_g hft) (fun b j q => by unfold PSe PM at q; unfold PSk; omega))
      cases hu : undoR H D S [] with
      | none =>
        rw [hu] at hy
        rw [hy, if_pos (by decide)]
        exact nxt t hCt hgt et hu
      | some r =>
        rw [hu] at hy hf
        rw [hy, if_neg (show ¬ bI (some r).isSome = 0 by rw [Option.isSome_some]; decide)]
        have hlen := lh_len hW D S [] r hu
        rw [show ([] : List Nat).length + D = D by simp] at hlen
        refine WM_V (c_keepRow (pre := r) hCt.1 (by omega) (by rw [et, hlen]) (hrt r hu)) fun t2 ⟨l2, f2, k2⟩ => ⟨l2, l2, Fg_t hgt (Fg_m (Fi_g f2) (fun b j q => by unfold PSk; omega)), ?_, fun r' z => ?_⟩
        · rw [← hf]; rfl
        · rw [← hf] at z; injection z with z; rw [← z]; exact k2
set_option maxHeartbeats 1000000 in
theorem c_findLeast {a T : Nat} (ha : IsMu a) (h103 : a ≠ 103) (hW : WH H) (hS : WS H S) (q : Cs H S a h σ) (hT : T ≤ 5) (due : Bool) : WM q_Se_findLeast [.ref 100, .ref a, .int (nI T), .int (bI due)] σ (kI fun y s => Ly s ∧ Fg PSk σ s ∧ (due = false → cW (lsA H S T) s) ∧ (due = true → T = 1 → y = bI (decide ((lsR H 1 S [] (9, [])).1 ≤ 8)) ∧ cW (lsR H 1 S [] (9, [])) s)) := by
  have hw := wrs_le S hW
  refine w_Se_findLeast a _ _ q.1 ha ?_
  simp only [JJ2]
  refine WM_V (c_copy mu_103 ha (fun z => h103 z.symm) hW q) fun s0 ⟨C0, f0, _⟩ => ⟨C0.1, ?_⟩
  try simp only [lt]
  have f1 : Fi (fun b j => b = 100 ∧ (j = 3 ∨ j = 5)) s0 (jh_setI s0 100 3 (nI 0)) := Fi_s (Fi_r _ _) (by omega)
  have C1 : Cs H S 103 h (jh_setI s0 100 3 (nI 0)) := Cs_f C0 f1 (fun j _ => by omega) (fun b j _ _ => by omega) (fun b j _ _ => by omega)
  have main : ∀ w, w ≤ 9 → (due = false → w = wrs H S) → (due = true → w = 9) → WM q_Se_keepRow [.ref 100] (jh_setI (jh_setI s0 100 3 (nI 0)) 100 5 (nI w)) (kV fun s5 => Ly s5 ∧ lt (jh_setI s5 100 3 (nI 1)) (fun s6 => Lp1 (fun (s7 : JH) X8 => Ly s7 ∧ (if nI T < s7.2.1 100 3 then (if nI 8 < s7.2.1 100 5 then (Ly s7 ∧ Fg PSk σ s7 ∧ (due = false → cW (lsA H S T) s7) ∧ (due = true → T = 1 → nI 0 = bI (decide ((lsR H 1 S [] (9, [])).1 ≤ 8)) ∧ cW (lsR H 1 S [] (9, [])) s7)) else (Ly s7 ∧ Fg PSk σ s7 ∧ (due = false → cW (lsA H S T) s7) ∧ (due = true → T = 1 → nI 1 = bI (decide ((lsR H 1 S [] (9, [])).1 ≤ 8)) ∧ cW (lsR H 1 S [] (9, [])) s7))) else (if nI 5 < s7.2.1 100 3 then (if nI 8 < s7.2.1 100 5 then (Ly s7 ∧ Fg PSk σ s7 ∧ (due = false → cW (lsA H S T) s7) ∧ (due = true → T = 1 → nI 0 = bI (decide ((lsR H 1 S [] (9, [])).1 ≤ 8)) ∧ cW (lsR H 1 S [] (9, [])) s7)) else (Ly s7 ∧ Fg PSk σ s7 ∧ (due = false → cW (lsA H S T) s7) ∧ (due = true → T = 1 → nI 1 = bI (decide ((lsR H 1 S [] (9, [])).1 ≤ 8)) ∧ cW (lsR H 1 S [] (9, [])) s7))) else WM q_Se_lessen [.ref 100, .int (s7.2.1 100 3)] s7 (kV fun s9 => Ly s9 ∧ lt (jh_setI s9 100 3 ((s9.2.1 100 3) + nI 1)) (fun s10 => X8 s10))))) s6)) := by
    intro w hw9 hw1 hw2
    have f2 : Fi (fun b j => b = 100 ∧ (j = 3 ∨ j = 5)) s0 (jh_setI (jh_setI s0 100 3 (nI 0)) 100 5 (nI w)) := Fi_s f1 (by omega)
    have C2 : Cs H S 103 h (jh_setI (jh_setI s0 100 3 (nI 0)) 100 5 (nI w)) := Cs_f C0 f2 (fun j _ => by omega) (fun b j _ _ => by omega) (fun b j _ _ => by omega)
    refine WM_V (c_keepRow (pre := []) C2.1 (by simp) (by rw [rI_ne (by omega), rI_eq]; rfl) cR_nil) fun s5 ⟨l5, f5, k5⟩ => ⟨l5, ?_⟩
    try simp only [lt]
    have f6 : Fi (fun b j => b = 102 ∨ (b = 100 ∧ (j = 3 ∨ j = 4 ∨ j = 5))) s0 (jh_setI s5 100 3 (nI 1)) := Fi_s (Fi_t (Fi_m f2 (fun b j q => by omega)) (Fi_m f5 (fun b j q => by omega))) (by omega)
    have C6 : Cs H S 103 h (jh_setI s5 100 3 (nI 1)) := Cs_f C0 f6 (fun j _ => by omega) (fun b j _ _ => by omega) (fun b j _ _ => by omega)
    have g6 : Fg PSk σ (jh_setI s5 100 3 (nI 1)) := Fg_t (Fg_m f0 (fun b j q => by unfold PMc at q; unfold PSk; omega)) (Fg_m (Fi_g f6) (fun b j q => by unfold PSk; omega))
    have W6 : cW (w, []) (jh_setI s5 100 3 (nI 1)) := ⟨by rw [rI_ne (by omega), f5.2.2 100 5 (by omega), rI_eq], hw9, (cK_f (P := fun b j => b = 100 ∧ j = 3) (Fi_s (Fi_r _ _) ⟨rfl, rfl⟩) (fun j => by omega) (by omega) k5)⟩
    refine Lp1_inv (I := fun m s => ∃ D b, 1 ≤ D ∧ D ≤ T + 1 ∧ m = T + 1 - D ∧ s.2.1 100 3 = nI D ∧ Cs H S 103 h s ∧ Fg PSk σ s ∧ cW b s ∧ (due = false → b = lsA H S (D - 1)) ∧ (due = true → T = 1 → b = if D = 1 then (9, []) else lsR H 1 S [] (9, []))) ?_ (m := T) ?_
    · rintro m s ⟨D, b, hD1, hD, rfl, e3, hC, hg, hb, hb1, hb2⟩ X hX
      refine ⟨hC.1, ?_⟩
      rw [e3, hb.1]
      have hb9 := hb.2.1
      by_cases c : T < D
      · rw [if_pos (by rw [nI_ltN (by omega) (by omega)]; exact c)]
        have hD' : D = T + 1 := by omega
        rw [hD', Nat.add_sub_cancel] at hb1
        have fin : ∀ y : Int32, y = bI (decide (b.1 ≤ 8)) → (Ly s ∧ Fg PSk σ s ∧ (due = false → cW (lsA H S T) s) ∧ (due = true → T = 1 → y = bI (decide ((lsR H 1 S [] (9, [])).1 ≤ 8)) ∧ cW (lsR H 1 S [] (9, [])) s)) := fun y hy => ⟨hC.1, hg, fun z => by rw [← hb1 z]; exact hb, fun z z2 => by
          have e := hb2 z z2
          rw [if_neg (by omega)] at e
          rw [← e]
          exact ⟨hy, hb⟩⟩
        by_cases z : 8 < b.1
        · rw [if_pos (by rw [nI_ltN (by omega) (by omega)]; exact z)]
          exact fin _ (by rw [decide_eq_false (by omega)]; rfl)
        · rw [if_neg (by rw [nI_ltN (by omega) (by omega)]; exact z)]
          exact fin _ (by rw [decide_eq_true (by omega)]; rfl)
      · rw [if_neg (by rw [nI_ltN (by omega) (by omega)]; exact c), if_neg (by rw [nI_ltN (by omega) (by omega)]; omega)]
        refine WM_V (c_lessen hW 40 D (by omega) S [] b s (by show 0 + D ≤ 5; omega) hS hC cR_nil hb (by rw [e3]; show nI D = nI (0 + D); rw [Nat.zero_add])) fun t ⟨hCt, hft, hRt, hbt⟩ => ⟨hCt.1, ?_⟩
        have et : t.2.1 100 3 = nI D := (hft.2.2 100 3 (by unfold PLs PSe PM; omega)).trans e3
        try simp only [lt]
        have f2 : Fi (fun b j => b = 100 ∧ j = 3) t (jh_setI t 100 3 (t.2.1 100 3 + nI 1)) := Fi_s (Fi_r _ _) ⟨rfl, rfl⟩
        refine hX (T + 1 - (D + 1)) _ (by omega) ⟨D + 1, _, by omega, by omega, rfl, by rw [rI_eq, et, nI_add], Cs_f hCt f2 (fun j _ => by omega) (fun b j _ _ => by omega) (fun b j _ _ => by omega), Fg_t hg (Fg_t (Fg_m (Fi_g hft) (fun b j q => by unfold PLs PSe PM at q; unfold PSk; omega)) (Fg_m (Fi_g f2) (fun b j q => by unfold PSk; omega))), cW_f f2 (fun j => by omega) (by omega) (by omega) hbt, fun z => ?_, fun z z2 => ?_⟩
        · rw [hb1 z, Nat.add_sub_cancel]
          obtain ⟨D, rfl⟩ : ∃ D', D = D' + 1 := ⟨D - 1, by omega⟩
          rw [Nat.add_sub_cancel]
          rfl
        · have e := hb2 z z2
          have : D = 1 := by omega
          rw [if_pos this] at e
          rw [if_neg (by omega), e, this]
    · refine ⟨1, (w, []), by omega, by omega, by omega, rI_eq, C6, g6, W6, fun z => ?_, fun z z2 => ?_⟩
      · rw [hw1 z]; rfl
      · rw [if_pos rfl, hw2 z]
  cases due with
  | false =>
    rw [if_pos (by decide)]
    refine WE_i (c_wrongOnes C1.1 mu_103 hW C1.2.2.2) ?_
    exact main (wrs H S) (by omega) (fun _ => rfl) (fun z => by cases z)
  | true =>
    rw [if_neg (by decide)]
    exact main 9 (by omega) (fun z => by cases z) (fun _ => rfl)
set_option maxHeartbeats 1000000 in
theorem c_findCheap {a T : Nat} (ha : IsMu a) (h103 : a ≠ 103) (hW : WH H) (hS : WS H S) (q : Cs H S a h σ) (hLw : cL (lwl L) (h + 8) σ) (hT : T ≤ 5) : WM q_Se_findCheap [.ref 100, .ref a, .int (nI T)] σ (kI fun y s => Ly s ∧ Fg PSk σ s ∧ y = bI (chA H L S T).isSome ∧ cC (chA H L S T) s) := by
  have hho := ho_is q.2.1
  refine w_Se_findCheap a _ q.1 ha ?_
  refine WM_V (c_copy mu_103 ha (fun z => h103 z.symm) hW q) fun s0 ⟨C0, f0, _⟩ => ⟨C0.1, ?_⟩
  try simp only [lt]
  have f1 : Fi (fun b j => b = 100 ∧ (j = 3 ∨ j = 6)) s0 (jh_setI (jh_setI s0 100 6 (nI 2147483647)) 100 3 (nI 0)) := Fi_s (Fi_s (Fi_r _ _) (by omega)) (by omega)
  have C1 : Cs H S 103 h (jh_setI (jh_setI s0 100 6 (nI 2147483647)) 100 3 (nI 0)) := Cs_f C0 f1 (fun j _ => by omega) (fun b j _ _ => by omega) (fun b j _ _ => by omega)
  have g1 : Fg PSk σ (jh_setI (jh_setI s0 100 6 (nI 2147483647)) 100 3 (nI 0)) := Fg_t (Fg_m f0 (fun b j q => by unfold PMc at q; unfold PSk; omega)) (Fg_m (Fi_g f1) (fun b j q => by unfold PSk; omega))
  have L1 : ∀ t, Fg PSk σ t → cL (lwl L) (h + 8) t := fun t ft => by
    have g : cL (lwl L) (h + 8) (σ.1, t.2.1, σ.2.2) := cL_f (Fg_i ft) (by unfold PSk; omega) (fun j => by unfold PSk; omega) hLw
    exact g
  refine Lp1_inv (I := fun m s => ∃ D b, D ≤ T + 1 ∧ m = T + 1 - D ∧ s.2.1 100 3 = nI D ∧ Cs H S 103 h s ∧ Fg PSk σ s ∧ cC b s ∧ b = (if D = 0 then none else chA H L S (D - 1))) ?_ (m := T + 1) ⟨0, none, by omega, by omega, rI_eq, C1, g1, by show _ = _; rw [rI_ne (by omega), rI_eq], rfl⟩
  rintro m s ⟨D, b, hD, rfl, e3, hC, hg, hb, hbe⟩ X hX
  refine ⟨hC.1, ?_⟩
  rw [e3]
  by_cases c : T < D
  · rw [if_pos (by rw [nI_ltN (by omega) (by omega)]; exact c)]
    rw [show D = T + 1 by omega, if_neg (by omega), Nat.add_sub_cancel] at hbe
    rw [← hbe]
    cases b with
    | none =>
      rw [if_pos (show s.2.1 100 6 = nI 2147483647 from hb)]
      exact ⟨hC.1, hg, rfl, hb⟩
    | some z =>
      obtain ⟨w, r⟩ := z
      rw [if_neg (by rw [hb.1, nI_eqN (by have := hb.2.1; omega) (by omega)]; have := hb.2.1; omega)]
      exact ⟨hC.1, hg, rfl, hb⟩
  · rw [if_neg (by rw [nI_ltN (by omega) (by omega)]; exact c), if_neg (by rw [nI_ltN (by omega) (by omega)]; omega)]
    have ehA : ∀ b', b' = (if cbh H S D = true then chC H L D S [] 0 b else b) → b' = (if D + 1 = 0 then none else chA H L S (D + 1 - 1)) := by
      intro b' hb'
      have e : (if D + 1 = 0 then none else chA H L S (D + 1 - 1)) = chA H L S D := by rw [if_neg (by omega), Nat.add_sub_cancel]
      rw [e, hb', hbe]
      cases D with
      | zero => rw [if_pos (show (0 : Nat) = 0 from rfl)]; rfl
      | succ D => rw [if_neg (show ¬ D + 1 = 0 by omega), Nat.add_sub_cancel]; rfl
    refine WE_i (c_canBeHome mu_103 hW hS hC (by omega)) ?_
    cases hbh : cbh H S D
    · rw [if_pos (by decide)]
      rw [hbh, if_neg (by decide)] at ehA
      try simp only [lt]
      have f2 : ∀ x, Fi (fun b j => b = 100 ∧ j = 3) s (jh_setI s 100 3 x) := fun x => Fi_s (Fi_r _ _) ⟨rfl, rfl⟩
      exact hX (T + 1 - (D + 1)) _ (by omega) ⟨D + 1, b, by omega, rfl, by rw [rI_eq, nI_add], Cs_f hC (f2 _) (fun j _ => by omega) (fun b j _ _ => by omega) (fun b j _ _ => by omega), Fg_t hg (Fg_m (Fi_g (f2 _)) (fun b j q => by unfold PSk; omega)), cC_f (f2 _) (fun j => by omega) (by omega) (by omega) hb, ehA b rfl⟩
    · rw [if_neg (by decide)]
      rw [hbh, if_pos rfl] at ehA
      refine WM_V (c_cheapen (L := L) hW 40 D (by omega) S [] 0 b s (by show 0 + D ≤ 5; omega) (by omega) hS hC (L1 s hg) cR_nil hb (by rw [e3]; show nI D = nI (0 + D); rw [Nat.zero_add])) fun t ⟨hCt, hft, hRt, hbt⟩ => ⟨hCt.1, ?_⟩
      have et : t.2.1 100 3 = nI D := (hft.2.2 100 3 (by unfold PCh PSe PM; omega)).trans e3
      try simp only [lt]
      have f2 : Fi (fun b j => b = 100 ∧ j = 3) t (jh_setI t 100 3 (t.2.1 100 3 + nI 1)) := Fi_s (Fi_r _ _) ⟨rfl, rfl⟩
      exact hX (T + 1 - (D + 1)) _ (by omega) ⟨D + 1, _, by omega, rfl, by rw [rI_eq, et, nI_add], Cs_f hCt f2 (fun j _ => by omega) (fun b j _ _ => by omega) (fun b j _ _ => by omega), Fg_t hg (Fg_t (Fg_m (Fi_g hft) (fun b j q => by unfold PCh PSe PM at q; unfold PSk; omega)) (Fg_m (Fi_g f2) (fun b j q => by unfold PSk; omega))), cC_f f2 (fun j => by omega) (by omega) (by omega) hbt, ehA _ rfl⟩
end C3

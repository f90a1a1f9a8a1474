/-! ===== heaps: what a write changes ===== -/
theorem rI (σ : JH) (a k : Nat) (x : Int32) (b j : Nat) : (jh_setI σ a k x).2.1 b j = if b = a ∧ j = k then x else σ.2.1 b j := rfl
theorem rI_eq {σ : JH} {a k : Nat} {x : Int32} : (jh_setI σ a k x).2.1 a k = x := if_pos ⟨rfl, rfl⟩
theorem rI_ne {σ : JH} {a k : Nat} {x : Int32} {b j : Nat} (h : b ≠ a ∨ j ≠ k) : (jh_setI σ a k x).2.1 b j = σ.2.1 b j := if_neg (fun q => h.elim (fun h => h q.1) (fun h => h q.2))
theorem rI_2 (σ : JH) (a k : Nat) (x : Int32) : (jh_setI σ a k x).2.2 = σ.2.2 := rfl
theorem rI_f (σ : JH) (a k : Nat) (x : Int32) (b j : Nat) : rf (jh_setI σ a k x) b j = rf σ b j := rfl
/-- only ints within P changed -/
def Fi (P : Nat → Nat → Prop) (σ s : JH) : Prop := s.1 = σ.1 ∧ s.2.2 = σ.2.2 ∧ ∀ b j, ¬ P b j → s.2.1 b j = σ.2.1 b j
section FI
variable {P Q : Nat → Nat → Prop} {σ s t : JH}
theorem Fi_r (P : Nat → Nat → Prop) (σ : JH) : Fi P σ σ := ⟨rfl, rfl, fun _ _ _ => rfl⟩
theorem Fi_t (h : Fi P σ s) (h' : Fi P s t) : Fi P σ t := ⟨h'.1.trans h.1, h'.2.1.trans h.2.1, fun b j q => (h'.2.2 b j q).trans (h.2.2 b j q)⟩
theorem Fi_s {a k : Nat} {x : Int32} (h : Fi P σ s) (hp : P a k) : Fi P σ (jh_setI s a k x) := ⟨h.1, h.2.1, fun b j q => by
  rw [rI, if_neg (fun e => q (by rw [e.1, e.2]; exact hp))]
  exact h.2.2 b j q⟩
theorem Fi_m (h : Fi P σ s) (hm : ∀ b j, P b j → Q b j) : Fi Q σ s := ⟨h.1, h.2.1, fun b j q => h.2.2 b j (fun p => q (hm b j p))⟩
theorem Fi_ly (h : Fi P σ s) (hl : Ly σ) : Ly s := by
  obtain ⟨h1, h2, _⟩ := h
  unfold Ly at hl ⊢
  rw [h1, h2]
  exact hl
theorem Fi_rf (h : Fi P σ s) (b j : Nat) : rf s b j = rf σ b j := by unfold rf; rw [h.2.1]
end FI
/-! ===== the picture: a cellar as it was told (Hou), who is in whom (Mud) ===== -/
abbrev Hou : Type := Nat × (Nat → Nat) × (Nat → Bool) × (Nat → Nat) × (Nat → Nat) × (Nat → Nat → Bool) × (Nat → Nat → Bool) × Nat
abbrev Mud : Type := (Nat → Nat) × (Nat → Nat) × (Nat → Bool) × (Nat → Nat → Bool) × Nat × Nat
abbrev Hn (H : Hou) : Nat := H.1
abbrev Hk (H : Hou) : Nat → Nat := H.2.1
abbrev Hw (H : Hou) : Nat → Bool := H.2.2.1
abbrev Hp (H : Hou) : Nat → Nat := H.2.2.2.1
abbrev Hm (H : Hou) : Nat → Nat := H.2.2.2.2.1
abbrev Hb (H : Hou) : Nat → Nat → Bool := H.2.2.2.2.2.1
abbrev Hx (H : Hou) : Nat → Nat → Bool := H.2.2.2.2.2.2.1
abbrev Ho (H : Hou) : Nat := H.2.2.2.2.2.2.2
abbrev mi (S : Mud) : Nat → Nat := S.1
abbrev sa (S : Mud) : Nat → Nat := S.2.1
abbrev th (S : Mud) : Nat → Bool := S.2.2.1
abbrev me (S : Mud) : Nat → Nat → Bool := S.2.2.2.1
abbrev tu (S : Mud) : Nat := S.2.2.2.2.1
abbrev pa (S : Mud) : Nat := S.2.2.2.2.2
/-- how often a body may sit; one who is ill: never -/
def lim (H : Hou) (k : Nat) : Nat := if Hk H k = 1 then 0 else if Hk H k = 2 then min (Ho H) 2 else Ho H
def opn (H : Hou) (S : Mud) (k : Nat) : Bool := th S k && decide (sa S k < lim H k)
def ast (H : Hou) (S : Mud) (k : Nat) : Bool := !decide (mi S k = k) && !decide (Hk H k = 3)
def ctb (H : Hou) (k : Nat) : Bool := decide (Hk H k = 3)
def mayT (H : Hou) (S : Mud) (k e : Nat) : Bool := opn H S k && opn H S e && !decide (k = e) && !me S k e && !Hx H k e
def wrs (H : Hou) (S : Mud) : Nat := cntB (ast H S) (Hn H)
/-- the cellar is sound -/
def WH (H : Hou) : Prop := Hn H ≤ 8 ∧ Ho H < 10 ∧ 1 ≤ Ho H ∧ (∀ k, k < Hn H → Hk H k < 4) ∧ (∀ k, k < Hn H → Hp H k < 1000) ∧ Pn (Hm H) (Hn H) ∧ (∀ k, k < Hn H → Hw H k = true → Hm H k = k) ∧ (∀ k e, Hx H k e = Hx H e k) ∧ (∀ k e, Hb H k e = Hb H e k) ∧ (∀ k, k < Hn H → Hw H k = false → Hp H k = 0) ∧ (∀ k, Hx H k k = false) ∧ (∀ k, Hb H k k = false) ∧ (∀ k, k < Hn H → Hw H k = true → Hk H k = 0)
/-- the muddle is sound -/
def WS (H : Hou) (S : Mud) : Prop := Pn (mi S) (Hn H) ∧ (∀ k, k < Hn H → th S k = false → mi S k = k) ∧ (∀ k e, me S k e = me S e k) ∧ (∀ k, k < Hn H → sa S k < 1000) ∧ (∀ k, k < Hn H → Hw H k = false → th S k = true)
def mswp (S : Mud) (k e : Nat) : Mud := (swp (mi S) k e, sa S, th S, me S, tu S, pa S)
def mjoin (S : Mud) (k e : Nat) : Mud := (mi S, (fun j => if j = k ∨ j = e then sa S j + 1 else sa S j), th S, (fun i j => if (i = k ∧ j = e) ∨ (i = e ∧ j = k) then true else me S i j), tu S, pa S + 1)
def mtu (S : Mud) : Mud := (mi S, sa S, th S, me S, tu S + 1, pa S)
/-- a turn -/
def trn (S : Mud) (k e : Nat) : Mud := mtu (mjoin (mswp S k e) k e)
theorem me_mjoin (S : Mud) (k e i j : Nat) : me (mjoin S k e) i j = if (i = k ∧ j = e) ∨ (i = e ∧ j = k) then true else me S i j := rfl
theorem sa_mjoin (S : Mud) (k e j : Nat) : sa (mjoin S k e) j = if j = k ∨ j = e then sa S j + 1 else sa S j := rfl
theorem me_trn (S : Mud) (k e i j : Nat) : me (trn S k e) i j = if (i = k ∧ j = e) ∨ (i = e ∧ j = k) then true else me S i j := rfl
theorem sa_trn (S : Mud) (k e j : Nat) : sa (trn S k e) j = if j = k ∨ j = e then sa S j + 1 else sa S j := rfl
theorem mi_trn (S : Mud) (k e : Nat) : mi (trn S k e) = swp (mi S) k e := rfl
theorem th_trn (S : Mud) (k e : Nat) : th (trn S k e) = th S := rfl
theorem me_mt (S : Mud) (k e i j : Nat) : me (mswp (trn S k e) k e) i j = if (i = k ∧ j = e) ∨ (i = e ∧ j = k) then true else me S i j := rfl
theorem sa_mt (S : Mud) (k e j : Nat) : sa (mswp (trn S k e) k e) j = if j = k ∨ j = e then sa S j + 1 else sa S j := rfl
/-- the class's rows hold the cellar -/
def cH (H : Hou) (h : Nat) (σ : JH) : Prop :=
  σ.2.1 h 8 = nI (Hn H) ∧ σ.2.1 h 9 = nI (msk (Hw H) (Hn H)) ∧ σ.2.1 h 10 = nI (msk (ctb H) (Hn H)) ∧ σ.2.1 h 12 = nI (Ho H) ∧
  (∀ k, k < Hn H → σ.2.1 (h + 2) k = nI (Hk H k)) ∧ (∀ k, k < Hn H → σ.2.1 (h + 3) k = nI (Hp H k)) ∧ (∀ k, k < Hn H → σ.2.1 (h + 4) k = nI (Hm H k)) ∧
  (∀ k, k < Hn H → σ.2.1 (h + 5) k = nI (msk (Hb H k) (Hn H))) ∧ (∀ k, k < Hn H → σ.2.1 (h + 6) k = nI (msk (Hx H k) (Hn H))) ∧ (∀ k, k < Hn H → σ.2.1 (h + 7) k = nI (lim H k))
def cMx (H : Hou) (S : Mud) (op as : Nat → Bool) (a h : Nat) (σ : JH) : Prop :=
  rf σ a 3 = h ∧ (∀ k, k < Hn H → σ.2.1 (a + 1) k = nI (mi S k)) ∧ (∀ k, k < Hn H → σ.2.1 (a + 2) k = nI (msk (me S k) (Hn H))) ∧ (∀ k, k < Hn H → σ.2.1 (a + 3) k = nI (sa S k)) ∧
  σ.2.1 a 4 = nI (msk (th S) (Hn H)) ∧ σ.2.1 a 5 = nI (msk op (Hn H)) ∧ σ.2.1 a 6 = nI (msk as (Hn H)) ∧ σ.2.1 a 7 = nI (tu S) ∧ σ.2.1 a 8 = nI (pa S)
/-- the class's rows from a on hold the muddle -/
def cM (H : Hou) (S : Mud) (a h : Nat) (σ : JH) : Prop := cMx H S (opn H S) (ast H S) a h σ
def PM (a b j : Nat) : Prop := (b = a ∧ j ≤ 8) ∨ (a < b ∧ b < a + 4)
theorem mu_ge {a : Nat} (h : IsMu a) : 103 ≤ a ∧ a < 204 := by
  have : ∀ b ∈ muL, 103 ≤ b ∧ b < 204 := by decide
  exact this a h
theorem ho_lt {h : Nat} (q : IsHo h) : 69 ≤ h ∧ h < 81 := by rcases q with rfl | rfl <;> omega
theorem cH_f {H : Hou} {h : Nat} {σ s : JH} {P : Nat → Nat → Prop} (f : Fi P σ s) (hP : ∀ b j, h ≤ b → b < h + 8 → ¬ P b j) (q : cH H h σ) : cH H h s := by
  obtain ⟨q1, q2, q3, q4, q5, q6, q7, q8, q9, q10⟩ := q
  have e : ∀ b j, h ≤ b → b < h + 8 → s.2.1 b j = σ.2.1 b j := fun b j h1 h2 => f.2.2 b j (hP b j h1 h2)
  refine ⟨(e _ _ (by omega) (by omega)).trans q1, (e _ _ (by omega) (by omega)).trans q2, (e _ _ (by omega) (by omega)).trans q3, (e _ _ (by omega) (by omega)).trans q4, fun k hk => (e _ _ (by omega) (by omega)).trans (q5 k hk), fun k hk => (e _ _ (by omega) (by omega)).trans (q6 k hk), fun k hk => (e _ _ (by omega) (by omega)).trans (q7 k hk), fun k hk => (e _ _ (by omega) (by omega)).trans (q8 k hk), fun k hk => (e _ _ (by omega) (by omega)).trans (q9 k hk), fun k hk => (e _ _ (by omega) (by omega)).trans (q10 k hk)⟩
theorem cH_m {H : Hou} {h a : Nat} {σ s : JH} (ha : IsMu a) (hh : IsHo h) (f : Fi (PM a) σ s) (q : cH H h σ) : cH H h s := by
  have h1 := mu_ge ha
  have h2 := ho_lt hh
  exact cH_f f (fun b j h3 h4 => by unfold PM; omega) q
theorem lim_lt {H : Hou} (hW : WH H) (k : Nat) : lim H k < 10 := by
  have := hW.2.1
  unfold lim
  split
  · omega
  · split <;> omega
section CM
variable {H : Hou} {S : Mud} {op as : Nat → Bool} {a h k e : Nat} {σ : JH}
set_option maxHeartbeats 1000000 in
theorem c_settle (hl : Ly σ) (ha : IsMu a) (hW : WH H) (hH : cH H h σ) (hM : cMx H S op as a h σ) (hs : ∀ j, j < Hn H → sa S j < 1001) (hm : ∀ j, j < Hn H → mi S j < Hn H) (hk : k < Hn H) : WM q_Mu_settle [.ref a, .int (nI k)] σ (kV fun s => Ly s ∧ Fi (PM a) σ s ∧ cMx H S (up1 op k (opn H S k)) (up1 as k (ast H S k)) a h s) := by
  have n8 := hW.1
  have hlim := lim_lt hW k
  have hsk := hs k hk
  have hmk := hm k hk
  have fin : ∀ x y, x = nI (msk (up1 op k (opn H S k)) (Hn H)) → y = nI (msk (up1 as k (ast H S k)) (Hn H)) → (fun s => Ly s ∧ Fi (PM a) σ s ∧ cMx H S (up1 op k (opn H S k)) (up1 as k (ast H S k)) a h s) (jh_setI (jh_setI σ a 5 x) a 6 y) := by
    intro x y hx hy
    have f : Fi (PM a) σ (jh_setI (jh_setI σ a 5 x) a 6 y) := Fi_s (Fi_s (Fi_r _ _) (by unfold PM; omega)) (by unfold PM; omega)
    obtain ⟨m0, m1, m2, m3, m4, m5, m6, m7, m8⟩ := hM
    refine ⟨Fi_ly f hl, f, ?_⟩
    unfold cMx
    simp (disch := omega) only [rI_eq, rI_ne, rI_f, m0, m4, m7, m8, hx, hy, true_and, and_true]
    exact ⟨m1, m2, m3⟩
  obtain ⟨m0, m1, m2, m3, m4, m5, m6, m7, m8⟩ := hM
  obtain ⟨q1, q2, q3, q4, q5, q6, q7, q8, q9, q10⟩ := hH
  refine w_Mu_settle a (nI k) hl ha ?_
  simp (disch := omega) only [lt, JJ1, rI_ne, rI_f, m0, m4, m5, m6, q3, cl_nI, inb_nI, m1 k hk, m3 k hk, q10 k hk, bk_tst n8 hk, bk_set n8 hk, bk_clr n8 hk, nI_eqN, nI_leN]
  by_cases c1 : th S k = false
  · rw [if_pos c1]
    refine ⟨by omega, ?_⟩
    have e1 : opn H S k = false := by unfold opn; rw [c1]; rfl
    by_cases c2 : mi S k = k
    · rw [if_pos c2]
      exact fin _ _ (by rw [e1]) (by rw [show ast H S k = false by unfold ast; simp [c2]])
    · rw [if_neg c2]
      by_cases c3 : ctb H k = false
      · rw [if_pos c3]
        exact fin _ _ (by rw [e1]) (by rw [show ast H S k = true by unfold ast; unfold ctb at c3; simp [c2, of_decide_eq_false c3]])
      · rw [if_neg c3]
        exact fin _ _ (by rw [e1]) (by rw [show ast H S k = false by unfold ast; unfold ctb at c3; simp at c3; simp [c3]])
  · rw [if_neg c1]
    rw [Bool.not_eq_false] at c1
    refine ⟨by omega, by omega, ?_⟩
    have tail : ∀ x, x = nI (msk (up1 op k (opn H S k)) (Hn H)) → k < 8 ∧ (if mi S k = k then (fun s => Ly s ∧ Fi (PM a) σ s ∧ cMx H S (up1 op k (opn H S k)) (up1 as k (ast H S k)) a h s) (jh_setI (jh_setI σ a 5 x) a 6 (nI (msk (up1 as k false) (Hn H)))) else if ctb H k = false then (fun s => Ly s ∧ Fi (PM a) σ s ∧ cMx H S (up1 op k (opn H S k)) (up1 as k (ast H S k)) a h s) (jh_setI (jh_setI σ a 5 x) a 6 (nI (msk (up1 as k true) (Hn H)))) else (fun s => Ly s ∧ Fi (PM a) σ s ∧ cMx H S (up1 op k (opn H S k)) (up1 as k (ast H S k)) a h s) (jh_setI (jh_setI σ a 5 x) a 6 (nI (msk (up1 as k false) (Hn H))))) := by
      intro x hx
      refine ⟨by omega, ?_⟩
      by_cases c2 : mi S k = k
      · rw [if_pos c2]
        exact fin _ _ hx (by rw [show ast H S k = false by unfold ast; simp [c2]])
      · rw [if_neg c2]
        by_cases c3 : ctb H k = false
        · rw [if_pos c3]
          exact fin _ _ hx (by rw [show ast H S k = true by unfold ast; unfold ctb at c3; simp [c2, of_decide_eq_false c3]])
        · rw [if_neg c3]
          exact fin _ _ hx (by rw [show ast H S k = false by unfold ast; unfold ctb at c3; simp at c3; simp [c3]])
    by_cases c4 : lim H k ≤ sa S k
    · rw [if_pos c4]
      exact tail _ (by rw [show opn H S k = false by unfold opn; simp; omega])
    · rw [if_neg c4]
      exact tail _ (by rw [show opn H S k = true by unfold opn; simp [c1]; omega])
theorem c_swapMinds (hl : Ly σ) (ha : IsMu a) (n8 : Hn H ≤ 8) (hM : cMx H S op as a h σ) (hk : k < Hn H) (he : e < Hn H) : WM q_Mu_swapMinds [.ref a, .int (nI k), .int (nI e)] σ (kV fun s => Ly s ∧ Fi (PM a) σ s ∧ cMx H (mswp S k e) op as a h s) := by
  obtain ⟨m0, m1, m2, m3, m4, m5, m6, m7, m8⟩ := hM
  refine w_Mu_swapMinds a (nI k) (nI e) hl ha ?_
  simp (disch := omega) only [lt, cl_nI, inb_nI, m1 k hk, m1 e he]
  refine ⟨by omega, by omega, by omega, by omega, ?_⟩
  have f : ∀ x y, Fi (PM a) σ (jh_setI (jh_setI σ (a + 1) k x) (a + 1) e y) := fun x y => Fi_s (Fi_s (Fi_r _ _) (by unfold PM; omega)) (by unfold PM; omega)
  refine ⟨Fi_ly (f _ _) hl, f _ _, ?_⟩
  unfold cMx
  simp (disch := omega) only [rI_ne, rI_f, m0, m4, m5, m6, m7, m8, true_and, and_true]
  refine ⟨fun j hj => ?_, m2, m3, rfl, rfl, rfl⟩
  rw [rI, rI]
  show _ = nI (swp (mi S) k e j)
  unfold swp
  by_cases c1 : j = e
  · rw [if_pos ⟨rfl, c1⟩, c1]
    by_cases c2 : e = k
    · rw [if_pos c2, c2]
    · rw [if_neg c2, if_pos rfl]
  · rw [if_neg (fun q => c1 q.2)]
    by_cases c2 : j = k
    · rw [if_pos ⟨rfl, c2⟩, if_pos c2]
    · rw [if_neg (fun q => c2 q.2), if_neg c2, if_neg c1]
      exact m1 j hj
theorem c_join (hl : Ly σ) (ha : IsMu a) (n8 : Hn H ≤ 8) (hM : cMx H S op as a h σ) (hk : k < Hn H) (he : e < Hn H) (hne : k ≠ e) : WM q_Mu_join [.ref a, .int (nI k), .int (nI e)] σ (kV fun s => Ly s ∧ Fi (PM a) σ s ∧ cMx H (mjoin S k e) op as a h s) := by
  obtain ⟨m0, m1, m2, m3, m4, m5, m6, m7, m8⟩ := hM
  refine w_Mu_join a (nI k) (nI e) hl ha ?_
  simp (disch := omega) only [lt, cl_nI, inb_nI, rI_ne, m2 k hk, m2 e he, m3 k hk, m3 e he, m8, bk_set n8 hk, bk_set n8 he, nI_add]
  refine ⟨by omega, by omega, by omega, by omega, by omega, by omega, by omega, by omega, ?_⟩
  have f : ∀ x1 x2 x3 x4 x5, Fi (PM a) σ (jh_setI (jh_setI (jh_setI (jh_setI (jh_setI σ (a + 2) k x1) (a + 2) e x2) (a + 3) k x3) (a + 3) e x4) a 8 x5) := fun x1 x2 x3 x4 x5 => Fi_s (Fi_s (Fi_s (Fi_s (Fi_s (Fi_r _ _) (by unfold PM; omega)) (by unfold PM; omega)) (by unfold PM; omega)) (by unfold PM; omega)) (by unfold PM; omega)
  refine ⟨Fi_ly (f _ _ _ _ _) hl, f _ _ _ _ _, ?_⟩
  refine ⟨m0, fun j hj => ?_, fun j hj => ?_, fun j hj => ?_, ?_, ?_, ?_, ?_, rI_eq⟩
  · simp (disch := omega) only [rI_ne]; exact m1 j hj
  · rw [rI_ne (by omega), rI_ne (by omega), rI_ne (by omega), rI, rI]
    by_cases c1 : j = e
    · rw [if_pos ⟨rfl, c1⟩]
      refine congrArg nI (msk_ext (fun i hi => ?_))
      unfold up1
      subst c1
      by_cases c2 : i = k
      · simp [c2, me_mjoin]
      · have : ¬ j = k := fun q => hne q.symm
        simp [c2, this, me_mjoin]
    · rw [if_neg (fun q => c1 q.2)]
      by_cases c2 : j = k
      · rw [if_pos ⟨rfl, c2⟩]
        refine congrArg nI (msk_ext (fun i hi => ?_))
        unfold up1
        subst c2
        by_cases c3 : i = e
        · simp [c3, me_mjoin]
        · simp [c3, c1, me_mjoin]
      · rw [if_neg (fun q => c2 q.2), m2 j hj]
        refine congrArg nI (msk_ext (fun i hi => ?_))
        simp [c1, c2, me_mjoin]
  · rw [sa_mjoin, rI_ne (by omega), rI, rI]
    by_cases c1 : j = e
    · rw [if_pos ⟨rfl, c1⟩, if_pos (Or.inr c1), c1]
    · rw [if_neg (fun q => c1 q.2)]
      by_cases c2 : j = k
      · rw [if_pos ⟨rfl, c2⟩, if_pos (Or.inl c2), c2]
      · rw [if_neg (fun q => c2 q.2), if_neg (by omega)]
        simp (disch := omega) only [rI_ne]
        exact m3 j hj
  · simp (disch := omega) only [rI_ne]; exact m4
  · simp (disch := omega) only [rI_ne]; exact m5
  · simp (disch := omega) only [rI_ne]; exact m6
  · simp (disch := omega) only [rI_ne]; exact m7
theorem opn_trn {j : Nat} (h1 : j ≠ k) (h2 : j ≠ e) : opn H (trn S k e) j = opn H S j := by
  unfold opn
  rw [sa_trn, if_neg (by omega)]
  rfl
theorem ast_trn {j : Nat} (h1 : j ≠ k) (h2 : j ≠ e) : ast H (trn S k e) j = ast H S j := by
  unfold ast
  rw [mi_trn, swp_o h1 h2]
theorem WS_trn (hS : WS H S) (hk : k < Hn H) (he : e < Hn H) (hm : mayT H S k e = true) (hW : WH H) : WS H (trn S k e) := by
  obtain ⟨s1, s2, s3, s4, s5⟩ := hS
  unfold mayT opn at hm
  simp only [Bool.and_eq_true, decide_eq_true_eq] at hm
  obtain ⟨⟨⟨⟨⟨t1, l1⟩, t2, l2⟩, n1⟩, n2⟩, n3⟩ := hm
  have b1 := lim_lt hW k
  have b2 := lim_lt hW e
  refine ⟨Pn_swp s1 hk he, fun j hj ht => ?_, fun i j => ?_, fun j hj => ?_, s5⟩
  · have c1 : j ≠ k := fun q => by rw [q] at ht; exact absurd (t1.symm.trans ht) (by decide)
    have c2 : j ≠ e := fun q => by rw [q] at ht; exact absurd (t2.symm.trans ht) (by decide)
    show swp (mi S) k e j = j
    rw [swp_o c1 c2]
    exact s2 j hj ht
  · show (if (i = k ∧ j = e) ∨ (i = e ∧ j = k) then true else me S i j) = (if (j = k ∧ i = e) ∨ (j = e ∧ i = k) then true else me S j i)
    rw [s3 i j]
    by_cases c : (i = k ∧ j = e) ∨ (i = e ∧ j = k)
    · rw [if_pos c, if_pos (by omega)]
    · rw [if_neg c, if_neg (by omega)]
  · show (if j = k ∨ j = e then sa S j + 1 else sa S j) < 1000
    have := s4 j hj
    by_cases c : j = k ∨ j = e
    · rw [if_pos c]
      rcases c with c | c
      · rw [c]; omega
      · rw [c]; omega
    · rw [if_neg c]; exact this
/-- two change: without a cost -/
theorem c_change (hl : Ly σ) (ha : IsMu a) (hh : IsHo h) (hW : WH H) (hS : WS H S) (hH : cH H h σ) (hM : cM H S a h σ) (hk : k < Hn H) (he : e < Hn H) (hne : k ≠ e) : WM q_Mu_change [.ref a, .int (nI k), .int (nI e)] σ (kV fun s => Ly s ∧ Fi (PM a) σ s ∧ cM H (trn S k e) a h s) := by
  refine w_Mu_change a (nI k) (nI e) hl ha ?_
  refine WM_V (c_swapMinds hl ha hW.1 hM hk he) fun s1 ⟨l1, f1, M1⟩ => ⟨l1, ?_⟩
  refine WM_V (c_join l1 ha hW.1 M1 hk he hne) fun s2 ⟨l2, f2, M2⟩ => ⟨l2, ?_⟩
  have f3 : Fi (PM a) σ (jh_setI s2 a 7 (s2.2.1 a 7 + nI 1)) := Fi_s (Fi_t f1 f2) (by unfold PM; omega)
  have M3 : cMx H (trn S k e) (opn H S) (ast H S) a h (jh_setI s2 a 7 (s2.2.1 a 7 + nI 1)) := by
    obtain ⟨m0, m1, m2, m3, m4, m5, m6, m7, m8⟩ := M2
    unfold cMx
    simp (disch := omega) only [rI_eq, rI_ne, rI_f, m0, m4, m5, m6, m7, m8, nI_add, true_and, and_true]
    exact ⟨m1, m2, m3, rfl, rfl, rfl⟩
  unfold lt
  have hs : ∀ j, j < Hn H → sa (trn S k e) j < 1001 := fun j hj => by
    show (if j = k ∨ j = e then sa S j + 1 else sa S j) < 1001
    have := hS.2.2.2.1 j hj
    split <;> omega
  have hm : ∀ j, j < Hn H → mi (trn S k e) j < Hn H := (Pn_swp hS.1 hk he).1
  refine WM_V (c_settle (Fi_ly f3 hl) ha hW (cH_m ha hh f3 hH) M3 hs hm hk) fun s4 ⟨l4, f4, M4⟩ => ⟨l4, ?_⟩
  refine WM_V (c_settle l4 ha hW (cH_m ha hh (Fi_t f3 f4) hH) M4 hs hm he) fun s5 ⟨l5, f5, M5⟩ => ⟨l5, l5, Fi_t (Fi_t f3 f4) f5, ?_⟩
  obtain ⟨m0, m1, m2, m3, m4, m5, m6, m7, m8⟩ := M5
  refine ⟨m0, m1, m2, m3, m4, m5.trans (congrArg nI (msk_ext fun j hj => ?_)), m6.trans (congrArg nI (msk_ext fun j hj => ?_)), m7, m8⟩
  · unfold up1
    by_cases c1 : j = e
    · rw [if_pos c1, c1]
    · rw [if_neg c1]
      by_cases c2 : j = k
      · rw [if_pos c2, c2]
      · rw [if_neg c2, opn_trn c2 c1]
  · unfold up1
    by_cases c1 : j = e
    · rw [if_pos c1, c1]
    · rw [if_neg c1]
      by_cases c2 : j = k
      · rw [if_pos c2, c2]
      · rw [if_neg c2, ast_trn c2 c1]
/-- and change back -/
theorem c_changeBack (hl : Ly σ) (ha : IsMu a) (hh : IsHo h) (hW : WH H) (hS : WS H S) (hH : cH H h σ) (hM : cM H (trn S k e) a h σ) (hk : k < Hn H) (he : e < Hn H) (hne : k ≠ e) (hme : me S k e = false) : WM q_Mu_changeBack [.ref a, .int (nI k), .int (nI e)] σ (kV fun s => Ly s ∧ Fi (PM a) σ s ∧ cM H S a h s) := by
  have n8 := hW.1
  refine w_Mu_changeBack a (nI k) (nI e) hl ha ?_
  refine WM_V (c_swapMinds hl ha hW.1 hM hk he) fun s1 ⟨l1, f1, M1⟩ => ⟨l1, ?_⟩
  obtain ⟨m0, m1, m2, m3, m4, m5, m6, m7, m8⟩ := M1
  have a1 : sa (mswp (trn S k e) k e) k = sa S k + 1 := if_pos (Or.inl rfl)
  have a2 : sa (mswp (trn S k e) k e) e = sa S e + 1 := if_pos (Or.inr rfl)
  have a3 : pa (mswp (trn S k e) k e) = pa S + 1 := rfl
  have a4 : tu (mswp (trn S k e) k e) = tu S + 1 := rfl
  have hme' : me S e k = false := by rw [hS.2.2.1]; exact hme
  simp (disch := omega) only [lt, cl_nI, inb_nI, rI_ne, m2 k hk, m2 e he, m3 k hk, m3 e he, m7, m8, a1, a2, a3, a4, bk_clr n8 hk, bk_clr n8 he, nI_subN, Nat.add_sub_cancel]
  refine ⟨by omega, by omega, by omega, by omega, by omega, by omega, by omega, by omega, ?_⟩
  have f3 : ∀ x1 x2 x3 x4 x5 x6, Fi (PM a) s1 (jh_setI (jh_setI (jh_setI (jh_setI (jh_setI (jh_setI s1 (a + 2) k x1) (a + 2) e x2) (a + 3) k x3) (a + 3) e x4) a 8 x5) a 7 x6) := fun x1 x2 x3 x4 x5 x6 => Fi_s (Fi_s (Fi_s (Fi_s (Fi_s (Fi_s (Fi_r _ _) (by unfold PM; omega)) (by unfold PM; omega)) (by unfold PM; omega)) (by unfold PM; omega)) (by unfold PM; omega)) (by unfold PM; omega)
  have f3 := Fi_t f1 (f3 (nI (msk (up1 (me (mswp (trn S k e) k e) k) e false) (Hn H))) (nI (msk (up1 (me (mswp (trn S k e) k e) e) k false) (Hn H))) (nI (sa S k)) (nI (sa S e)) (nI (pa S)) (nI (tu S)))
  have M3 : cMx H S (opn H (trn S k e)) (ast H (trn S k e)) a h (jh_setI (jh_setI (jh_setI (jh_setI (jh_setI (jh_setI s1 (a + 2) k (nI (msk (up1 (me (mswp (trn S k e) k e) k) e false) (Hn H)))) (a + 2) e (nI (msk (up1 (me (mswp (trn S k e) k e) e) k false) (Hn H)))) (a + 3) k (nI (sa S k))) (a + 3) e (nI (sa S e))) a 8 (nI (pa S))) a 7 (nI (tu S))) := by
    refine ⟨m0, fun j hj => ?_, fun j hj => ?_, fun j hj => ?_, ?_, ?_, ?_, rI_eq, ?_⟩
    · simp (disch := omega) only [rI_ne]
      rw [m1 j hj]
      exact congrArg nI (congrFun (swp_swp (mi S) k e) j)
    · rw [rI_ne (by omega), rI_ne (by omega), rI_ne (by omega), rI_ne (by omega), rI, rI]
      by_cases c1 : j = e
      · rw [if_pos ⟨rfl, c1⟩]
        refine congrArg nI (msk_ext (fun i hi => ?_))
        unfold up1
        subst c1
        by_cases c2 : i = k
        · simp [c2, hme']
        · have : ¬ j = k := fun q => hne q.symm
          simp [c2, this, me_mt]
      · rw [if_neg (fun q => c1 q.2)]
        by_cases c2 : j = k
        · rw [if_pos ⟨rfl, c2⟩]
          refine congrArg nI (msk_ext (fun i hi => ?_))
          unfold up1
          subst c2
          by_cases c3 : i = e
          · simp [c3, hme]
          · simp [c3, c1, me_mt]
        · rw [if_neg (fun q => c2 q.2), m2 j hj]
          refine congrArg nI (msk_ext (fun i hi => ?_))
          simp [c1, c2, me_mt]
    · rw [rI_ne (by omega), rI_ne (by omega), rI, rI]
      by_cases c1 : j = e
      · rw [if_pos ⟨rfl, c1⟩, c1]
      · rw [if_neg (fun q => c1 q.2)]
        by_cases c2 : j = k
        · rw [if_pos ⟨rfl, c2⟩, c2]
        · rw [if_neg (fun q => c2 q.2)]
          simp (disch := omega) only [rI_ne]
          rw [m3 j hj, sa_mt, if_neg (by omega)]
    · simp (disch := omega) only [rI_ne]; exact m4
    · simp (disch := omega) only [rI_ne]; exact m5
    · simp (disch := omega) only [rI_ne]; exact m6
    · rw [rI_ne (by omega)]; exact rI_eq
  have hs : ∀ j, j < Hn H → sa S j < 1001 := fun j hj => by have := hS.2.2.2.1 j hj; omega
  have hm : ∀ j, j < Hn H → mi S j < Hn H := hS.1.1
  refine WM_V (c_settle (Fi_ly f3 hl) ha hW (cH_m ha hh f3 hH) M3 hs hm hk) fun s4 ⟨l4, f4, M4⟩ => ⟨l4, ?_⟩
  refine WM_V (c_settle l4 ha hW (cH_m ha hh (Fi_t f3 f4) hH) M4 hs hm he) fun s5 ⟨l5, f5, M5⟩ => ⟨l5, l5, Fi_t (Fi_t f3 f4) f5, ?_⟩
  obtain ⟨m0, m1, m2, m3, m4, m5, m6, m7, m8⟩ := M5
  refine ⟨m0, m1, m2, m3, m4, m5.trans (congrArg nI (msk_ext fun j hj => ?_)), m6.trans (congrArg nI (msk_ext fun j hj => ?_)), m7, m8⟩
  · unfold up1
    by_cases c1 : j = e
    · rw [if_pos c1, c1]
    · rw [if_neg c1]
      by_cases c2 : j = k
      · rw [if_pos c2, c2]
      · rw [if_neg c2, opn_trn c2 c1]
  · unfold up1
    by_cases c1 : j = e
    · rw [if_pos c1, c1]
    · rw [if_neg c1]
      by_cases c2 : j = k
      · rw [if_pos c2, c2]
      · rw [if_neg c2, ast_trn c2 c1]
end CM

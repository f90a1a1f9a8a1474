/-! ===== the class: rows that are looked for ===== -/
theorem c_lesser {σ : JH} {p : Nat} (hl : Ly σ) (hp : p < 64) : q_Ct_lesserOf [.int (nI p)] σ = some (some (.int (nI (p / 8))), σ) := by
  refine WE_o (w_Ct_lesserOf _ hl ?_)
  have : ∀ p, p < 64 → (nI p >>> ((nI 3) &&& 31)) &&& nI 7 = nI (p / 8) := by decide
  exact this p hp
theorem c_greater {σ : JH} {p : Nat} (hl : Ly σ) (hp : p < 64) : q_Ct_greaterOf [.int (nI p)] σ = some (some (.int (nI (p % 8))), σ) := by
  refine WE_o (w_Ct_greaterOf _ hl ?_)
  have : ∀ p, p < 64 → nI p &&& nI 7 = nI (p % 8) := by decide
  exact this p hp
/-- the class at one of its muddles -/
def Cs (H : Hou) (S : Mud) (a h : Nat) (s : JH) : Prop := Ly s ∧ IsHo h ∧ cH H h s ∧ cM H S a h s
section CS
variable {H : Hou} {L : Option Lws} {S : Mud} {a h k e p d : Nat} {σ s : JH}
theorem cMx_f {op as : Nat → Bool} {t : JH} {P : Nat → Nat → Prop} (f : Fi P s t) (h1 : ∀ j, j ≤ 8 → ¬ P a j) (h2 : ∀ b j, a < b → b < a + 4 → ¬ P b j) (q : cMx H S op as a h s) : cMx H S op as a h t := by
  obtain ⟨m0, m1, m2, m3, m4, m5, m6, m7, m8⟩ := q
  exact ⟨(Fi_rf f _ _).trans m0, fun k hk => (f.2.2 _ _ (h2 _ _ (by omega) (by omega))).trans (m1 k hk), fun k hk => (f.2.2 _ _ (h2 _ _ (by omega) (by omega))).trans (m2 k hk), fun k hk => (f.2.2 _ _ (h2 _ _ (by omega) (by omega))).trans (m3 k hk), (f.2.2 _ _ (h1 _ (by omega))).trans m4, (f.2.2 _ _ (h1 _ (by omega))).trans m5, (f.2.2 _ _ (h1 _ (by omega))).trans m6, (f.2.2 _ _ (h1 _ (by omega))).trans m7, (f.2.2 _ _ (h1 _ (by omega))).trans m8⟩
theorem Cs_f {t : JH} {P : Nat → Nat → Prop} (q : Cs H S a h s) (f : Fi P s t) (h1 : ∀ j, j ≤ 8 → ¬ P a j) (h2 : ∀ b j, a < b → b < a + 4 → ¬ P b j) (h3 : ∀ b j, (69 ≤ b ∧ h ≤ b) → (b < 88 ∧ b < h + 8) → ¬ P b j) : Cs H S a h t := by
  have hh := ho_lt q.2.1
  exact ⟨Fi_ly f q.1, q.2.1, cH_f f (fun b j g1 g2 => h3 b j (by omega) (by omega)) q.2.2.1, cMx_f f h1 h2 q.2.2.2⟩
theorem c_chg (ha : IsMu a) (hW : WH H) (hS : WS H S) (q : Cs H S a h s) (hk : k < Hn H) (he : e < Hn H) (hne : k ≠ e) {F : JH → Prop} (hF : ∀ t, Cs H (trn S k e) a h t → Fi (PM a) s t → F t) : WM q_Mu_change [.ref a, .int (nI k), .int (nI e)] s (kV F) := by
  obtain ⟨q1, q2, q3, q4⟩ := q
  exact WM_V (c_change q1 ha q2 hW hS q3 q4 hk he hne) fun t ⟨l, f, M⟩ => hF t ⟨l, q2, cH_m ha q2 f q3, M⟩ f
theorem c_unchg (ha : IsMu a) (hW : WH H) (hS : WS H S) (q : Cs H (trn S k e) a h s) (hk : k < Hn H) (he : e < Hn H) (hne : k ≠ e) (hme : me S k e = false) {F : JH → Prop} (hF : ∀ t, Cs H S a h t → Fi (PM a) s t → F t) : WM q_Mu_changeBack [.ref a, .int (nI k), .int (nI e)] s (kV F) := by
  obtain ⟨q1, q2, q3, q4⟩ := q
  exact WM_V (c_changeBack q1 ha q2 hW hS q3 q4 hk he hne hme) fun t ⟨l, f, M⟩ => hF t ⟨l, q2, cH_m ha q2 f q3, M⟩ f
/-- rows -/
def cR (pre : List Nat) (s : JH) : Prop := ∀ i p, pre[i]? = some p → s.2.1 101 i = nI p
def cK (r : List Nat) (s : JH) : Prop := s.2.1 100 4 = nI r.length ∧ r.length ≤ 5 ∧ ∀ i p, r[i]? = some p → s.2.1 102 i = nI p
theorem cR_f {pre : List Nat} {t : JH} {P : Nat → Nat → Prop} (f : Fi P s t) (hP : ∀ j, ¬ P 101 j) (h : cR pre s) : cR pre t := fun i p q => (f.2.2 101 i (hP i)).trans (h i p q)
theorem cK_f {r : List Nat} {t : JH} {P : Nat → Nat → Prop} (f : Fi P s t) (hP : ∀ j, ¬ P 102 j) (h1 : ¬ P 100 4) (h : cK r s) : cK r t := ⟨(f.2.2 _ _ h1).trans h.1, h.2.1, fun i p q => (f.2.2 102 i (hP i)).trans (h.2.2 i p q)⟩
theorem cR_app {pre : List Nat} (h : cR pre s) : cR (pre ++ [p]) (jh_setI s 101 pre.length (nI p)) := by
  intro i q hq
  rw [rI]
  by_cases c : i < pre.length
  · rw [if_neg (by omega)]
    rw [List.getElem?_append_left c] at hq
    exact h i q hq
  · rw [List.getElem?_append_right (by omega)] at hq
    have : i - pre.length = 0 := by
      have := (List.getElem?_eq_some_iff.mp hq).1
      rw [List.length_singleton] at this
      omega
    rw [this] at hq
    rw [if_pos ⟨rfl, by omega⟩]
    injection hq with hq
    rw [hq]
theorem cR_pre {pre : List Nat} (h : cR (pre ++ [p]) s) : cR pre s := fun i q hq => h i q (by
  rw [List.getElem?_append_left (List.getElem?_eq_some_iff.mp hq).1]
  exact hq)
theorem c_keepRow {pre : List Nat} (hl : Ly σ) (hp : pre.length ≤ 5) (hD : σ.2.1 100 3 = nI pre.length) (hR : cR pre σ) : WM q_Se_keepRow [.ref 100] σ (kV fun s => Ly s ∧ Fi (fun b j => b = 102 ∨ (b = 100 ∧ j = 4)) σ s ∧ cK pre s) := by
  refine w_Se_keepRow hl ?_
  unfold lt
  have f0 : Fi (fun b j => b = 102 ∨ (b = 100 ∧ j = 4)) σ (jh_setI σ 100 4 (σ.2.1 100 3)) := Fi_s (Fi_r _ _) (by omega)
  refine Lp2_inv (I := fun m v s => ∃ i, i ≤ pre.length ∧ m = pre.length - i ∧ v = nI i ∧ Fi (fun b j => b = 102 ∨ (b = 100 ∧ j = 4)) σ s ∧ s.2.1 100 4 = nI pre.length ∧ ∀ j, j < i → s.2.1 102 j = σ.2.1 101 j) ?_ (m := pre.length) ⟨0, by omega, by omega, rfl, f0, by rw [rI_eq, hD], fun j hj => by omega⟩
  rintro m v s ⟨i, hi, rfl, rfl, f, h1, h3⟩ X hX
  refine ⟨Fi_ly f hl, ?_⟩
  rw [f.2.2 100 3 (by omega), hD]
  by_cases c : pre.length ≤ i
  · rw [if_pos (by rw [nI_leN (by omega) (by omega)]; exact c)]
    exact ⟨Fi_ly f hl, f, h1, hp, fun j p q => (h3 j (by have := (List.getElem?_eq_some_iff.mp q).1; omega)).trans (hR j p q)⟩
  · rw [if_neg (by rw [nI_leN (by omega) (by omega)]; exact c), if_neg (by rw [nI_leN (by omega) (by omega)]; omega)]
    simp (disch := omega) only [lt, inb_nI, cl_nI]
    refine ⟨by omega, by omega, hX _ _ _ (by omega) ⟨i + 1, by omega, rfl, nI_add i 1, Fi_s f (Or.inl rfl), ?_, fun j hj => ?_⟩⟩
    · rw [rI_ne (by omega)]; exact h1
    · rw [rI]
      by_cases d : j = i
      · rw [if_pos ⟨rfl, d⟩, d, f.2.2 101 i (by omega)]
      · rw [if_neg (by omega)]; exact h3 j (by omega)
def PSe (b j : Nat) : Prop := PM 103 b j ∨ b = 101
theorem c_tryTurn {pre : List Nat} (hW : WH H) (hS : WS H S) (q : Cs H S 103 h s) (hR : cR pre s) (hD : s.2.1 100 3 = nI (pre.length + d)) (hd : 1 ≤ d) (hlen : pre.length + d ≤ 5) (hp : p ∈ opl H S) {F : JH → Prop} (hF : ∀ t, Cs H (trnC S p) 103 h t → Fi PSe s t → cR (pre ++ [p]) t → F t) : WM q_Se_tryTurn [.ref 100, .int (nI d), .int (nI p)] s (kV F) := by
  obtain ⟨p1, p2, p3, p4, p5⟩ := opl_mem hW.1 hp
  refine w_Se_tryTurn _ _ q.1 ?_
  rw [hD, nI_subN (by omega), show pre.length + d - d = pre.length by omega, if_neg (by rw [nI_lt0 (by omega)]; exact id), if_neg (by rw [nI_leN (by omega) (by omega)]; omega)]
  simp (disch := omega) only [lt, inb_nI, cl_nI]
  refine ⟨by omega, ?_⟩
  have f : Fi (fun b _ => b = 101) s (jh_setI s 101 pre.length (nI p)) := Fi_s (Fi_r _ _) rfl
  have q' := Cs_f q f (fun j _ => by omega) (fun b j _ _ => by omega) (fun b j _ _ => by omega)
  refine WE_i (c_lesser q'.1 p4) ?_
  refine WE_i (c_greater q'.1 p4) ?_
  refine c_chg mu_103 hW hS q' p2 p3 (by omega) fun t ht hf => ⟨ht.1, hF t ht (Fi_t (Fi_m f (fun b j h => Or.inr h)) (Fi_m hf (fun b j h => Or.inl h))) (cR_f hf (fun j => by unfold PM; omega) (cR_app hR))⟩
theorem c_backTurn (hW : WH H) (hS : WS H S) (q : Cs H (trnC S p) 103 h s) (hp : p ∈ opl H S) {F : JH → Prop} (hF : ∀ t, Cs H S 103 h t → Fi (PM 103) s t → F t) : WE q_Ct_lesserOf [.int (nI p)] s (fun x => WE q_Ct_greaterOf [.int (nI p)] s (fun y => WM q_Mu_changeBack [.ref 103, .int x, .int y] s (kV fun t => Ly t ∧ F t))) := by
  obtain ⟨p1, p2, p3, p4, p5⟩ := opl_mem hW.1 hp
  refine WE_i (c_lesser q.1 p4) ?_
  refine WE_i (c_greater q.1 p4) ?_
  exact c_unchg mu_103 hW hS q p2 p3 (by omega) (may_th p5).2.2.2.1 fun t ht hf => ⟨ht.1, hF t ht hf⟩
theorem ast_0 (hW : WH H) (q : Cs H S a h s) : (s.2.1 a 6 = 0) = (wrs H S = 0) := by
  have n8 := hW.1
  rw [q.2.2.2.2.2.2.2.2.2.1, nI_eq0 (by have := msk_8 (f := ast H S) n8; omega), eq_iff_iff]
  constructor
  · intro z
    exact cntB_zero (fun k hk => msk_z z k hk)
  · intro z
    refine msk_0 (fun k hk => ?_)
    cases c : ast H S k
    · rfl
    · have := cntB_has hk c
      unfold wrs at z
      omega
theorem hop_sub {q : Nat} (h : q ∈ hop H S d) : q ∈ opl H S := by
  unfold hop at h
  split at h
  · cases h
  · split at h
    · cases h
    · split at h
      · exact (List.mem_filter.mp h).1
      · exact h
/-- FEWEST, as the class looks for it -/
def lhR (H : Hou) : Nat → Mud → List Nat → Option (List Nat)
  | 0, S, pre => if wrs H S = 0 then some pre else none
  | d + 1, S, pre => (hop H S (d + 1)).findSome? (fun p => lhR H d (trnC S p) (pre ++ [p]))
set_option maxHeartbeats 1000000 in
theorem c_leadsHome (hW : WH H) : ∀ (m d : Nat), d < m → ∀ (S : Mud) (pre : List Nat) (σ : JH), pre.length + d ≤ 5 → WS H S → Cs H S 103 h σ → cR pre σ → σ.2.1 100 3 = nI (pre.length + d) → WM (g_Se_leadsHome m 0) [.ref 100, .int (nI d)] σ (kI fun y s => y = bI (lhR H d S pre).isSome ∧ Cs H S 103 h s ∧ Fi PSe σ s ∧ cR pre s ∧ ∀ r, lhR H d S pre = some r → cR r s) := by
  intro m
  induction m with
  | zero => intro d h; omega
  | succ m ih =>
    intro d hd S pre σ hlen hS hC hR hD
    refine w_Se_leadsHome (g_Se_leadsHome m) _ hC.1 ?_
    cases d with
    | zero =>
      rw [if_neg (by decide)]
      simp only [ast_0 hW hC]
      by_cases c : wrs H S = 0
      · have e : lhR H 0 S pre = some pre := by show (if _ then _ else _) = _; rw [if_pos c]
        rw [if_pos c, e]
        exact ⟨rfl, hC, Fi_r _ _, hR, fun r q => by injection q with q; rw [← q]; exact hR⟩
      · have e : lhR H 0 S pre = none := by show (if _ then _ else _) = _; rw [if_neg c]
        rw [if_neg c, e]
        exact ⟨rfl, hC, Fi_r _ _, hR, fun r q => by cases q⟩
    | succ d =>
      rw [if_pos (by rw [nI_0lt (by omega)]; omega)]
      obtain ⟨x, hx, hX⟩ := c_hopeful (d := d + 1) hC.1 mu_103 hW hS hC.2.2.1 hC.2.2.2 (by omega)
      refine WJ_i hx ?_
      refine WE_i (isX_bc hC.1 hX) ?_
      show Lp5 _ _ _ _ _ _
      have e0 : lhR H (d + 1) S pre = (hop H S (d + 1)).findSome? (fun p => lhR H d (trnC S p) (pre ++ [p])) := rfl
      rw [e0]
      have hsub : ∀ q ∈ hop H S (d + 1), q ∈ opl H S := fun q => hop_sub
      generalize hop H S (d + 1) = l0 at hX hsub
      refine Lp5_inv (I := fun m v w u _ t => ∃ l b, m = l.length ∧ isL v u l ∧ w = bI b ∧ (∀ q ∈ l, q ∈ opl H S) ∧ Cs H S 103 h t ∧ Fi PSe σ t ∧ cR pre t ∧ (b = false → l.findSome? (fun p => lhR H d (trnC S p) (pre ++ [p])) = l0.findSome? (fun p => lhR H d (trnC S p) (pre ++ [p]))) ∧ (b = true → ∃ r, l0.findSome? (fun p => lhR H d (trnC S p) (pre ++ [p])) = some r ∧ cR r t)) ?_ (m := l0.length) ⟨l0, false, rfl, ⟨hX, rfl⟩, rfl, hsub, hC, Fi_r _ _, hR, fun _ => rfl, fun q => by cases q⟩
      rintro m' v w u o t ⟨l, b, rfl, hL, rfl, hs, hCt, hft, hRt, hb0, hb1⟩ X hX'
      refine ⟨hCt.1, ?_⟩
      have hit : b = true → (bI b = 0 ∨ bI b = 1) ∧ (bI b = bI (l0.findSome? (fun p => lhR H d (trnC S p) (pre ++ [p]))).isSome ∧ Cs H S 103 h t ∧ Fi PSe σ t ∧ cR pre t ∧ ∀ r, l0.findSome? (fun p => lhR H d (trnC S p) (pre ++ [p])) = some r → cR r t) := fun q => by
        obtain ⟨r, hr1, hr2⟩ := hb1 q
        refine ⟨bI_bit b, by rw [hr1, q]; rfl, hCt, hft, hRt, fun r' q' => ?_⟩
        rw [hr1] at q'; injection q' with q'; rw [← q']; exact hr2
      cases l with
      | nil =>
        rw [if_pos (isL_nil hL).1]
        cases b with
        | true => exact hit rfl
        | false =>
          have e : l0.findSome? (fun p => lhR H d (trnC S p) (pre ++ [p])) = none := (hb0 rfl).symm
          rw [e]
          exact ⟨bI_bit false, rfl, hCt, hft, hRt, fun r q => by cases q⟩
      | cons p l =>
        have hc := isL_cons hL
        rw [if_neg hc.2.1]
        cases b with
        | true => rw [if_neg (by decide)]; exact hit rfl
        | false =>
          rw [if_pos (by decide)]
          have hp := hs p (List.mem_cons_self ..)
          refine WE_i ((isX_cons hL.1).2.2 t hCt.1) ?_
          refine c_tryTurn hW hS hCt hRt (hft.2.2 100 3 (by unfold PSe PM; omega) ▸ hD) (by omega) (by omega) hp fun t1 hC1 hf1 hR1 => ⟨hC1.1, ?_⟩
          rw [nI_subN (by omega), Nat.add_sub_cancel]
          refine WM_I (ih d (by omega) (trnC S p) (pre ++ [p]) t1 (by rw [len_app]; omega) (WS_trnC hW hS hp) hC1 hR1 (by rw [len_app, hf1.2.2 100 3 (by unfold PSe PM; omega), hft.2.2 100 3 (by unfold PSe PM; omega), hD]; congr 1; omega)) fun y t2 ⟨hy, hC2, hf2, hR2, hr2⟩ => ⟨hC2.1, ?_⟩
          refine c_backTurn hW hS hC2 hp fun t3 hC3 hf3 => ?_
          have h0 := hb0 rfl
          rw [List.findSome?_cons] at h0
          have hall : Fi PSe σ t3 := Fi_t hft (Fi_t hf1 (Fi_t hf2 (Fi_m hf3 (fun b j q => Or.inl q))))
          refine hX' l.length _ _ _ _ _ (by rw [List.length_cons]; omega) ⟨l, (lhR H d (trnC S p) (pre ++ [p])).isSome, rfl, hc.1, hy, fun q hq => hs q (List.mem_cons_of_mem _ hq), hC3, hall, cR_f hf3 (fun j => by unfold PM; omega) (cR_pre hR2), fun q => ?_, fun q => ?_⟩
          · cases hu : lhR H d (trnC S p) (pre ++ [p]) with
            | none => rw [hu] at h0; exact h0
            | some r => rw [hu] at q; cases q
          · cases hu : lhR H d (trnC S p) (pre ++ [p]) with
            | none => rw [hu] at q; cases q
            | some r => rw [hu] at h0; exact ⟨r, h0.symm, cR_f hf3 (fun j => by unfold PM; omega) (hr2 r hu)⟩
end CS

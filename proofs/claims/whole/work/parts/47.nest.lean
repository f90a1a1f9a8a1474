/-! ===== the model's walk over all pairs ===== -/
theorem pr_out {n k : Nat} (h : k < n) : prK n (n - k) = prE n k (n - (k + 1)) ++ prK n (n - (k + 1)) := by
  rw [show n - k = (n - (k + 1)) + 1 by omega]
  show prE n (n - (n - (k + 1) + 1)) (n - (k + 1)) ++ _ = _
  rw [show n - (n - (k + 1) + 1) = k by omega]
theorem pr_in {n k e : Nat} (h : e < n) : prE n k (n - e) = (8 * k + e) :: prE n k (n - (e + 1)) := by
  rw [show n - e = (n - (e + 1)) + 1 by omega]
  show (8 * k + (n - (n - (e + 1) + 1))) :: _ = _
  rw [show n - (n - (e + 1) + 1) = e by omega]
abbrev myP (H : Hou) (S : Mud) : Nat → Bool := fun p => mayT H S (p / 8) (p % 8)
/-- what is left of the pairs that may, behind (k, e) -/
def lft (H : Hou) (S : Mud) (k e : Nat) : List Nat := (prE (Hn H) k (Hn H - e) ++ prK (Hn H) (Hn H - (k + 1))).filter (myP H S)
theorem lft_0 {H : Hou} {S : Mud} {k : Nat} (h : k < Hn H) : (prK (Hn H) (Hn H - k)).filter (myP H S) = lft H S k (k + 1) := by
  unfold lft
  rw [pr_out h]
theorem lft_end {H : Hou} {S : Mud} {k : Nat} : lft H S k (Hn H) = (prK (Hn H) (Hn H - (k + 1))).filter (myP H S) := by
  unfold lft
  rw [Nat.sub_self]
  rfl
theorem lft_yes {H : Hou} {S : Mud} {k e : Nat} (n8 : Hn H ≤ 8) (he : e < Hn H) (hm : mayT H S k e = true) : lft H S k e = (8 * k + e) :: lft H S k (e + 1) := by
  unfold lft
  rw [pr_in he, List.cons_append, List.filter_cons_of_pos]
  show mayT H S ((8 * k + e) / 8) ((8 * k + e) % 8) = true
  rw [show (8 * k + e) / 8 = k by omega, show (8 * k + e) % 8 = e by omega]
  exact hm
theorem lft_no {H : Hou} {S : Mud} {k e : Nat} (n8 : Hn H ≤ 8) (he : e < Hn H) (hm : mayT H S k e = false) : lft H S k e = lft H S k (e + 1) := by
  unfold lft
  rw [pr_in he, List.cons_append, List.filter_cons_of_neg]
  show ¬ mayT H S ((8 * k + e) / 8) ((8 * k + e) % 8) = true
  rw [show (8 * k + e) / 8 = k by omega, show (8 * k + e) % 8 = e by omega, hm]
  decide
theorem lft_all {H : Hou} {S : Mud} : (prK (Hn H) (Hn H - 0)).filter (myP H S) = opl H S := rfl
/-- what the walk needs of the heap -/
def mO (H : Hou) (S : Mud) (s : JH) : Prop := Ly s ∧ mH H s ∧ mM H S 2376 s
theorem nest43 {H : Hou} {S : Mud} {K : JH → Prop} {σ : JH} (hW : WH H) (hS : WS H S) (Inv : List Nat → JH → Prop) (B : Int32 → Int32 → JH → (Option Value → JH → Prop) → Prop)
    (h0 : Inv (opl H S) σ) (hI : ∀ l s, Inv l s → mO H S s) (hK : ∀ s, Inv [] s → K s)
    (hB : ∀ k e l s, k < e → e < Hn H → mayT H S k e = true → Inv ((8 * k + e) :: l) s → ∀ C : Option Value → JH → Prop, (∀ o s', Inv l s' → C o s') → B (nI k) (nI e) s C) :
    Lp4 (fun (v : Int32) (_ : Option Value) (o2 : Option Value) (s : JH) X => Ly s ∧ WE q_Md_bodies [.ref 204] s (fun x => (if x ≤ v then K s else Lp3 (fun (v' : Int32) (o : Option Value) (s' : JH) X' => Ly s' ∧ WE q_Md_bodies [.ref 204] s' (fun x' => (if x' ≤ v' then X (v + nI 1) (some (.int v')) o s' else WE q_Md_mayTurn [.ref 204, .int (nI 2376), .int v, .int v'] s' (fun y => (if y = 0 then X' (v' + nI 1) o s' else B v v' s' (fun o s => X' (v' + nI 1) o s)))))) (v + nI 1) o2 s))) (nI 0) none none σ := by
  have n8 := hW.1
  refine Lp4_inv (I := fun m v _ _ s => ∃ k, k ≤ Hn H ∧ m = Hn H - k ∧ v = nI k ∧ Inv ((prK (Hn H) (Hn H - k)).filter (myP H S)) s) ?_ (m := Hn H) ⟨0, by omega, by omega, rfl, h0⟩
  rintro m v o1 o2 s ⟨k, hk, rfl, rfl, hi⟩ X hX
  obtain ⟨a1, a2, a3⟩ := hI _ _ hi
  refine ⟨a1, WE_i (m_bodies a1 a2) ?_⟩
  by_cases c : Hn H ≤ k
  · rw [if_pos (by rw [nI_leN (by omega) (by omega)]; exact c)]
    refine hK s ?_
    rw [show Hn H - k = 0 by omega] at hi
    exact hi
  · rw [if_neg (by rw [nI_leN (by omega) (by omega)]; exact c)]
    rw [lft_0 (by omega)] at hi
    refine Lp3_inv (I := fun m v _ s => ∃ e, k < e ∧ e ≤ Hn H ∧ m = Hn H - e ∧ v = nI e ∧ Inv (lft H S k e) s) ?_ (m := Hn H - (k + 1)) ⟨k + 1, by omega, by omega, rfl, nI_add k 1, hi⟩
    rintro m' v' o s' ⟨e, hke, he, rfl, rfl, hi⟩ X' hX'
    obtain ⟨b1, b2, b3⟩ := hI _ _ hi
    refine ⟨b1, WE_i (m_bodies b1 b2) ?_⟩
    by_cases d : Hn H ≤ e
    · rw [if_pos (by rw [nI_leN (by omega) (by omega)]; exact d)]
      have e1 : e = Hn H := by omega
      rw [e1, lft_end] at hi
      exact hX _ _ _ _ _ (by omega) ⟨k + 1, by omega, rfl, nI_add k 1, hi⟩
    · rw [if_neg (by rw [nI_leN (by omega) (by omega)]; exact d)]
      refine WE_i (m_mayTurn b1 hW hS b2 b3 (by omega) (by omega) (by omega)) ?_
      cases hm : mayT H S k e
      · rw [if_pos (by decide)]
        rw [lft_no n8 (by omega) hm] at hi
        exact hX' _ _ _ _ (by omega) ⟨e + 1, by omega, by omega, rfl, nI_add e 1, hi⟩
      · rw [if_neg (by decide)]
        rw [lft_yes n8 (by omega) hm] at hi
        exact hB k e _ s' hke (by omega) hm hi _ (fun o s'' h => hX' _ _ _ _ (by omega) ⟨e + 1, by omega, by omega, rfl, nI_add e 1, h⟩)
/-! ===== MOST ===== -/
def mN (c : Nat) : Int32 := if c = 0 then mI 1 else nI (c - 1)
def mostR (H : Hou) : Nat → Mud → Nat → Nat
  | 0, S, c => max c (wrs H S + 1)
  | d + 1, S, c => (opl H S).foldl (fun c p => mostR H d (trnC S p) c) c
theorem wrs_le {H : Hou} (S : Mud) (hW : WH H) : wrs H S ≤ 8 := Nat.le_trans (cntB_le _ _) hW.1
theorem mN_le {w c : Nat} (hw : w ≤ 8) (hc : c < 10) : (nI w ≤ mN c) = (w + 1 ≤ c) := by
  unfold mN
  by_cases h : c = 0
  · rw [if_pos h, eq_iff_iff]
    refine ⟨fun q => ?_, fun q => by omega⟩
    have h0 : (0 : Int32) ≤ nI w := by rw [nI_0le (by omega)]; trivial
    exact absurd (Int32.le_trans h0 q) (by decide)
  · rw [if_neg h, nI_leN (by omega) (by omega), eq_iff_iff]
    omega
theorem WS_trnC {H : Hou} {S : Mud} {p : Nat} (hW : WH H) (hS : WS H S) (hp : p ∈ opl H S) : WS H (trnC S p) := by
  obtain ⟨h1, h2, h3, h4, h5⟩ := opl_mem hW.1 hp
  exact WS_trn hS h2 h3 h5 hW
/-- the model at its other place, where rows are tried -/
def Ms (H : Hou) (L : Option Lws) (S : Mud) (c : Int32) (s : JH) : Prop := Ly s ∧ mHL H L s ∧ mM H S 2376 s ∧ s.2.1 218 2377 = c
theorem Ms_O {H : Hou} {L : Option Lws} {S : Mud} {c : Int32} {s : JH} (h : Ms H L S c s) : mO H S s := ⟨h.1, h.2.1.1, h.2.2.1⟩
theorem Ms_f {H : Hou} {L : Option Lws} {S : Mud} {c : Int32} {s t : JH} {P : Nat → Nat → Prop} (hW : WH H) (h : Ms H L S c s) (f : Fi P s t) (h1 : ∀ b j, 210 ≤ b → b ≤ 212 → ¬ P b j) (h2 : ∀ j, ¬ P 218 j) : Ms H L S c t :=
  ⟨Fi_ly f h.1, mHL_f f h1 h.2.1, mM_f hW.1 f (fun j _ _ _ => h2 j) h.2.2.1, (f.2.2 218 2377 (h2 _)).trans h.2.2.2⟩
/-- a turn, something in between, and back -/
theorem m_try {H : Hou} {L : Option Lws} {S : Mud} {c : Int32} {k e : Nat} {s : JH} (hW : WH H) (hS : WS H S) (h : Ms H L S c s) (hk : k < Hn H) (he : e < Hn H) (hm : mayT H S k e = true) {F : Int32 → JH → Prop}
    (hF : ∀ t, Ms H L (trn S k e) (c + nI (ctn H L S k e)) t → Fi (PT 2376) s t → F (nI (ctn H L S k e)) t) : WM q_Md_turns [.ref 204, .int (nI 2376), .int (nI k), .int (nI e)] s (kI F) := by
  obtain ⟨h1, h2, h3, h4⟩ := h
  refine WM_I (m_turns h1 hW hS h2 h3 (by omega) hk he hm) fun x t ⟨hx, l, f, M, hc⟩ => ?_
  rw [hx]
  refine hF t ⟨l, mHL_f f (fun b j q1 q2 => by unfold PT; omega) h2, M, ?_⟩ f
  rw [hc, h4]
theorem m_untry {H : Hou} {L : Option Lws} {S : Mud} {c x : Int32} {k e : Nat} {s : JH} (hW : WH H) (hS : WS H S) (h : Ms H L (trn S k e) (c + x) s) (hk : k < Hn H) (he : e < Hn H) (hm : mayT H S k e = true) {F : JH → Prop}
    (hF : ∀ t, Ms H L S c t → Fi (PT 2376) s t → F t) : WM q_Md_unturns [.ref 204, .int (nI 2376), .int (nI k), .int (nI e), .int x] s (kV F) := by
  obtain ⟨h1, h2, h3, h4⟩ := h
  refine WM_V (m_unturns h1 hW hS h3 (by omega) hk he hm) fun t ⟨l, f, M, hc⟩ => ?_
  refine hF t ⟨l, mHL_f f (fun b j q1 q2 => by unfold PT; omega) h2, M, ?_⟩ f
  rw [hc, h4, Int32.add_sub_cancel]
def PMo (b j : Nat) : Prop := PT 2376 b j ∨ (b = 204 ∧ j = 34)
theorem mostR_lt {H : Hou} (hW : WH H) : ∀ (d : Nat) (S : Mud) (c : Nat), c < 10 → mostR H d S c < 10 := by
  intro d
  induction d with
  | zero => intro S c hc; have := wrs_le S hW; unfold mostR; omega
  | succ d ih =>
    intro S c hc
    unfold mostR
    generalize opl H S = l
    induction l generalizing c with
    | nil => exact hc
    | cons p l ihl => exact ihl _ (ih _ _ hc)
set_option maxHeartbeats 1000000 in
theorem m_mostFrom {H : Hou} {L : Option Lws} (hW : WH H) : ∀ (m d : Nat), d < m → d ≤ 3 → ∀ (S : Mud) (x : Int32) (c : Nat) (σ : JH), WS H S → Ms H L S x σ → c < 10 → σ.2.1 204 34 = mN c → WM (g_Md_mostFrom m 0) [.ref 204, .int (nI d)] σ (kV fun s => Ms H L S x s ∧ Fi PMo σ s ∧ s.2.1 204 34 = mN (mostR H d S c)) := by
  intro m
  induction m with
  | zero => intro d h; omega
  | succ m ih =>
    intro d hd hd3 S x c σ hS hM hc hv
    refine w_Md_mostFrom (g_Md_mostFrom m) (nI d) hM.1 ?_
    cases d with
    | zero =>
      rw [if_pos (by decide)]
      refine WE_i (m_wrongs hM.1 hW hS hM.2.1.1 hM.2.2.1 (by omega)) ?_
      have hw := wrs_le S hW
      simp only [hv, lt, mN_le hw hc]
      have fin : ∀ y, y = mN (max c (wrs H S + 1)) → Ms H L S x (jh_setI σ 204 34 y) ∧ Fi PMo σ (jh_setI σ 204 34 y) ∧ (jh_setI σ 204 34 y).2.1 204 34 = mN (mostR H 0 S c) := by
        intro y hy
        have f : Fi (fun b j => b = 204 ∧ j = 34) σ (jh_setI σ 204 34 y) := Fi_s (Fi_r _ _) ⟨rfl, rfl⟩
        refine ⟨Ms_f hW hM f (fun b j h1 h2 => by omega) (fun j => by omega), Fi_m f (fun b j h => Or.inr h), ?_⟩
        rw [rI_eq, hy]; rfl
      by_cases q : wrs H S + 1 ≤ c
      · rw [if_pos q]; exact fin _ (by rw [Nat.max_eq_left q])
      · rw [if_neg q]; exact fin _ (by rw [Nat.max_eq_right (by omega)]; unfold mN; rw [if_neg (by omega), Nat.add_sub_cancel])
    | succ d =>
      rw [if_neg (by rw [nI_eq0 (by omega)]; omega)]
      refine nest43 hW hS (fun l s => Ms H L S x s ∧ Fi PMo σ s ∧ ∃ c', c' < 10 ∧ s.2.1 204 34 = mN c' ∧ l.foldl (fun c p => mostR H d (trnC S p) c) c' = mostR H (d + 1) S c) (fun v v' s C => WM q_Md_turns [.ref 204, .int (nI 2376), .int v, .int v'] s (kI fun x16 s17 => Ly s17 ∧ WM (g_Md_mostFrom m 0) [.ref 204, .int (nI (d + 1) - nI 1)] s17 (kV fun s18 => Ly s18 ∧ WM q_Md_unturns [.ref 204, .int (nI 2376), .int v, .int v', .int x16] s18 (kV fun s19 => Ly s19 ∧ C (some (.int x16)) s19)))) ⟨hM, Fi_r _ _, c, hc, hv, rfl⟩ (fun l s h => Ms_O h.1) (fun s ⟨h1, h2, c', h3, h4, h5⟩ => ⟨h1, h2, by rw [h4]; exact congrArg mN h5⟩) ?_
      rintro k e l s hke he hm ⟨h1, h2, c', h3, h4, h5⟩ C hC
      have hkn : k < Hn H := by omega
      refine m_try hW hS h1 hkn he hm fun t ht hf => ⟨ht.1, ?_⟩
      rw [nI_subN (by omega), Nat.add_sub_cancel]
      have hp : (8 * k + e) / 8 = k ∧ (8 * k + e) % 8 = e := by have := hW.1; omega
      refine WM_V (ih d (by omega) (by omega) (trn S k e) _ c' t (WS_trn hS hkn he hm hW) ht h3 ((hf.2.2 204 34 (by unfold PT; omega)).trans h4)) fun t2 ⟨g1, g2, g3⟩ => ⟨g1.1, ?_⟩
      refine m_untry hW hS g1 hkn he hm fun t3 ht3 hf3 => ⟨ht3.1, ?_⟩
      refine hC _ _ ⟨ht3, Fi_t h2 (Fi_t (Fi_m hf (fun b j q => Or.inl q)) (Fi_t g2 (Fi_m hf3 (fun b j q => Or.inl q)))), mostR H d (trn S k e) c', mostR_lt hW d _ _ h3, (hf3.2.2 204 34 (by unfold PT; omega)).trans g3, ?_⟩
      rw [List.foldl_cons] at h5
      rw [← h5]
      show _ = l.foldl _ (mostR H d (trn S ((8 * k + e) / 8) ((8 * k + e) % 8)) c')
      rw [hp.1, hp.2]

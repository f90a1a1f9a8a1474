/-! ===== rows of the model ===== -/
abbrev Bst : Type := Option (Nat × List Nat)
def mR (pre : List Nat) (s : JH) : Prop := ∀ i p, pre[i]? = some p → s.2.1 224 i = nI p
def mB (b : Bst) (s : JH) : Prop := match b with
  | none => s.2.1 204 38 = mI 1 ∧ s.2.1 204 37 = nI 0
  | some (w, r) => s.2.1 204 38 = nI w ∧ s.2.1 204 37 = nI r.length ∧ (w < 100000 ∧ r.length ≤ 5) ∧ ∀ i p, r[i]? = some p → s.2.1 225 i = nI p
def PRw (b j : Nat) : Prop := PT 2376 b j ∨ b = 224 ∨ b = 225 ∨ (b = 204 ∧ (j = 37 ∨ j = 38))
theorem mR_f {pre : List Nat} {s t : JH} {P : Nat → Nat → Prop} (f : Fi P s t) (hP : ∀ j, ¬ P 224 j) (h : mR pre s) : mR pre t := fun i p q => (f.2.2 224 i (hP i)).trans (h i p q)
theorem mB_f {b : Bst} {s t : JH} {P : Nat → Nat → Prop} (f : Fi P s t) (hP : ∀ j, ¬ P 225 j) (h1 : ¬ P 204 37) (h2 : ¬ P 204 38) (h : mB b s) : mB b t := by
  cases b with
  | none => exact ⟨(f.2.2 _ _ h2).trans h.1, (f.2.2 _ _ h1).trans h.2⟩
  | some q => exact ⟨(f.2.2 _ _ h2).trans h.1, (f.2.2 _ _ h1).trans h.2.1, h.2.2.1, fun i p e => (f.2.2 225 i (hP i)).trans (h.2.2.2 i p e)⟩
theorem mR_app {pre : List Nat} {p : Nat} {s : JH} (h : mR pre s) : mR (pre ++ [p]) (jh_setI s 224 pre.length (nI p)) := by
  intro i q hq
  rw [rI]
  by_cases c : i < pre.length
  · rw [if_neg (by omega)]
    rw [List.getElem?_append_left c] at hq
    exact h i q hq
  · rw [List.getElem?_append_right (by omega)] at hq
    have : i - pre.length = 0 := by
      have := (List.getElem?_eq_some_iff.mp hq).1
      rw [List.length_singleton] at this
      omega
    rw [this] at hq
    rw [if_pos ⟨rfl, by omega⟩]
    injection hq with hq
    rw [hq]
theorem mR_pre {pre : List Nat} {p : Nat} {s : JH} (h : mR (pre ++ [p]) s) : mR pre s := fun i q hq => h i q (by
  rw [List.getElem?_append_left (List.getElem?_eq_some_iff.mp hq).1]
  exact hq)
theorem m_keepsRow {pre : List Nat} {w : Nat} {σ : JH} (hl : Ly σ) (hp : pre.length ≤ 5) (hw : w < 100000) (hR : mR pre σ) : WM q_Md_keepsRow [.ref 204, .int (nI pre.length), .int (nI w)] σ (kV fun s => Ly s ∧ Fi (fun b j => b = 225 ∨ (b = 204 ∧ (j = 37 ∨ j = 38))) σ s ∧ mB (some (w, pre)) s) := by
  refine w_Md_keepsRow _ _ hl ?_
  unfold lt
  have f0 : Fi (fun b j => b = 225 ∨ (b = 204 ∧ (j = 37 ∨ j = 38))) σ (jh_setI (jh_setI σ 204 37 (nI pre.length)) 204 38 (nI w)) := Fi_s (Fi_s (Fi_r _ _) (by omega)) (by omega)
  refine Lp2_inv (I := fun m v s => ∃ i, i ≤ pre.length ∧ m = pre.length - i ∧ v = nI i ∧ Fi (fun b j => b = 225 ∨ (b = 204 ∧ (j = 37 ∨ j = 38))) σ s ∧ s.2.1 204 38 = nI w ∧ s.2.1 204 37 = nI pre.length ∧ ∀ j, j < i → s.2.1 225 j = σ.2.1 224 j) ?_ (m := pre.length) ⟨0, by omega, by omega, rfl, f0, rI_eq, by rw [rI_ne (by omega), rI_eq], fun j hj => by omega⟩
  rintro m v s ⟨i, hi, rfl, rfl, f, h1, h2, h3⟩ X hX
  refine ⟨Fi_ly f hl, ?_⟩
  simp (disch := omega) only [nI_leN, inb_nI, cl_nI]
  by_cases c : pre.length ≤ i
  · rw [if_pos c]
    exact ⟨Fi_ly f hl, f, h1, h2, ⟨hw, hp⟩, fun j p q => (h3 j (by have := (List.getElem?_eq_some_iff.mp q).1; omega)).trans (hR j p q)⟩
  · rw [if_neg c]
    refine ⟨by omega, by omega, hX _ _ _ (by omega) ⟨i + 1, by omega, rfl, nI_add i 1, Fi_s f (Or.inl rfl), ?_, ?_, fun j hj => ?_⟩⟩
    · rw [rI_ne (by omega)]; exact h1
    · rw [rI_ne (by omega)]; exact h2
    · rw [rI]
      by_cases d : j = i
      · rw [if_pos ⟨rfl, d⟩, d, f.2.2 224 i (by omega)]
      · rw [if_neg (by omega)]; exact h3 j (by omega)
/-! LEAST -/
def lbt (b : Bst) (w : Nat) (pre : List Nat) : Bst := match b with
  | none => some (w, pre)
  | some (w0, r0) => if w < w0 ∨ (w = w0 ∧ pre.length < r0.length) then some (w, pre) else some (w0, r0)
def lstop (b : Bst) (n : Nat) : Bool := match b with
  | none => false
  | some (w, r) => decide (w = 0 ∧ r.length ≤ n + 1)
def leastR (H : Hou) : Nat → Mud → List Nat → Bst → Bst
  | 0, S, pre, b => lbt b (wrs H S) pre
  | d + 1, S, pre, b => if lstop (lbt b (wrs H S) pre) pre.length = true then lbt b (wrs H S) pre else (opl H S).foldl (fun b p => leastR H d (trnC S p) (pre ++ [p]) b) (lbt b (wrs H S) pre)
theorem len_app (pre : List Nat) (p : Nat) : (pre ++ [p]).length = pre.length + 1 := by rw [List.length_append]; rfl
set_option maxHeartbeats 1000000 in
theorem m_leastFrom {H : Hou} {L : Option Lws} (hW : WH H) : ∀ (m d : Nat), d < m → ∀ (S : Mud) (x : Int32) (pre : List Nat) (b : Bst) (σ : JH), d + pre.length ≤ 5 → WS H S → Ms H L S x σ → mR pre σ → mB b σ → WM (g_Md_leastFrom m 0) [.ref 204, .int (nI pre.length), .int (nI d)] σ (kV fun s => Ms H L S x s ∧ Fi PRw σ s ∧ mR pre s ∧ mB (leastR H d S pre b) s) := by
  intro m
  induction m with
  | zero => intro d h; omega
  | succ m ih =>
    intro d hd S x pre b σ hlen hS hM hR hB
    refine w_Md_leastFrom (g_Md_leastFrom m) _ _ hM.1 ?_
    have hw := wrs_le S hW
    -- behind the first look
    have main : ∀ s, Ms H L S x s → Fi PRw σ s → mR pre s → mB (lbt b (wrs H S) pre) s → (if nI d = 0 then (Ms H L S x s ∧ Fi PRw σ s ∧ mR pre s ∧ mB (leastR H d S pre b) s) else JJ1 (fun (_ : Unit) => Lp4 (fun (v6 : Int32) (_ : Option Value) (o8 : Option Value) (s9 : JH) X10 => Ly s9 ∧ WE q_Md_bodies [.ref 204] s9 (fun x11 => (if x11 ≤ v6 then (Ms H L S x s9 ∧ Fi PRw σ s9 ∧ mR pre s9 ∧ mB (leastR H d S pre b) s9) else Lp3 (fun (v12 : Int32) (o13 : Option Value) (s14 : JH) X15 => Ly s14 ∧ WE q_Md_bodies [.ref 204] s14 (fun x16 => (if x16 ≤ v12 then X10 (v6 + nI 1) (some (.int v12)) o13 s14 else WE q_Md_mayTurn [.ref 204, .int (nI 2376), .int v6, .int v12] s14 (fun x17 => (if x17 = 0 then X15 (v12 + nI 1) o13 s14 else WM q_Md_turns [.ref 204, .int (nI 2376), .int v6, .int v12] s14 (kI fun x18 s19 => Ly s19 ∧ inb (nI pre.length) 5 ∧ lt (jh_setI s19 224 (cl (nI pre.length)) ((nI 8 * v6) + v12)) (fun s20 => WM (g_Md_leastFrom m 0) [.ref 204, .int (nI pre.length + nI 1), .int (nI d - nI 1)] s20 (kV fun s21 => Ly s21 ∧ WM q_Md_unturns [.ref 204, .int (nI 2376), .int v6, .int v12, .int x18] s21 (kV fun s22 => Ly s22 ∧ X15 (v12 + nI 1) (some (.int x18)) s22))))))))) (v6 + nI 1) o8 s9))) (nI 0) none none s) (fun J5 => (if s.2.1 204 38 = 0 then (if nI pre.length + nI 1 < s.2.1 204 37 then J5 (()) else (Ms H L S x s ∧ Fi PRw σ s ∧ mR pre s ∧ mB (leastR H d S pre b) s)) else J5 (())))) := by
      intro s hM hF hR hB
      cases d with
      | zero => rw [if_pos (by decide)]; exact ⟨hM, hF, hR, hB⟩
      | succ d =>
        rw [if_neg (by rw [nI_eq0 (by omega)]; omega)]
        simp only [JJ1]
        by_cases hst : lstop (lbt b (wrs H S) pre) pre.length = true
        · have e : leastR H (d + 1) S pre b = lbt b (wrs H S) pre := by
            show (if lstop (lbt b (wrs H S) pre) pre.length = true then _ else _) = _
            rw [if_pos hst]
          rw [e]
          cases hb : lbt b (wrs H S) pre with
          | none => rw [hb] at hst; cases hst
          | some q =>
            obtain ⟨w, r⟩ := q
            rw [hb] at hst hB
            have hst := of_decide_eq_true hst
            obtain ⟨b1, b2, b3, b4⟩ := hB
            rw [b1, b2, if_pos (by rw [nI_eq0 (by omega)]; exact hst.1), nI_add, if_neg (by rw [nI_ltN (by omega) (by omega)]; omega)]
            exact ⟨hM, hF, hR, b1, b2, b3, b4⟩
        · have e : leastR H (d + 1) S pre b = (opl H S).foldl (fun b p => leastR H d (trnC S p) (pre ++ [p]) b) (lbt b (wrs H S) pre) := by
            show (if lstop (lbt b (wrs H S) pre) pre.length = true then _ else _) = _
            rw [if_neg hst]
          rw [e]
          have go : ∀ {G : Prop}, G → (if s.2.1 204 38 = 0 then (if nI pre.length + nI 1 < s.2.1 204 37 then G else (Ms H L S x s ∧ Fi PRw σ s ∧ mR pre s ∧ mB ((opl H S).foldl (fun b p => leastR H d (trnC S p) (pre ++ [p]) b) (lbt b (wrs H S) pre)) s)) else G) := by
            intro G hG
            by_cases z : s.2.1 204 38 = 0
            · rw [if_pos z]
              cases hb : lbt b (wrs H S) pre with
              | none => rw [hb] at hB; rw [hB.1] at z; exact absurd z (by decide)
              | some q =>
                obtain ⟨w, r⟩ := q
                rw [hb] at hst hB
                obtain ⟨b1, b2, b3, b4⟩ := hB
                rw [b1, nI_eq0 (by omega)] at z
                have hst : ¬ (w = 0 ∧ r.length ≤ pre.length + 1) := fun q => hst (decide_eq_true q)
                rw [b2, nI_add, if_pos (by rw [nI_ltN (by omega) (by omega)]; omega)]
                exact hG
            · rw [if_neg z]; exact hG
          refine go ?_
          refine nest43 hW hS (fun l t => Ms H L S x t ∧ Fi PRw σ t ∧ mR pre t ∧ ∃ b', mB b' t ∧ l.foldl (fun b p => leastR H d (trnC S p) (pre ++ [p]) b) b' = (opl H S).foldl (fun b p => leastR H d (trnC S p) (pre ++ [p]) b) (lbt b (wrs H S) pre)) (fun v v' s C => WM q_Md_turns [.ref 204, .int (nI 2376), .int v, .int v'] s (kI fun x18 s19 => Ly s19 ∧ inb (nI pre.length) 5 ∧ lt (jh_setI s19 224 (cl (nI pre.length)) ((nI 8 * v) + v')) (fun s20 => WM (g_Md_leastFrom m 0) [.ref 204, .int (nI pre.length + nI 1), .int (nI (d + 1) - nI 1)] s20 (kV fun s21 => Ly s21 ∧ WM q_Md_unturns [.ref 204, .int (nI 2376), .int v, .int v', .int x18] s21 (kV fun s22 => Ly s22 ∧ C (some (.int x18)) s22))))) ⟨hM, hF, hR, _, hB, rfl⟩ (fun l s h => Ms_O h.1) (fun s ⟨h1, h2, h3, b', h4, h5⟩ => ⟨h1, h2, h3, by rw [← h5]; exact h4⟩) ?_
          rintro k e l s hke he hm ⟨h1, h2, h3, b', h4, h5⟩ C hC
          have hkn : k < Hn H := by omega
          have hp : (8 * k + e) / 8 = k ∧ (8 * k + e) % 8 = e := by have := hW.1; omega
          refine m_try hW hS h1 hkn he hm fun t ht hf => ⟨ht.1, ?_⟩
          simp (disch := omega) only [lt, inb_nI, cl_nI, nI_add, nI_mulN, nI_subN, Nat.add_sub_cancel]
          refine ⟨by omega, ?_⟩
          have fr : Fi (fun b _ => b = 224) t (jh_setI t 224 pre.length (nI (8 * k + e))) := Fi_s (Fi_r _ _) rfl
          have i0 := ih d (by omega) (trn S k e) _ (pre ++ [8 * k + e]) b' (jh_setI t 224 pre.length (nI (8 * k + e))) (by rw [len_app]; omega) (WS_trn hS hkn he hm hW) (Ms_f hW ht fr (fun b j q1 q2 => by omega) (fun j => by omega)) (mR_app (mR_f hf (fun j => by unfold PT; omega) h3)) (mB_f fr (fun j => by omega) (by omega) (by omega) (mB_f hf (fun j => by unfold PT; omega) (by unfold PT; omega) (by unfold PT; omega) h4))
          rw [len_app] at i0
          refine WM_V i0 fun t2 ⟨g1, g2, g3, g4⟩ => ⟨g1.1, ?_⟩
          refine m_untry hW hS g1 hkn he hm fun t3 ht3 hf3 => ⟨ht3.1, ?_⟩
          refine hC _ _ ⟨ht3, Fi_t h2 (Fi_t (Fi_m hf (fun b j q => Or.inl q)) (Fi_t (Fi_m fr (fun b j q => Or.inr (Or.inl q))) (Fi_t g2 (Fi_m hf3 (fun b j q => Or.inl q))))), mR_f hf3 (fun j => by unfold PT; omega) (mR_pre g3), _, mB_f hf3 (fun j => by unfold PT; omega) (by unfold PT; omega) (by unfold PT; omega) g4, ?_⟩
          rw [List.foldl_cons] at h5
          rw [← h5]
          show _ = l.foldl _ (leastR H d (trn S ((8 * k + e) / 8) ((8 * k + e) % 8)) _ b')
          rw [hp.1, hp.2]
    simp only [JJ2]
    refine WE_i (m_wrongs hM.1 hW hS hM.2.1.1 hM.2.2.1 (by omega)) ?_
    have keep : ∀ {G : JH → Prop}, (∀ s, Ms H L S x s → Fi PRw σ s → mR pre s → mB (lbt b (wrs H S) pre) s → G s) → lbt b (wrs H S) pre = some (wrs H S, pre) → WM q_Md_keepsRow [.ref 204, .int (nI pre.length), .int (nI (wrs H S))] σ (kV fun s24 => Ly s24 ∧ G s24) := by
      intro G hG e
      refine WM_V (m_keepsRow hM.1 (by omega) (by omega) hR) fun s ⟨l, f, q⟩ => ⟨l, hG s ?_ ?_ ?_ ?_⟩
      · exact Ms_f hW hM f (fun b j h1 h2 => by omega) (fun j => by omega)
      · exact Fi_m f (fun b j h => by unfold PRw; omega)
      · exact mR_f f (fun j => by omega) hR
      · rw [e]; exact q
    cases b with
    | none =>
      rw [hB.1, if_pos (by decide)]
      exact keep main rfl
    | some q =>
      obtain ⟨w, r⟩ := q
      obtain ⟨b1, b2, b3, b4⟩ := hB
      rw [b1, b2, if_neg (by rw [nI_lt0 (by omega)]; exact id)]
      by_cases c1 : wrs H S < w
      · rw [if_pos (by rw [nI_ltN (by omega) (by omega)]; exact c1)]
        exact keep main (by show (if _ then _ else _) = _; rw [if_pos (Or.inl c1)])
      · rw [if_neg (by rw [nI_ltN (by omega) (by omega)]; exact c1)]
        by_cases c2 : wrs H S = w
        · rw [if_pos (by rw [c2])]
          by_cases c3 : r.length ≤ pre.length
          · rw [if_pos (by rw [nI_leN (by omega) (by omega)]; exact c3)]
            have z := main σ hM (Fi_r _ _) hR (by
              rw [show lbt (some (w, r)) (wrs H S) pre = some (w, r) by show (if _ then _ else _) = _; rw [if_neg (by omega)]]
              exact ⟨b1, b2, b3, b4⟩)
            rw [b1, b2] at z
            exact z
          · rw [if_neg (by rw [nI_leN (by omega) (by omega)]; exact c3)]
            exact keep main (by show (if _ then _ else _) = _; rw [if_pos (Or.inr ⟨c2, by omega⟩)])
        · rw [if_neg (by rw [nI_eqN (by omega) (by omega)]; exact c2)]
          have z := main σ hM (Fi_r _ _) hR (by
            rw [show lbt (some (w, r)) (wrs H S) pre = some (w, r) by show (if _ then _ else _) = _; rw [if_neg (by omega)]]
            exact ⟨b1, b2, b3, b4⟩)
          rw [b1, b2] at z
          exact z

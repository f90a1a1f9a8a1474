/-! CHEAP -/
def cworse (b : Bst) (paid n : Nat) : Bool := match b with
  | none => false
  | some (w, r) => decide (w < paid ∨ (paid = w ∧ r.length ≤ n))
def cheapR (H : Hou) (L : Option Lws) : Nat → Mud → List Nat → Nat → Bst → Bst
  | 0, S, pre, paid, b => if 0 < wrs H S then b else if cworse b paid pre.length = true then b else some (paid, pre)
  | d + 1, S, pre, paid, b => if 2 * (d + 1) < wrs H S then b else if cworse b paid pre.length = true then b else if wrs H S = 0 then some (paid, pre) else (opl H S).foldl (fun b p => cheapR H L d (trnC S p) (pre ++ [p]) (paid + ctn H L S (p / 8) (p % 8)) b) b
theorem cheapR_eq (H : Hou) (L : Option Lws) (d : Nat) (S : Mud) (pre : List Nat) (paid : Nat) (b : Bst) : cheapR H L d S pre paid b = if 2 * d < wrs H S then b else if cworse b paid pre.length = true then b else if wrs H S = 0 then some (paid, pre) else (opl H S).foldl (fun b p => cheapR H L (d - 1) (trnC S p) (pre ++ [p]) (paid + ctn H L S (p / 8) (p % 8)) b) b := by
  cases d with
  | zero =>
    show (if 0 < wrs H S then b else if cworse b paid pre.length = true then b else some (paid, pre)) = _
    rw [Nat.mul_zero]
    by_cases c : 0 < wrs H S
    · rw [if_pos c, if_pos c]
    · rw [if_neg c, if_neg c, if_pos (show wrs H S = 0 by omega)]
  | succ d => rfl
theorem ctn_lt (H : Hou) (L : Option Lws) (S : Mud) (k e : Nat) : ctn H L S k e < 1000 := clampN_lt _
set_option maxHeartbeats 1000000 in
theorem m_cheapFrom {H : Hou} {L : Option Lws} (hW : WH H) : ∀ (m d : Nat), d < m → ∀ (S : Mud) (x : Int32) (pre : List Nat) (paid : Nat) (b : Bst) (σ : JH), d + pre.length ≤ 5 → paid + 1000 * d ≤ 10000 → WS H S → Ms H L S x σ → mR pre σ → mB b σ → WM (g_Md_cheapFrom m 0) [.ref 204, .int (nI pre.length), .int (nI d), .int (nI paid)] σ (kV fun s => Ms H L S x s ∧ Fi PRw σ s ∧ mR pre s ∧ mB (cheapR H L d S pre paid b) s) := by
  intro m
  induction m with
  | zero => intro d h; omega
  | succ m ih =>
    intro d hd S x pre paid b σ hlen hpaid hS hM hR hB
    refine w_Md_cheapFrom (g_Md_cheapFrom m) _ _ _ hM.1 ?_
    have hw := wrs_le S hW
    refine WE_i (m_wrongs hM.1 hW hS hM.2.1.1 hM.2.2.1 (by omega)) ?_
    rw [cheapR_eq]
    have same : mB b σ → Ms H L S x σ ∧ Fi PRw σ σ ∧ mR pre σ ∧ mB b σ := fun h => ⟨hM, Fi_r _ _, hR, h⟩
    by_cases c1 : 2 * d < wrs H S
    · rw [if_pos (by rw [nI_mulN, nI_ltN (by omega) (by omega)]; exact c1), if_pos c1]
      exact same hB
    rw [if_neg (by rw [nI_mulN, nI_ltN (by omega) (by omega)]; exact c1), if_neg c1]
    simp only [JJ1]
    by_cases c2 : cworse b paid pre.length = true
    · rw [if_pos c2]
      cases b with
      | none => cases c2
      | some q =>
        obtain ⟨w, r⟩ := q
        have hB0 := hB
        obtain ⟨b1, b2, b3, b4⟩ := hB
        have c2 := of_decide_eq_true c2
        rw [if_neg (by rw [b1, nI_lt0 (by omega)]; exact id)]
        by_cases c3 : w < paid
        · rw [if_pos (by rw [b1, nI_ltN (by omega) (by omega)]; exact c3)]
          exact same hB0
        · rw [if_neg (by rw [b1, nI_ltN (by omega) (by omega)]; exact c3), if_pos (by rw [b1]; exact congrArg nI (by omega)), if_neg (by rw [b2, nI_ltN (by omega) (by omega)]; omega)]
          exact same hB0
    rw [if_neg c2]
    have go : ∀ {G E : Prop}, G → (if σ.2.1 204 38 < 0 then G else if σ.2.1 204 38 < nI paid then E else if nI paid = σ.2.1 204 38 then (if nI pre.length < σ.2.1 204 37 then G else E) else G) := by
      intro G E hG
      cases b with
      | none => rw [hB.1, if_pos (by decide)]; exact hG
      | some q =>
        obtain ⟨w, r⟩ := q
        obtain ⟨b1, b2, b3, b4⟩ := hB
        have c2 : ¬ (w < paid ∨ (paid = w ∧ r.length ≤ pre.length)) := fun q => c2 (decide_eq_true q)
        rw [b1, b2, if_neg (by rw [nI_lt0 (by omega)]; exact id), if_neg (by rw [nI_ltN (by omega) (by omega)]; omega)]
        by_cases c4 : paid = w
        · rw [if_pos (by rw [c4]), if_pos (by rw [nI_ltN (by omega) (by omega)]; omega)]; exact hG
        · rw [if_neg (by rw [nI_eqN (by omega) (by omega)]; exact c4)]; exact hG
    refine go ?_
    by_cases c3 : wrs H S = 0
    · rw [if_pos (by rw [nI_eq0 (by omega)]; exact c3), if_pos c3]
      refine WM_V (m_keepsRow hM.1 (by omega) (by omega) hR) fun s ⟨l, f, q⟩ => ⟨l, ?_, ?_, ?_, q⟩
      · exact Ms_f hW hM f (fun b j h1 h2 => by omega) (fun j => by omega)
      · exact Fi_m f (fun b j h => by unfold PRw; omega)
      · exact mR_f f (fun j => by omega) hR
    · rw [if_neg (by rw [nI_eq0 (by omega)]; exact c3), if_neg c3]
      have hd0 : ¬ nI d ≤ 0 := by rw [nI_le0 (by omega)]; omega
      simp only [if_neg hd0]
      obtain ⟨d, rfl⟩ : ∃ d', d = d' + 1 := ⟨d - 1, by omega⟩
      rw [Nat.add_sub_cancel]
      refine nest43 hW hS (fun l t => Ms H L S x t ∧ Fi PRw σ t ∧ mR pre t ∧ ∃ b', mB b' t ∧ l.foldl (fun b p => cheapR H L d (trnC S p) (pre ++ [p]) (paid + ctn H L S (p / 8) (p % 8)) b) b' = (opl H S).foldl (fun b p => cheapR H L d (trnC S p) (pre ++ [p]) (paid + ctn H L S (p / 8) (p % 8)) b) b) (fun v v' s C => WM q_Md_turns [.ref 204, .int (nI 2376), .int v, .int v'] s (kI fun x18 s19 => Ly s19 ∧ inb (nI pre.length) 5 ∧ lt (jh_setI s19 224 (cl (nI pre.length)) ((nI 8 * v) + v')) (fun s20 => WM (g_Md_cheapFrom m 0) [.ref 204, .int (nI pre.length + nI 1), .int (nI (d + 1) - nI 1), .int (nI paid + x18)] s20 (kV fun s21 => Ly s21 ∧ WM q_Md_unturns [.ref 204, .int (nI 2376), .int v, .int v', .int x18] s21 (kV fun s22 => Ly s22 ∧ C (some (.int x18)) s22))))) ⟨hM, Fi_r _ _, hR, _, hB, rfl⟩ (fun l s h => Ms_O h.1) (fun s ⟨h1, h2, h3, b', h4, h5⟩ => ⟨h1, h2, h3, by rw [← h5]; exact h4⟩) ?_
      rintro k e l s hke he hm ⟨h1, h2, h3, b', h4, h5⟩ C hC
      have hkn : k < Hn H := by omega
      have hp : (8 * k + e) / 8 = k ∧ (8 * k + e) % 8 = e := by have := hW.1; omega
      have hct := ctn_lt H L S k e
      refine m_try hW hS h1 hkn he hm fun t ht hf => ⟨ht.1, ?_⟩
      simp (disch := omega) only [lt, inb_nI, cl_nI, nI_add, nI_mulN, nI_subN, Nat.add_sub_cancel]
      refine ⟨by omega, ?_⟩
      have fr : Fi (fun b _ => b = 224) t (jh_setI t 224 pre.length (nI (8 * k + e))) := Fi_s (Fi_r _ _) rfl
      have i0 := ih d (by omega) (trn S k e) _ (pre ++ [8 * k + e]) (paid + ctn H L S k e) b' (jh_setI t 224 pre.length (nI (8 * k + e))) (by rw [len_app]; omega) (by omega) (WS_trn hS hkn he hm hW) (Ms_f hW ht fr (fun b j q1 q2 => by omega) (fun j => by omega)) (mR_app (mR_f hf (fun j => by unfold PT; omega) h3)) (mB_f fr (fun j => by omega) (by omega) (by omega) (mB_f hf (fun j => by unfold PT; omega) (by unfold PT; omega) (by unfold PT; omega) h4))
      rw [len_app] at i0
      refine WM_V i0 fun t2 ⟨g1, g2, g3, g4⟩ => ⟨g1.1, ?_⟩
      refine m_untry hW hS g1 hkn he hm fun t3 ht3 hf3 => ⟨ht3.1, ?_⟩
      refine hC _ _ ⟨ht3, Fi_t h2 (Fi_t (Fi_m hf (fun b j q => Or.inl q)) (Fi_t (Fi_m fr (fun b j q => Or.inr (Or.inl q))) (Fi_t g2 (Fi_m hf3 (fun b j q => Or.inl q))))), mR_f hf3 (fun j => by unfold PT; omega) (mR_pre g3), _, mB_f hf3 (fun j => by unfold PT; omega) (by unfold PT; omega) (by unfold PT; omega) g4, ?_⟩
      rw [List.foldl_cons] at h5
      rw [← h5]
      show _ = l.foldl _ (cheapR H L d (trn S ((8 * k + e) / 8) ((8 * k + e) % 8)) _ (paid + ctn H L S ((8 * k + e) / 8) ((8 * k + e) % 8)) b')
      rw [hp.1, hp.2]
/-! FEWEST -/
theorem nest54 {H : Hou} {S : Mud} {K : JH → Prop} {σ : JH} (hW : WH H) (hS : WS H S) (Inv : List Nat → JH → Prop) (B : Int32 → Int32 → JH → (Option Value → Option Value → JH → Prop) → Prop)
    (h0 : Inv (opl H S) σ) (hI : ∀ l s, Inv l s → mO H S s) (hK : ∀ s, Inv [] s → K s)
    (hB : ∀ k e l s, k < e → e < Hn H → mayT H S k e = true → Inv ((8 * k + e) :: l) s → ∀ C : Option Value → Option Value → JH → Prop, (∀ o o' s', Inv l s' → C o o' s') → B (nI k) (nI e) s C) :
    Lp5 (fun (v : Int32) (_ : Option Value) (o2 : Option Value) (o3 : Option Value) (s : JH) X => Ly s ∧ WE q_Md_bodies [.ref 204] s (fun x => (if x ≤ v then K s else Lp4 (fun (v' : Int32) (o : Option Value) (o' : Option Value) (s' : JH) X' => Ly s' ∧ WE q_Md_bodies [.ref 204] s' (fun x' => (if x' ≤ v' then X (v + nI 1) (some (.int v')) o o' s' else WE q_Md_mayTurn [.ref 204, .int (nI 2376), .int v, .int v'] s' (fun y => (if y = 0 then X' (v' + nI 1) o o' s' else B v v' s' (fun o o' s => X' (v' + nI 1) o o' s)))))) (v + nI 1) o2 o3 s))) (nI 0) none none none σ := by
  have n8 := hW.1
  refine Lp5_inv (I := fun m v _ _ _ s => ∃ k, k ≤ Hn H ∧ m = Hn H - k ∧ v = nI k ∧ Inv ((prK (Hn H) (Hn H - k)).filter (myP H S)) s) ?_ (m := Hn H) ⟨0, by omega, by omega, rfl, h0⟩
  rintro m v o1 o2 o3 s ⟨k, hk, rfl, rfl, hi⟩ X hX
  obtain ⟨a1, a2, a3⟩ := hI _ _ hi
  refine ⟨a1, WE_i (m_bodies a1 a2) ?_⟩
  by_cases c : Hn H ≤ k
  · rw [if_pos (by rw [nI_leN (by omega) (by omega)]; exact c)]
    refine hK s ?_
    rw [show Hn H - k = 0 by omega] at hi
    exact hi
  · rw [if_neg (by rw [nI_leN (by omega) (by omega)]; exact c)]
    rw [lft_0 (by omega)] at hi
    refine Lp4_inv (I := fun m v _ _ s => ∃ e, k < e ∧ e ≤ Hn H ∧ m = Hn H - e ∧ v = nI e ∧ Inv (lft H S k e) s) ?_ (m := Hn H - (k + 1)) ⟨k + 1, by omega, by omega, rfl, nI_add k 1, hi⟩
    rintro m' v' o o' s' ⟨e, hke, he, rfl, rfl, hi⟩ X' hX'
    obtain ⟨b1, b2, b3⟩ := hI _ _ hi
    refine ⟨b1, WE_i (m_bodies b1 b2) ?_⟩
    by_cases d : Hn H ≤ e
    · rw [if_pos (by rw [nI_leN (by omega) (by omega)]; exact d)]
      have e1 : e = Hn H := by omega
      rw [e1, lft_end] at hi
      exact hX _ _ _ _ _ _ (by omega) ⟨k + 1, by omega, rfl, nI_add k 1, hi⟩
    · rw [if_neg (by rw [nI_leN (by omega) (by omega)]; exact d)]
      refine WE_i (m_mayTurn b1 hW hS b2 b3 (by omega) (by omega) (by omega)) ?_
      cases hm : mayT H S k e
      · rw [if_pos (by decide)]
        rw [lft_no n8 (by omega) hm] at hi
        exact hX' _ _ _ _ _ (by omega) ⟨e + 1, by omega, by omega, rfl, nI_add e 1, hi⟩
      · rw [if_neg (by decide)]
        rw [lft_yes n8 (by omega) hm] at hi
        exact hB k e _ s' hke (by omega) hm hi _ (fun o o' s'' h => hX' _ _ _ _ _ (by omega) ⟨e + 1, by omega, by omega, rfl, nI_add e 1, h⟩)
def undoR (H : Hou) : Nat → Mud → List Nat → Option (List Nat)
  | 0, S, pre => if wrs H S = 0 then some pre else none
  | d + 1, S, pre => if 2 * (d + 1) < wrs H S then none else (opl H S).findSome? (fun p => undoR H d (trnC S p) (pre ++ [p]))
def mU (o : Option (List Nat)) (s : JH) : Prop := match o with
  | none => True
  | some r => mB (some (0, r)) s
theorem mU_f {b : Option (List Nat)} {s t : JH} {P : Nat → Nat → Prop} (f : Fi P s t) (hP : ∀ j, ¬ P 225 j) (h1 : ¬ P 204 37) (h2 : ¬ P 204 38) (h : mU b s) : mU b t := by
  cases b with
  | none => trivial
  | some q => exact mB_f (b := some (0, q)) f hP h1 h2 h
set_option maxHeartbeats 1000000 in
theorem m_undoes {H : Hou} {L : Option Lws} (hW : WH H) : ∀ (m d : Nat), d < m → ∀ (S : Mud) (x : Int32) (pre : List Nat) (σ : JH), d + pre.length ≤ 5 → WS H S → Ms H L S x σ → mR pre σ → WM (g_Md_undoes m 0) [.ref 204, .int (nI pre.length), .int (nI d)] σ (kI fun y s => y = bI (undoR H d S pre).isSome ∧ Ms H L S x s ∧ Fi PRw σ s ∧ mR pre s ∧ mU (undoR H d S pre) s) := by
  intro m
  induction m with
  | zero => intro d h; omega
  | succ m ih =>
    intro d hd S x pre σ hlen hS hM hR
    refine w_Md_undoes (g_Md_undoes m) _ _ hM.1 ?_
    have hw := wrs_le S hW
    simp only [JJ1]
    refine WE_i (m_wrongs hM.1 hW hS hM.2.1.1 hM.2.2.1 (by omega)) ?_
    cases d with
    | zero =>
      rw [if_pos (by decide)]
      show if nI (wrs H S) = 0 then _ else _
      by_cases c : wrs H S = 0
      · rw [if_pos (by rw [c]; decide)]
        have e : undoR H 0 S pre = some pre := by show (if _ then _ else _) = _; rw [if_pos c]
        rw [e]
        refine WM_V (m_keepsRow hM.1 (by omega) (by omega) hR) fun s ⟨l, f, q⟩ => ⟨l, rfl, ?_, ?_, ?_, q⟩
        · exact Ms_f hW hM f (fun b j h1 h2 => by omega) (fun j => by omega)
        · exact Fi_m f (fun b j h => by unfold PRw; omega)
        · exact mR_f f (fun j => by omega) hR
      · rw [if_neg (by rw [nI_eq0 (by omega)]; exact c), nI_mulN, if_neg (by rw [nI_leN (by omega) (by omega)]; omega)]
        have e : undoR H 0 S pre = none := by show (if _ then _ else _) = _; rw [if_neg c]
        rw [e]
        exact ⟨rfl, hM, Fi_r _ _, hR, trivial⟩
    | succ d =>
      rw [if_neg (by rw [nI_eq0 (by omega)]; omega), nI_mulN]
      by_cases c : 2 * (d + 1) < wrs H S
      · rw [if_neg (by rw [nI_leN (by omega) (by omega)]; omega)]
        have e : undoR H (d + 1) S pre = none := by show (if _ then _ else _) = _; rw [if_pos c]
        rw [e]
        exact ⟨rfl, hM, Fi_r _ _, hR, trivial⟩
      · rw [if_pos (by rw [nI_leN (by omega) (by omega)]; omega)]
        have e : undoR H (d + 1) S pre = (opl H S).findSome? (fun p => undoR H d (trnC S p) (pre ++ [p])) := by show (if _ then _ else _) = _; rw [if_neg c]
        rw [e]
        have hd0 : ¬ nI (d + 1) ≤ 0 := by rw [nI_le0 (by omega)]; omega
        simp only [if_neg hd0]
        refine nest54 hW hS (fun l t => Ms H L S x t ∧ Fi PRw σ t ∧ mR pre t ∧ l.findSome? (fun p => undoR H d (trnC S p) (pre ++ [p])) = (opl H S).findSome? (fun p => undoR H d (trnC S p) (pre ++ [p]))) (fun v v' s C => WM q_Md_turns [.ref 204, .int (nI 2376), .int v, .int v'] s (kI fun x17 s18 => Ly s18 ∧ inb (nI pre.length) 5 ∧ lt (jh_setI s18 224 (cl (nI pre.length)) ((nI 8 * v) + v')) (fun s19 => WM (g_Md_undoes m 0) [.ref 204, .int (nI pre.length + nI 1), .int (nI (d + 1) - nI 1)] s19 (kI fun x20 s21 => Ly s21 ∧ WM q_Md_unturns [.ref 204, .int (nI 2376), .int v, .int v', .int x17] s21 (kV fun s22 => Ly s22 ∧ (if x20 = 0 then C (some (.int x17)) (some (.int x20)) s22 else (nI 1 = bI ((opl H S).findSome? (fun p => undoR H d (trnC S p) (pre ++ [p]))).isSome ∧ Ms H L S x s22 ∧ Fi PRw σ s22 ∧ mR pre s22 ∧ mU ((opl H S).findSome? (fun p => undoR H d (trnC S p) (pre ++ [p]))) s22)))))) ) ⟨hM, Fi_r _ _, hR, rfl⟩ (fun l s h => Ms_O h.1) (fun s ⟨h1, h2, h3, h5⟩ => ⟨by rw [← h5]; rfl, h1, h2, h3, by rw [← h5]; trivial⟩) ?_
        rintro k e l s hke he hm ⟨h1, h2, h3, h5⟩ C hC
        have hkn : k < Hn H := by omega
        have hp : (8 * k + e) / 8 = k ∧ (8 * k + e) % 8 = e := by have := hW.1; omega
        refine m_try hW hS h1 hkn he hm fun t ht hf => ⟨ht.1, ?_⟩
        simp (disch := omega) only [lt, inb_nI, cl_nI, nI_add, nI_mulN, nI_subN, Nat.add_sub_cancel]
        refine ⟨by omega, ?_⟩
        have fr : Fi (fun b _ => b = 224) t (jh_setI t 224 pre.length (nI (8 * k + e))) := Fi_s (Fi_r _ _) rfl
        have i0 := ih d (by omega) (trn S k e) _ (pre ++ [8 * k + e]) (jh_setI t 224 pre.length (nI (8 * k + e))) (by rw [len_app]; omega) (WS_trn hS hkn he hm hW) (Ms_f hW ht fr (fun b j q1 q2 => by omega) (fun j => by omega)) (mR_app (mR_f hf (fun j => by unfold PT; omega) h3))
        rw [len_app] at i0
        refine WM_I i0 fun y t2 ⟨hy, g1, g2, g3, g4⟩ => ⟨g1.1, ?_⟩
        refine m_untry hW hS g1 hkn he hm fun t3 ht3 hf3 => ⟨ht3.1, ?_⟩
        have fall : Fi PRw σ t3 := Fi_t h2 (Fi_t (Fi_m hf (fun b j q => Or.inl q)) (Fi_t (Fi_m fr (fun b j q => Or.inr (Or.inl q))) (Fi_t g2 (Fi_m hf3 (fun b j q => Or.inl q)))))
        have mr := mR_f hf3 (fun j => by unfold PT; omega) (mR_pre g3)
        have g4 := mU_f hf3 (fun j => by unfold PT; omega) (by unfold PT; omega) (by unfold PT; omega) g4
        rw [List.findSome?_cons] at h5
        have e5 : undoR H d (trnC S (8 * k + e)) (pre ++ [8 * k + e]) = undoR H d (trn S k e) (pre ++ [8 * k + e]) := by
          show undoR H d (trn S ((8 * k + e) / 8) ((8 * k + e) % 8)) _ = _
          rw [hp.1, hp.2]
        rw [e5] at h5
        cases hu : undoR H d (trn S k e) (pre ++ [8 * k + e]) with
        | none =>
          rw [hu] at hy h5
          rw [hy, if_pos (by decide)]
          exact hC _ _ _ ⟨ht3, fall, mr, h5⟩
        | some r =>
          rw [hu] at hy h5 g4
          rw [hy, if_neg (show ¬ bI (some r).isSome = 0 by rw [Option.isSome_some]; decide), ← h5]
          exact ⟨rfl, ht3, fall, mr, g4⟩

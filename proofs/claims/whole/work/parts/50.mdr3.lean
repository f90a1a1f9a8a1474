/-! how many pairs may -/
theorem m_pairsLeft {H : Hou} {S : Mud} {σ : JH} {b : Nat} (hl : Ly σ) (hW : WH H) (hS : WS H S) (hH : mH H σ) (hM : mM H S b σ) (hb : b + 91 ≤ 2484) : q_Md_pairsLeft [.ref 204, .int (nI b)] σ = some (some (.int (nI (opl H S).length)), σ) := by
  have n8 := hW.1
  refine WE_o (w_Md_pairsLeft _ hl ?_)
  refine Lp3_inv (I := fun m a v _ => ∃ k c, k ≤ Hn H ∧ m = Hn H - k ∧ v = nI k ∧ a = nI c ∧ c + ((prK (Hn H) (Hn H - k)).filter (myP H S)).length = (opl H S).length) ?_ (m := Hn H) ⟨0, 0, by omega, by omega, rfl, rfl, Nat.zero_add _⟩
  rintro m a v o ⟨k, c, hk, rfl, rfl, rfl, hi⟩ X hX
  refine WE_i (m_bodies hl hH) ?_
  by_cases d : Hn H ≤ k
  · rw [if_pos (by rw [nI_leN (by omega) (by omega)]; exact d), ← hi, show Hn H - k = 0 by omega]
    rfl
  · rw [if_neg (by rw [nI_leN (by omega) (by omega)]; exact d)]
    rw [lft_0 (by omega)] at hi
    refine Lp2_inv (I := fun m a v => ∃ e c, k < e ∧ e ≤ Hn H ∧ m = Hn H - e ∧ v = nI e ∧ a = nI c ∧ c + (lft H S k e).length = (opl H S).length) ?_ (m := Hn H - (k + 1)) ⟨k + 1, c, by omega, by omega, rfl, nI_add k 1, rfl, hi⟩
    rintro m' a' v' ⟨e, c', hke, he, rfl, rfl, rfl, hi⟩ X' hX'
    refine WE_i (m_bodies hl hH) ?_
    by_cases d : Hn H ≤ e
    · rw [if_pos (by rw [nI_leN (by omega) (by omega)]; exact d)]
      have e1 : e = Hn H := by omega
      rw [e1, lft_end] at hi
      exact hX _ _ _ _ (by omega) ⟨k + 1, c', by omega, rfl, nI_add k 1, rfl, hi⟩
    · rw [if_neg (by rw [nI_leN (by omega) (by omega)]; exact d)]
      refine WE_i (m_mayTurn hl hW hS hH hM hb (by omega) (by omega)) ?_
      cases hm : mayT H S k e
      · rw [if_pos (by decide)]
        rw [lft_no n8 (by omega) hm] at hi
        exact hX' _ _ _ (by omega) ⟨e + 1, c', by omega, by omega, rfl, nI_add e 1, nI_add c' 0, hi⟩
      · rw [if_neg (by decide)]
        rw [lft_yes n8 (by omega) hm, List.length_cons] at hi
        exact hX' _ _ _ (by omega) ⟨e + 1, c' + 1, by omega, by omega, rfl, nI_add e 1, nI_add c' 1, by omega⟩
/-! the i-th pair's turn -/
theorem m_turnsBy {H : Hou} {L : Option Lws} {S : Mud} {σ : JH} {c : Int32} {i p : Nat} (hW : WH H) (hS : WS H S) (hM : Ms H L S c σ) (hi : (opl H S)[i]? = some p) : WM q_Md_turnsBy [.ref 204, .int (nI i)] σ (kI fun x s => x = nI (ctn H L S (p / 8) (p % 8)) ∧ Ms H L (trnC S p) (c + nI (ctn H L S (p / 8) (p % 8))) s ∧ Fi (PT 2376) σ s) := by
  have n8 := hW.1
  have hil : i < 1000 := by
    have h1 := (List.getElem?_eq_some_iff.mp hi).1
    have h2 : (opl H S).length ≤ 64 := by rw [opl_bl n8, bl_len]; exact cntB_le _ _
    omega
  refine w_Md_turnsBy _ hM.1 ?_
  refine Lp3_inv (I := fun m a v _ => ∃ k j, k ≤ Hn H ∧ m = Hn H - k ∧ v = nI k ∧ a = nI j ∧ j < 1000 ∧ ((prK (Hn H) (Hn H - k)).filter (myP H S))[j]? = some p) ?_ (m := Hn H) ⟨0, i, by omega, by omega, rfl, rfl, hil, hi⟩
  rintro m a v o ⟨k, j, hk, rfl, rfl, rfl, hj, hi⟩ X hX
  refine WE_i (m_bodies hM.1 hM.2.1.1) ?_
  by_cases d : Hn H ≤ k
  · rw [show Hn H - k = 0 by omega] at hi
    cases hi
  · rw [if_neg (by rw [nI_leN (by omega) (by omega)]; exact d)]
    rw [lft_0 (by omega)] at hi
    refine Lp2_inv (I := fun m a v => ∃ e j, k < e ∧ e ≤ Hn H ∧ m = Hn H - e ∧ v = nI e ∧ a = nI j ∧ j < 1000 ∧ (lft H S k e)[j]? = some p) ?_ (m := Hn H - (k + 1)) ⟨k + 1, j, by omega, by omega, rfl, nI_add k 1, rfl, hj, hi⟩
    rintro m' a' v' ⟨e, j', hke, he, rfl, rfl, rfl, hj', hi⟩ X' hX'
    refine WE_i (m_bodies hM.1 hM.2.1.1) ?_
    by_cases d : Hn H ≤ e
    · rw [if_pos (by rw [nI_leN (by omega) (by omega)]; exact d)]
      have e1 : e = Hn H := by omega
      rw [e1, lft_end] at hi
      exact hX _ _ _ _ (by omega) ⟨k + 1, j', by omega, rfl, nI_add k 1, rfl, hj', hi⟩
    · rw [if_neg (by rw [nI_leN (by omega) (by omega)]; exact d)]
      refine WE_i (m_mayTurn hM.1 hW hS hM.2.1.1 hM.2.2.1 (by omega) (by omega) (by omega)) ?_
      cases hm : mayT H S k e
      · rw [if_pos (by decide)]
        rw [lft_no n8 (by omega) hm] at hi
        exact hX' _ _ _ (by omega) ⟨e + 1, j', by omega, by omega, rfl, nI_add e 1, rfl, hj', hi⟩
      · rw [if_neg (by decide)]
        rw [lft_yes n8 (by omega) hm] at hi
        have hp : (8 * k + e) / 8 = k ∧ (8 * k + e) % 8 = e := by omega
        cases j' with
        | zero =>
          rw [if_pos (by decide)]
          injection hi with hi
          refine m_try hW hS hM (by omega) (by omega) hm fun t ht hf => ⟨ht.1, ?_, ?_, hf⟩
          · rw [← hi, hp.1, hp.2]
          · rw [← hi]
            show Ms H L (trn S ((8 * k + e) / 8) ((8 * k + e) % 8)) _ t
            rw [hp.1, hp.2]
            exact ht
        | succ j' =>
          rw [if_neg (by rw [nI_eq0 (by omega)]; omega)]
          exact hX' _ _ _ (by omega) ⟨e + 1, j', by omega, by omega, rfl, nI_add e 1, mI_add j', by omega, hi⟩
/-! CHANCE -/
def chn (H : Hou) : Nat → Nat → Mud → Nat
  | 0, sh, S => if wrs H S = 0 then sh else 0
  | d + 1, sh, S => if (opl H S).length = 0 then (if wrs H S = 0 then sh else 0) else ((opl H S).map (fun p => chn H d (sh / (opl H S).length) (trnC S p))).sum
theorem nest5c {H : Hou} {S : Mud} {K : Int32 → JH → Prop} {σ : JH} {a0 : Int32} (hW : WH H) (hS : WS H S) (Inv : List Nat → Int32 → JH → Prop) (B : Int32 → Int32 → Int32 → JH → (Int32 → Option Value → JH → Prop) → Prop)
    (h0 : Inv (opl H S) a0 σ) (hI : ∀ l a s, Inv l a s → mO H S s) (hK : ∀ a s, Inv [] a s → K a s)
    (hB : ∀ k e l a s, k < e → e < Hn H → mayT H S k e = true → Inv ((8 * k + e) :: l) a s → ∀ C : Int32 → Option Value → JH → Prop, (∀ a o s', Inv l a s' → C a o s') → B a (nI k) (nI e) s C) :
    Lp5 (fun (a : Int32) (v : Int32) (_ : Option Value) (o2 : Option Value) (s : JH) X => Ly s ∧ WE q_Md_bodies [.ref 204] s (fun x => (if x ≤ v then K a s else Lp4 (fun (a' : Int32) (v' : Int32) (o : Option Value) (s' : JH) X' => Ly s' ∧ WE q_Md_bodies [.ref 204] s' (fun x' => (if x' ≤ v' then X a' (v + nI 1) (some (.int v')) o s' else WE q_Md_mayTurn [.ref 204, .int (nI 2376), .int v, .int v'] s' (fun y => (if y = 0 then X' a' (v' + nI 1) o s' else B a' v v' s' (fun a'' o s => X' a'' (v' + nI 1) o s)))))) a (v + nI 1) o2 s))) a0 (nI 0) none none σ := by
  have n8 := hW.1
  refine Lp5_inv (I := fun m a v _ _ s => ∃ k, k ≤ Hn H ∧ m = Hn H - k ∧ v = nI k ∧ Inv ((prK (Hn H) (Hn H - k)).filter (myP H S)) a s) ?_ (m := Hn H) ⟨0, by omega, by omega, rfl, h0⟩
  rintro m a v o1 o2 s ⟨k, hk, rfl, rfl, hi⟩ X hX
  obtain ⟨a1, a2, a3⟩ := hI _ _ _ hi
  refine ⟨a1, WE_i (m_bodies a1 a2) ?_⟩
  by_cases c : Hn H ≤ k
  · rw [if_pos (by rw [nI_leN (by omega) (by omega)]; exact c)]
    refine hK a s ?_
    rw [show Hn H - k = 0 by omega] at hi
    exact hi
  · rw [if_neg (by rw [nI_leN (by omega) (by omega)]; exact c)]
    rw [lft_0 (by omega)] at hi
    refine Lp4_inv (I := fun m a v _ s => ∃ e, k < e ∧ e ≤ Hn H ∧ m = Hn H - e ∧ v = nI e ∧ Inv (lft H S k e) a s) ?_ (m := Hn H - (k + 1)) ⟨k + 1, by omega, by omega, rfl, nI_add k 1, hi⟩
    rintro m' a' v' o s' ⟨e, hke, he, rfl, rfl, hi⟩ X' hX'
    obtain ⟨b1, b2, b3⟩ := hI _ _ _ hi
    refine ⟨b1, WE_i (m_bodies b1 b2) ?_⟩
    by_cases d : Hn H ≤ e
    · rw [if_pos (by rw [nI_leN (by omega) (by omega)]; exact d)]
      have e1 : e = Hn H := by omega
      rw [e1, lft_end] at hi
      exact hX _ _ _ _ _ _ (by omega) ⟨k + 1, by omega, rfl, nI_add k 1, hi⟩
    · rw [if_neg (by rw [nI_leN (by omega) (by omega)]; exact d)]
      refine WE_i (m_mayTurn b1 hW hS b2 b3 (by omega) (by omega) (by omega)) ?_
      cases hm : mayT H S k e
      · rw [if_pos (by decide)]
        rw [lft_no n8 (by omega) hm] at hi
        exact hX' _ _ _ _ _ (by omega) ⟨e + 1, by omega, by omega, rfl, nI_add e 1, hi⟩
      · rw [if_neg (by decide)]
        rw [lft_yes n8 (by omega) hm] at hi
        exact hB k e _ a' s' hke (by omega) hm hi _ (fun a'' o s'' h => hX' _ _ _ _ _ (by omega) ⟨e + 1, by omega, by omega, rfl, nI_add e 1, h⟩)
theorem nI_divN {a b : Nat} (ha : a < 2147483648) (hb : b < 2147483648) : nI a / nI b = nI (a / b) := by
  rw [← Int32.toInt_inj, Int32.toInt_div, nI_toInt (by omega), nI_toInt (by omega), nI_toInt (by have := Nat.div_le_self a b; omega)]
  rw [Int.tdiv_eq_ediv_of_nonneg (by omega), ← Int.natCast_ediv]
  rw [Int.bmod_eq_of_le (by have := Nat.zero_le (a / b); omega) (by have := Nat.div_le_self a b; omega)]
set_option maxHeartbeats 1000000 in
theorem m_chanceFrom {H : Hou} {L : Option Lws} (hW : WH H) : ∀ (m d : Nat), d < m → ∀ (S : Mud) (x : Int32) (sh : Nat) (σ : JH), d ≤ 3 → sh ≤ 1000000 → WS H S → Ms H L S x σ → WM (g_Md_chanceFrom m 0) [.ref 204, .int (nI d), .int (nI sh)] σ (kI fun y s => y = nI (chn H d sh S) ∧ Ms H L S x s ∧ Fi (PT 2376) σ s) := by
  intro m
  induction m with
  | zero => intro d h; omega
  | succ m ih =>
    intro d hd S x sh σ hd3 hsh hS hM
    have n8 := hW.1
    refine w_Md_chanceFrom (g_Md_chanceFrom m) _ _ hM.1 ?_
    have hw := wrs_le S hW
    simp only [JJ1]
    have leaf : ∀ r, r = (if wrs H S = 0 then sh else 0) → WE q_Md_wrongs [.ref 204, .int (nI 2376)] σ (fun x3 => (if x3 = 0 then (nI sh = nI r ∧ Ms H L S x σ ∧ Fi (PT 2376) σ σ) else (nI 0 = nI r ∧ Ms H L S x σ ∧ Fi (PT 2376) σ σ))) := by
      intro r hr
      refine WE_i (m_wrongs hM.1 hW hS hM.2.1.1 hM.2.2.1 (by omega)) ?_
      by_cases c : wrs H S = 0
      · rw [if_pos (by rw [nI_eq0 (by omega)]; exact c), hr, if_pos c]; exact ⟨rfl, hM, Fi_r _ _⟩
      · rw [if_neg (by rw [nI_eq0 (by omega)]; exact c), hr, if_neg c]; exact ⟨rfl, hM, Fi_r _ _⟩
    cases d with
    | zero =>
      rw [if_pos (by decide), if_pos (by decide)]
      exact leaf _ rfl
    | succ d =>
      rw [if_neg (by rw [nI_eq0 (by omega)]; omega)]
      refine WE_i (m_pairsLeft hM.1 hW hS hM.2.1.1 hM.2.2.1 (by omega)) ?_
      have hlen : (opl H S).length ≤ 64 := by rw [opl_bl n8, bl_len]; exact cntB_le _ _
      by_cases c : (opl H S).length = 0
      · rw [if_pos (by rw [nI_eq0 (by omega)]; exact c)]
        refine leaf _ ?_
        show (if _ then _ else _) = _
        rw [if_pos c]
      · rw [if_neg (by rw [nI_eq0 (by omega)]; exact c)]
        have e : chn H (d + 1) sh S = ((opl H S).map (fun p => chn H d (sh / (opl H S).length) (trnC S p))).sum := by
          show (if _ then _ else _) = _
          rw [if_neg c]
        rw [e]
        refine nest5c (K := fun a s => a = nI ((opl H S).map (fun p => chn H d (sh / (opl H S).length) (trnC S p))).sum ∧ Ms H L S x s ∧ Fi (PT 2376) σ s) hW hS (fun l a t => Ms H L S x t ∧ Fi (PT 2376) σ t ∧ ∃ r, a = nI r ∧ r + (l.map (fun p => chn H d (sh / (opl H S).length) (trnC S p))).sum = ((opl H S).map (fun p => chn H d (sh / (opl H S).length) (trnC S p))).sum) (fun a v v' s C => WM q_Md_turns [.ref 204, .int (nI 2376), .int v, .int v'] s (kI fun x18 s19 => Ly s19 ∧ ¬ nI (opl H S).length = 0 ∧ WM (g_Md_chanceFrom m 0) [.ref 204, .int (nI (d + 1) - nI 1), .int (nI sh / nI (opl H S).length)] s19 (kI fun x20 s21 => Ly s21 ∧ WM q_Md_unturns [.ref 204, .int (nI 2376), .int v, .int v', .int x18] s21 (kV fun s22 => Ly s22 ∧ C (a + x20) (some (.int x18)) s22)))) ⟨hM, Fi_r _ _, 0, rfl, Nat.zero_add _⟩ (fun l a s h => Ms_O h.1) (fun a s ⟨h1, h2, r, h3, h4⟩ => ⟨by rw [h3, ← h4]; rfl, h1, h2⟩) ?_
        rintro k e l a s hke he hm ⟨h1, h2, r, rfl, h5⟩ C hC
        have hkn : k < Hn H := by omega
        have hp : (8 * k + e) / 8 = k ∧ (8 * k + e) % 8 = e := by omega
        refine m_try hW hS h1 hkn he hm fun t ht hf => ⟨ht.1, by rw [nI_eq0 (by omega)]; exact c, ?_⟩
        rw [nI_subN (by omega), Nat.add_sub_cancel, nI_divN (by omega) (by omega)]
        refine WM_I (ih d (by omega) (trn S k e) _ (sh / (opl H S).length) t (by omega) (by have := Nat.div_le_self sh (opl H S).length; omega) (WS_trn hS hkn he hm hW) ht) fun y t2 ⟨hy, g1, g2⟩ => ⟨g1.1, ?_⟩
        refine m_untry hW hS g1 hkn he hm fun t3 ht3 hf3 => ⟨ht3.1, ?_⟩
        refine hC _ _ _ ⟨ht3, Fi_t h2 (Fi_t hf (Fi_t g2 hf3)), r + chn H d (sh / (opl H S).length) (trn S k e), by rw [hy, nI_add], ?_⟩
        rw [List.map_cons, List.sum_cons] at h5
        have e5 : chn H d (sh / (opl H S).length) (trnC S (8 * k + e)) = chn H d (sh / (opl H S).length) (trn S k e) := by
          show chn H d _ (trn S ((8 * k + e) / 8) ((8 * k + e) % 8)) = _
          rw [hp.1, hp.2]
        rw [e5] at h5
        omega

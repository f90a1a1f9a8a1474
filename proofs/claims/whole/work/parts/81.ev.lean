/-! ===== evenings that are drawn ===== -/
section EV
variable {Z : Ste} {x y w : Int32} {h pl : Nat} {s t σ : JH} {H : Hou} {L : Option Lws} {S : Mud}
theorem lN_big {a : Nat} (ha : a < 2 ^ 63) : (lN a).toInt = (a : Int) := Int64.toInt_ofNat_of_lt ha
theorem lN_divN {a b : Nat} (ha : a < 2 ^ 63) (hb : b < 2 ^ 63) : lN a / lN b = lN (a / b) := by
  have h1 := Nat.div_le_self a b
  rw [← Int64.toInt_inj, Int64.toInt_div, lN_big ha, lN_big hb, lN_big (by omega)]
  rw [Int.tdiv_eq_ediv_of_nonneg (by omega), ← Int.natCast_ediv]
  rw [Int.bmod_eq_of_le (by have := Nat.zero_le (a / b); omega) (by omega)]
theorem lN_modN {a b : Nat} (ha : a < 2 ^ 63) (hb : b < 2 ^ 63) : lN a - lN a / lN b * lN b = lN (a % b) := by
  rw [lN_divN ha hb, lN_mul, lN_sub (Nat.div_mul_le_self a b)]
  congr 1
  have := Nat.div_add_mod a b
  rw [Nat.mul_comm] at this
  omega
def nxr (r : Nat) : Nat := (r * 1103515245 + 12345) % 2147483648
theorem nxr_lt (r : Nat) : nxr r < 2147483648 := Nat.mod_lt _ (by omega)
theorem draw_1 {r : Nat} (hr : r < 2147483648) : (((lN r) * 1103515245) + 12345) - (((lN r) * 1103515245) + 12345) / 2147483648 * 2147483648 = lN (nxr r) := by
  rw [show (1103515245 : Int64) = lN 1103515245 from rfl, show (12345 : Int64) = lN 12345 from rfl, show (2147483648 : Int64) = lN 2147483648 from rfl, lN_mul, lN_add, lN_modN (by omega) (by omega)]
  rfl
theorem draw_2 {r n : Nat} (hr : r < 2147483648) (hn : n < 2147483648) : ((lN r / 65536) - (lN r / 65536) / (nI n).toInt64 * (nI n).toInt64).toInt32 = nI (r / 65536 % n) := by
  have := Nat.div_le_self r 65536
  rw [show (65536 : Int64) = lN 65536 from rfl, nI_l (by omega), lN_divN (by omega) (by omega), lN_modN (by omega) (by omega), lN_i]
theorem draw_3 {n : Nat} (hn : n < 2147483648) (h0 : n ≠ 0) : ¬ (nI n).toInt64 = 0 := by
  rw [nI_l (by omega), show (0 : Int64) = lN 0 from rfl, lN_inj hn (by omega)]
  exact h0
abbrev Evs : Type := Mud × Nat × Int32
def evP (H : Hou) (e : Evs) : Nat := (opl H e.1)[nxr e.2.1 / 65536 % (opl H e.1).length]?.getD 0
def evS (H : Hou) (L : Option Lws) (e : Evs) : Evs := if opl H e.1 = [] then e else (trnC e.1 (evP H e), nxr e.2.1, e.2.2 + nI (ctn H L e.1 (evP H e / 8) (evP H e % 8)))
def evT (H : Hou) (L : Option Lws) : Nat → Evs → Evs
  | 0, e => e
  | m + 1, e => evT H L m (evS H L e)
theorem evP_get {e : Evs} (h : opl H e.1 ≠ []) : (opl H e.1)[nxr e.2.1 / 65536 % (opl H e.1).length]? = some (evP H e) := by
  have hl : 0 < (opl H e.1).length := List.length_pos_iff.mpr h
  have hi := Nat.mod_lt (nxr e.2.1 / 65536) hl
  unfold evP
  rw [List.getElem?_eq_getElem hi]
  rfl
theorem evS_WS {e : Evs} (hW : WH H) (hS : WS H e.1) : WS H (evS H L e).1 := by
  unfold evS
  split
  · exact hS
  · rename_i h
    exact WS_trnC hW hS (List.mem_of_getElem? (evP_get h))
theorem evS_nil {e : Evs} (h : opl H e.1 = []) : evS H L e = e := if_pos h
theorem evT_nil {e : Evs} (h : opl H e.1 = []) : ∀ m, evT H L m e = e := by
  intro m
  induction m with
  | zero => rfl
  | succ m ih => show evT H L m (evS H L e) = e; rw [evS_nil h]; exact ih
theorem evS_r {e : Evs} (hr : e.2.1 < 2147483648) : (evS H L e).2.1 < 2147483648 := by
  unfold evS
  split
  · exact hr
  · exact nxr_lt _
theorem WM_J {f : JF} {vs : List Value} {σ : JH} {F F' : Int64 → JH → Prop} (h : WM f vs σ (kJ F)) (hk : ∀ x s, F x s → F' x s) : WM f vs σ (kJ F') := WM_mono h (fun v s ⟨x, q1, q2⟩ => ⟨x, q1, hk x s q2⟩)
set_option maxHeartbeats 1000000 in
theorem c_drawn {e : Evs} {c0 : Int32} (hW : WH H) (hS : WS H e.1) (C : Cs H e.1 118 h σ) (hLw : cL (lwl L) (h + 8) σ) (hr : e.2.1 < 2147483648) (hc : σ.2.1 118 9 = c0 + e.2.2) : WM q_Ct_playDrawnTurns [.ref 64, .long (lN e.2.1)] σ (kJ fun x s => x = lN (evT H L 6 e).2.1 ∧ Cs H (evT H L 6 e).1 118 h s ∧ WS H (evT H L 6 e).1 ∧ s.2.1 118 9 = c0 + (evT H L 6 e).2.2 ∧ (evT H L 6 e).2.1 < 2147483648 ∧ Fi (PPl 118 h) σ s) := by
  have n8 := hW.1
  have hh := ho_is C.2.1
  refine w_Ct_playDrawnTurns _ C.1 ?_
  refine Lp7_inv (I := fun m v1 v2 _ _ _ _ s7 => ∃ i e', i ≤ 6 ∧ m = 6 - i ∧ v2 = nI i ∧ v1 = lN e'.2.1 ∧ Cs H e'.1 118 h s7 ∧ WS H e'.1 ∧ s7.2.1 118 9 = c0 + e'.2.2 ∧ e'.2.1 < 2147483648 ∧ cL (lwl L) (h + 8) s7 ∧ Fi (PPl 118 h) σ s7 ∧ evT H L (6 - i) e' = evT H L 6 e) ?_ (m := 6) ⟨0, e, by omega, by omega, rfl, rfl, C, hS, hc, hr, hLw, Fi_r _ _, rfl⟩
  rintro m v1 v2 o3 o4 o5 o6 s7 ⟨i, e', hi, rfl, rfl, rfl, C7, S7, c7, r7, L7, f7, ht⟩ X hX
  refine ⟨C7.1, ?_⟩
  by_cases c : 6 ≤ i
  · rw [if_pos (by rw [nI_leN (by omega) (by omega)]; exact c)]
    rw [show 6 - i = 0 by omega] at ht
    have ht : e' = evT H L 6 e := ht
    rw [← ht]
    exact ⟨rfl, C7, S7, c7, r7, f7⟩
  · rw [if_neg (by rw [nI_leN (by omega) (by omega)]; exact c)]
    obtain ⟨x0, x1, x2⟩ := c_openX C7.1 mu_118 hW S7 C7.2.2.1 C7.2.2.2
    refine WJ_i x1 (WE_i (isX_bc C7.1 x2) ?_)
    have h28 := opl_28 e'.1 n8
    by_cases ho : opl H e'.1 = []
    · rw [if_pos (by rw [ho]; rfl)]
      rw [evT_nil ho] at ht
      rw [← ht]
      exact ⟨rfl, C7, S7, c7, r7, f7⟩
    · have hl : 0 < (opl H e'.1).length := List.length_pos_iff.mpr ho
      have hp := evP_get ho
      have hlt := Nat.mod_lt (nxr e'.2.1 / 65536) hl
      have hn := nxr_lt e'.2.1
      rw [if_neg (by rw [nI_eq0 (by omega)]; omega)]
      refine ⟨draw_3 (by omega) (by omega), ?_⟩
      rw [draw_1 r7, draw_2 hn (by omega)]
      generalize hid : nxr e'.2.1 / 65536 % (opl H e'.1).length = id0 at hp hlt
      refine Lp2_inv (I := fun m v11 v12 => ∃ i, i ≤ id0 ∧ m = id0 - i ∧ v12 = nI i ∧ isX v11 ((opl H e'.1).drop i)) ?_ (m := id0) ⟨0, by omega, by omega, rfl, x2⟩
      rintro m v11 v12 ⟨i', hi', rfl, rfl, hx⟩ X13 hX13
      by_cases cc : id0 ≤ i'
      · rw [if_pos (by rw [nI_leN (by omega) (by omega)]; exact cc)]
        rw [show i' = id0 by omega, drop_get hp] at hx
        obtain ⟨p1, p2, p3⟩ := isX_cons hx
        obtain ⟨m1, m2, m3, m4, m5⟩ := opl_mem n8 (List.mem_of_getElem? hp)
        refine WE_i (p3 s7 C7.1) (WE_i (c_lesser C7.1 p1) (WE_i (c_greater C7.1 p1) ?_))
        refine WM_V (c_playTurn mu_118 hW S7 C7 L7 m2 m3 (by omega)) fun s17 ⟨C8, f8, L8, c8⟩ => ⟨C8.1, ?_⟩
        have he : evS H L e' = (trnC e'.1 (evP H e'), nxr e'.2.1, e'.2.2 + nI (ctn H L e'.1 (evP H e' / 8) (evP H e' % 8))) := if_neg ho
        refine hX (6 - (i + 1)) _ _ _ _ _ _ _ (by omega) ⟨i + 1, evS H L e', by omega, rfl, nI_add i 1, by rw [he], by rw [he]; exact C8, evS_WS hW S7, ?_, evS_r r7, L8, Fi_t f7 f8, ?_⟩
        · rw [c8, c7, he, Int32.add_assoc]
        · rw [← ht, show 6 - i = (6 - (i + 1)) + 1 by omega]; rfl
      · rw [if_neg (by rw [nI_leN (by omega) (by omega)]; exact cc)]
        have hg : (opl H e'.1)[i']? = some ((opl H e'.1)[i']'(by omega)) := List.getElem?_eq_getElem (by omega)
        rw [drop_get hg] at hx
        exact hX13 _ _ _ (by omega) ⟨i' + 1, by omega, rfl, nI_add i' 1, (isX_cons hx).2.1⟩
end EV

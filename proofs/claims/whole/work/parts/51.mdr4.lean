/-! copies of states -/
def PC (to many b j : Nat) : Prop := b = 218 ∧ to ≤ j ∧ j < to + many
theorem m_copies {σ : JH} {fr to many : Nat} (hl : Ly σ) (h1 : fr + many ≤ 2484) (h2 : to + many ≤ 2484) (h3 : fr + many ≤ to ∨ to + many ≤ fr) : WM q_Md_copies [.ref 204, .int (nI fr), .int (nI to), .int (nI many)] σ (kV fun s => Ly s ∧ Fi (PC to many) σ s ∧ ∀ j, j < many → s.2.1 218 (to + j) = σ.2.1 218 (fr + j)) := by
  refine w_Md_copies _ _ _ hl ?_
  refine Lp2_inv (I := fun m v s => ∃ i, i ≤ many ∧ m = many - i ∧ v = nI i ∧ Fi (PC to many) σ s ∧ ∀ j, j < i → s.2.1 218 (to + j) = σ.2.1 218 (fr + j)) ?_ (m := many) ⟨0, by omega, by omega, rfl, Fi_r _ _, fun j hj => by omega⟩
  rintro m v s ⟨i, hi, rfl, rfl, f, h⟩ X hX
  refine ⟨Fi_ly f hl, ?_⟩
  by_cases c : many ≤ i
  · rw [if_pos (by rw [nI_leN (by omega) (by omega)]; exact c)]
    exact ⟨Fi_ly f hl, f, fun j hj => h j (by omega)⟩
  · rw [if_neg (by rw [nI_leN (by omega) (by omega)]; exact c)]
    simp (disch := omega) only [lt, nI_add, inb_nI, cl_nI]
    refine ⟨by omega, by omega, hX _ _ _ (by omega) ⟨i + 1, by omega, rfl, rfl, Fi_s f (by unfold PC; omega), fun j hj => ?_⟩⟩
    rw [rI]
    by_cases d : j = i
    · rw [if_pos ⟨rfl, by omega⟩, d, f.2.2 218 (fr + i) (by unfold PC; omega)]
    · rw [if_neg (by omega)]; exact h j (by omega)
theorem mM_copy {H : Hou} {S : Mud} {fr to : Nat} {σ s : JH} (n8 : Hn H ≤ 8) (h : ∀ j, j < 91 → s.2.1 218 (to + j) = σ.2.1 218 (fr + j)) (q : mM H S fr σ) : mM H S to s := by
  obtain ⟨q1, q2, q3, q4, q5, q6⟩ := q
  refine ⟨(h 0 (by omega)).trans q1, (h 2 (by omega)).trans q2, fun k hk => ?_, fun k hk => ?_, fun k hk => ?_, fun k hk e he => ?_⟩
  · rw [Nat.add_assoc, h (3 + k) (by omega), ← Nat.add_assoc]; exact q3 k hk
  · rw [Nat.add_assoc, h (11 + k) (by omega), ← Nat.add_assoc]; exact q4 k hk
  · rw [Nat.add_assoc, h (19 + k) (by omega), ← Nat.add_assoc]; exact q5 k hk
  · rw [Nat.add_assoc, Nat.add_assoc, h (27 + (8 * k + e)) (by omega), ← Nat.add_assoc, ← Nat.add_assoc]; exact q6 k hk e he
/-! BEST -/
theorem mswp_2 (S : Mud) (k e : Nat) : mswp (mswp S k e) k e = S := by
  show ((swp (swp (mi S) k e) k e, sa S, th S, me S, tu S, pa S) : Mud) = S
  rw [swp_swp]
def bstS (H : Hou) (S : Mud) (b : Bst) (p : Nat) : Bst := match b with
  | none => some (wrs H (trnC S p), [p])
  | some (w, r) => if wrs H (trnC S p) < w then some (wrs H (trnC S p), [p]) else some (w, r)
def bstR (H : Hou) (S : Mud) : Bst := (opl H S).foldl (bstS H S) none
def isV (b : Bst) (v w : Int32) : Prop := match b with
  | none => v = mI 1 ∧ w = nI 0
  | some (q, r) => ∃ p, r = [p] ∧ v = nI p ∧ w = nI q ∧ p < 64 ∧ q ≤ 8
def bstV (b : Bst) : Int32 := match b with
  | none => mI 1
  | some (_, r) => nI (r.headD 0)
set_option maxHeartbeats 1000000 in
theorem m_bestLoop {H : Hou} {L : Option Lws} {S : Mud} {c : Int32} {σ : JH} (hW : WH H) (hS : WS H S) (hM : Ms H L S c σ) {K : Int32 → JH → Prop} (hK : ∀ s, Ms H L S c s → Fi (PS 2376) σ s → K (bstV (bstR H S)) s) :
    Lp7 (fun (v3 : Int32) (v4 : Int32) (v5 : Int32) (_ : Option Value) (o7 : Option Value) (o8 : Option Value) (s9 : JH) X10 => Ly s9 ∧ WE q_Md_bodies [.ref 204] s9 (fun x11 => (if x11 ≤ v5 then K v3 s9 else Lp6 (fun (v12 : Int32) (v13 : Int32) (v14 : Int32) (o15 : Option Value) (o16 : Option Value) (s17 : JH) X18 => Ly s17 ∧ WE q_Md_bodies [.ref 204] s17 (fun x19 => (if x19 ≤ v14 then X10 v12 v13 (v5 + nI 1) (some (.int v14)) o15 o16 s17 else WE q_Md_mayTurn [.ref 204, .int (nI 2376), .int v5, .int v14] s17 (fun x20 => (if x20 = 0 then X18 v12 v13 (v14 + nI 1) o15 o16 s17 else WM q_Md_swaps [.ref 204, .int (nI 2376), .int v5, .int v14] s17 (kV fun s21 => Ly s21 ∧ WE q_Md_wrongs [.ref 204, .int (nI 2376)] s21 (fun x22 => WM q_Md_swaps [.ref 204, .int (nI 2376), .int v5, .int v14] s21 (kV fun s23 => Ly s23 ∧ (if v12 < 0 then X18 ((nI 8 * v5) + v14) x22 (v14 + nI 1) (some (.int x22)) (some (.int (nI 1))) s23 else (if v13 ≤ x22 then X18 v12 v13 (v14 + nI 1) (some (.int x22)) (some (.int (nI 0))) s23 else X18 ((nI 8 * v5) + v14) x22 (v14 + nI 1) (some (.int x22)) (some (.int (nI 1))) s23)))))))))) v3 v4 (v5 + nI 1) o7 o8 s9))) (mI 1) (nI 0) (nI 0) none none none σ := by
  have n8 := hW.1
  have hI : ∀ s, Ms H L S c s → mO H S s := fun s => Ms_O
  refine Lp7_inv (I := fun m a w v _ _ _ s => ∃ k b, k ≤ Hn H ∧ m = Hn H - k ∧ v = nI k ∧ isV b a w ∧ Ms H L S c s ∧ Fi (PS 2376) σ s ∧ ((prK (Hn H) (Hn H - k)).filter (myP H S)).foldl (bstS H S) b = bstR H S) ?_ (m := Hn H) ⟨0, none, by omega, by omega, rfl, ⟨rfl, rfl⟩, hM, Fi_r _ _, rfl⟩
  rintro m a w v o1 o2 o3 s ⟨k, b, hk, rfl, rfl, hb, hMs, hf, hi⟩ X hX
  obtain ⟨a1, a2, a3⟩ := hI _ hMs
  refine ⟨a1, WE_i (m_bodies a1 a2) ?_⟩
  by_cases c0 : Hn H ≤ k
  · rw [if_pos (by rw [nI_leN (by omega) (by omega)]; exact c0)]
    rw [show Hn H - k = 0 by omega] at hi
    have hi : b = bstR H S := hi
    have e : a = bstV (bstR H S) := by
      rw [← hi]
      cases b with
      | none => exact hb.1
      | some q => obtain ⟨p, h1, h2, _⟩ := hb; rw [h2]; show nI p = nI (q.2.headD 0); rw [h1]; rfl
    rw [e]
    exact hK s hMs hf
  · rw [if_neg (by rw [nI_leN (by omega) (by omega)]; exact c0)]
    rw [lft_0 (by omega)] at hi
    refine Lp6_inv (I := fun m a w v _ _ s => ∃ e b, k < e ∧ e ≤ Hn H ∧ m = Hn H - e ∧ v = nI e ∧ isV b a w ∧ Ms H L S c s ∧ Fi (PS 2376) σ s ∧ (lft H S k e).foldl (bstS H S) b = bstR H S) ?_ (m := Hn H - (k + 1)) ⟨k + 1, b, by omega, by omega, rfl, nI_add k 1, hb, hMs, hf, hi⟩
    rintro m' a' w' v' o o' s' ⟨e, b', hke, he, rfl, rfl, hb', hMs', hf', hi⟩ X' hX'
    obtain ⟨b1, b2, b3⟩ := hI _ hMs'
    refine ⟨b1, WE_i (m_bodies b1 b2) ?_⟩
    by_cases d : Hn H ≤ e
    · rw [if_pos (by rw [nI_leN (by omega) (by omega)]; exact d)]
      have e1 : e = Hn H := by omega
      rw [e1, lft_end] at hi
      exact hX _ _ _ _ _ _ _ _ (by omega) ⟨k + 1, b', by omega, rfl, nI_add k 1, hb', hMs', hf', hi⟩
    · rw [if_neg (by rw [nI_leN (by omega) (by omega)]; exact d)]
      have hkn : k < Hn H := by omega
      have hen : e < Hn H := by omega
      refine WE_i (m_mayTurn b1 hW hS b2 b3 (by omega) hkn hen) ?_
      cases hm : mayT H S k e
      · rw [if_pos (by decide)]
        rw [lft_no n8 (by omega) hm] at hi
        exact hX' _ _ _ _ _ _ _ (by omega) ⟨e + 1, b', by omega, by omega, rfl, nI_add e 1, hb', hMs', hf', hi⟩
      · rw [if_neg (by decide)]
        rw [lft_yes n8 (by omega) hm, List.foldl_cons] at hi
        have hp : (8 * k + e) / 8 = k ∧ (8 * k + e) % 8 = e := by omega
        obtain ⟨t1, t2, -⟩ := may_th hm
        refine WM_V (m_swaps b1 n8 b3 (by omega) hkn hen) fun s1 ⟨l1, f1, M1⟩ => ⟨l1, ?_⟩
        have H1 : mHL H L s1 := mHL_f f1 (fun b j h1 h2 => by unfold PS; omega) hMs'.2.1
        refine WE_i (m_wrongs l1 hW (WS_swp hS hkn hen t1 t2) H1.1 M1 (by omega)) ?_
        refine WM_V (m_swaps l1 n8 M1 (by omega) hkn hen) fun s2 ⟨l2, f2, M2⟩ => ⟨l2, ?_⟩
        rw [mswp_2] at M2
        have hM2 : Ms H L S c s2 := ⟨l2, mHL_f f2 (fun b j h1 h2 => by unfold PS; omega) H1, M2, by
          rw [f2.2.2 218 2377 (by unfold PS; omega), f1.2.2 218 2377 (by unfold PS; omega)]
          exact hMs'.2.2.2⟩
        have hf2 : Fi (PS 2376) σ s2 := Fi_t hf' (Fi_t f1 f2)
        have ew : wrs H (trnC S (8 * k + e)) = wrs H (mswp S k e) := by
          show wrs H (trn S ((8 * k + e) / 8) ((8 * k + e) % 8)) = _
          rw [hp.1, hp.2]
          rfl
        have hw8 := wrs_le (mswp S k e) hW
        have yes : ∀ o o', bstS H S b' (8 * k + e) = some (wrs H (mswp S k e), [8 * k + e]) → X' (nI 8 * nI k + nI e) (nI (wrs H (mswp S k e))) (nI e + nI 1) o o' s2 := fun o o' q => by
          rw [q] at hi
          exact hX' _ _ _ _ _ _ _ (by omega) ⟨e + 1, some (wrs H (mswp S k e), [8 * k + e]), by omega, by omega, rfl, nI_add e 1, ⟨8 * k + e, rfl, by rw [nI_mulN, nI_add], rfl, by omega, hw8⟩, hM2, hf2, hi⟩
        cases b' with
        | none =>
          rw [hb'.1, if_pos (by decide)]
          exact yes _ _ (by show some (wrs H (trnC S (8 * k + e)), _) = _; rw [ew])
        | some q =>
          obtain ⟨w0, r0⟩ := q
          obtain ⟨p, hr, hv, hw, hp64, hw0⟩ := hb'
          rw [hv, hw, if_neg (by rw [nI_lt0 (by omega)]; exact id)]
          by_cases c1 : w0 ≤ wrs H (mswp S k e)
          · rw [if_pos (by rw [nI_leN (by omega) (by omega)]; exact c1)]
            have e5 : bstS H S (some (w0, r0)) (8 * k + e) = some (w0, r0) := by show (if _ then _ else _) = _; rw [if_neg (by rw [ew]; omega)]
            rw [e5] at hi
            exact hX' _ _ _ _ _ _ _ (by omega) ⟨e + 1, some (w0, r0), by omega, by omega, rfl, nI_add e 1, ⟨p, hr, rfl, rfl, hp64, hw0⟩, hM2, hf2, hi⟩
          · rw [if_neg (by rw [nI_leN (by omega) (by omega)]; exact c1)]
            exact yes _ _ (by show (if _ then _ else _) = _; rw [if_pos (by rw [ew]; omega), ew])
/-! ROWS -/
abbrev Sen : Type := List (Nat × Nat)
def mSn (H : Hou) (sn : Sen) (s : JH) : Prop := s.2.1 218 91 = nI sn.length ∧ sn.length ≤ 8 ∧ ∀ i q, sn[i]? = some q → s.2.1 218 (92 + 2 * i) = nI q.1 ∧ s.2.1 218 (92 + 2 * i + 1) = nI q.2 ∧ q.1 < Hn H ∧ q.2 < Hn H
def fits (sn : Sen) (S : Mud) : Bool := sn.all (fun q => decide (mi S q.1 = q.2))
theorem m_isAsSeen {H : Hou} {S : Mud} {sn : Sen} {σ : JH} (hl : Ly σ) (hW : WH H) (hS : WS H S) (hM : mM H S 2376 σ) (hN : mSn H sn σ) : q_Md_isAsSeen [.ref 204] σ = some (some (.int (bI (fits sn S))), σ) := by
  have n8 := hW.1
  obtain ⟨h1, h2, h3⟩ := hN
  refine WE_o (w_Md_isAsSeen hl ?_)
  rw [h1]
  refine Lp2_inv (I := fun m v1 v2 => ∃ i b, i ≤ sn.length ∧ m = sn.length - i ∧ v2 = nI i ∧ v1 = bI b ∧ (b && (sn.drop i).all (fun q => decide (mi S q.1 = q.2))) = fits sn S) ?_ (m := sn.length) ⟨0, true, by omega, by omega, rfl, rfl, rfl⟩
  rintro m v1 v2 ⟨i, b, hi, rfl, rfl, rfl, hb⟩ X hX
  by_cases c : sn.length ≤ i
  · rw [if_pos (by rw [nI_leN (by omega) (by omega)]; exact c)]
    refine ⟨bI_bit b, ?_⟩
    rw [List.drop_eq_nil_of_le c, List.all_nil, Bool.and_true] at hb
    rw [hb]
  · rw [if_neg (by rw [nI_leN (by omega) (by omega)]; exact c)]
    have hg : sn[i]? = some sn[i] := List.getElem?_eq_getElem (by omega)
    obtain ⟨g1, g2, g3, g4⟩ := h3 i _ hg
    rw [List.drop_eq_getElem_cons (by omega), List.all_cons] at hb
    cases b with
    | false =>
      rw [if_pos (by decide)]
      exact hX _ _ _ (by omega) ⟨i + 1, false, by omega, rfl, nI_add i 1, rfl, hb⟩
    | true =>
      rw [if_neg (by decide)]
      have b1 := hS.1.1 _ g3
      simp (disch := omega) only [nI_mulN, nI_add, inb_nI, cl_nI, g1, g2, nI_eqN]
      have e : σ.2.1 218 (2379 + sn[i].1) = nI (mi S sn[i].1) := hM.2.2.1 _ g3
      rw [e]
      refine ⟨by omega, by omega, by omega, ?_⟩
      by_cases d : mi S sn[i].1 = sn[i].2
      · rw [if_pos (by rw [d])]
        rw [decide_eq_true d] at hb
        exact hX _ _ _ (by omega) ⟨i + 1, true, by omega, rfl, rfl, rfl, hb⟩
      · rw [if_neg (by rw [nI_eqN (by omega) (by omega)]; exact d)]
        rw [decide_eq_false d] at hb
        exact hX _ _ _ (by omega) ⟨i + 1, false, by omega, rfl, rfl, rfl, hb⟩
abbrev Rst : Type := Nat × (Nat → Nat) × (Nat → Nat)
def radd (H : Hou) (S : Mud) (pre : List Nat) (st : Rst) : Rst := (st.1 + 1, (fun p => st.2.1 p + pre.count p), (fun q => st.2.2 q + if q / 8 < Hn H ∧ mi S (q / 8) = q % 8 then 1 else 0))
def rowsR (H : Hou) (sn : Sen) : Nat → Mud → List Nat → Rst → Rst
  | 0, S, pre, st => if fits sn S = true then radd H S pre st else st
  | d + 1, S, pre, st => (opl H S).foldl (fun st p => rowsR H sn d (trnC S p) (pre ++ [p]) st) st
def mRo (st : Rst) (s : JH) : Prop := s.2.1 204 41 = nI st.1 ∧ (∀ p, p < 64 → s.2.1 227 p = nI (st.2.1 p)) ∧ (∀ q, q < 64 → s.2.1 228 q = nI (st.2.2 q))
def PRo (b j : Nat) : Prop := PT 2376 b j ∨ b = 224 ∨ b = 227 ∨ b = 228 ∨ (b = 204 ∧ j = 41)
theorem mSn_f {H : Hou} {sn : Sen} {s t : JH} {P : Nat → Nat → Prop} (f : Fi P s t) (hP : ∀ j, 91 ≤ j → j < 108 → ¬ P 218 j) (h : mSn H sn s) : mSn H sn t := by
  obtain ⟨h1, h2, h3⟩ := h
  refine ⟨(f.2.2 _ _ (hP _ (by omega) (by omega))).trans h1, h2, fun i q hq => ?_⟩
  have hi := (List.getElem?_eq_some_iff.mp hq).1
  obtain ⟨a, b, c⟩ := h3 i q hq
  exact ⟨(f.2.2 _ _ (hP _ (by omega) (by omega))).trans a, (f.2.2 _ _ (hP _ (by omega) (by omega))).trans b, c⟩
set_option maxHeartbeats 1000000 in
theorem m_rowLeaf {H : Hou} {L : Option Lws} {S : Mud} {sn : Sen} {x : Int32} {pre : List Nat} {st : Rst} {σ : JH} (hW : WH H) (hS : WS H S) (hlen : pre.length ≤ 5) (h64 : ∀ p ∈ pre, p < 64) (hM : Ms H L S x σ) (hN : mSn H sn σ) (hR : mR pre σ) (hT : mRo st σ) {K : JH → Prop} (hK : ∀ s, Ms H L S x s → Fi PRo σ s → mR pre s → mRo (radd H S pre st) s → K s) :
    lt (jh_setI σ 204 41 ((σ.2.1 204 41) + nI 1)) (fun s2 => Lp2 (fun (v3 : Int32) (s4 : JH) X5 => Ly s4 ∧ (if nI pre.length ≤ v3 then Lp2 (fun (v6 : Int32) (s7 : JH) X8 => Ly s7 ∧ WE q_Md_bodies [.ref 204] s7 (fun x9 => (if x9 ≤ v6 then K s7 else inb (nI 2379 + v6) 2484 ∧ inb ((nI 8 * v6) + (s7.2.1 218 (cl (nI 2379 + v6)))) 64 ∧ inb ((nI 8 * v6) + (s7.2.1 218 (cl (nI 2379 + v6)))) 64 ∧ lt (jh_setI s7 228 (cl ((nI 8 * v6) + (s7.2.1 218 (cl (nI 2379 + v6))))) ((s7.2.1 228 (cl ((nI 8 * v6) + (s7.2.1 218 (cl (nI 2379 + v6)))))) + nI 1)) (fun s10 => X8 (v6 + nI 1) s10)))) (nI 0) s4 else inb v3 5 ∧ inb (s4.2.1 224 (cl v3)) 64 ∧ inb (s4.2.1 224 (cl v3)) 64 ∧ lt (jh_setI s4 227 (cl (s4.2.1 224 (cl v3))) ((s4.2.1 227 (cl (s4.2.1 224 (cl v3)))) + nI 1)) (fun s11 => X5 (v3 + nI 1) s11))) (nI 0) s2) := by
  have n8 := hW.1
  obtain ⟨t1, t2, t3⟩ := hT
  unfold lt
  have f0 : Fi (fun b j => b = 227 ∨ b = 228 ∨ (b = 204 ∧ j = 41)) σ (jh_setI σ 204 41 ((σ.2.1 204 41) + nI 1)) := Fi_s (Fi_r _ _) (by omega)
  refine Lp2_inv (I := fun m v s => ∃ i, i ≤ pre.length ∧ m = pre.length - i ∧ v = nI i ∧ Fi (fun b j => b = 227 ∨ b = 228 ∨ (b = 204 ∧ j = 41)) σ s ∧ s.2.1 204 41 = nI (st.1 + 1) ∧ (∀ p, p < 64 → s.2.1 227 p = nI (st.2.1 p + (pre.take i).count p)) ∧ (∀ q, q < 64 → s.2.1 228 q = nI (st.2.2 q))) ?_ (m := pre.length) ⟨0, by omega, by omega, rfl, f0, by rw [rI_eq, t1, nI_add], fun p hp => by rw [rI_ne (by omega)]; exact t2 p hp, fun q hq => by rw [rI_ne (by omega)]; exact t3 q hq⟩
  rintro m v s ⟨i, hi, rfl, rfl, f, u1, u2, u3⟩ X hX
  have hls := Fi_ly f hM.1
  refine ⟨hls, ?_⟩
  by_cases c : pre.length ≤ i
  · rw [if_pos (by rw [nI_leN (by omega) (by omega)]; exact c)]
    have u2' : ∀ p, p < 64 → s.2.1 227 p = nI (st.2.1 p + pre.count p) := fun p hp => by rw [u2 p hp, List.take_of_length_le c]
    refine Lp2_inv (I := fun m v t => ∃ j, j ≤ Hn H ∧ m = Hn H - j ∧ v = nI j ∧ Fi (fun b j => b = 227 ∨ b = 228 ∨ (b = 204 ∧ j = 41)) σ t ∧ t.2.1 204 41 = nI (st.1 + 1) ∧ (∀ p, p < 64 → t.2.1 227 p = nI (st.2.1 p + pre.count p)) ∧ (∀ q, q < 64 → t.2.1 228 q = nI (st.2.2 q + if q / 8 < j ∧ mi S (q / 8) = q % 8 then 1 else 0))) ?_ (m := Hn H) ⟨0, by omega, by omega, rfl, f, u1, u2', fun q hq => by rw [if_neg (by omega)]; exact u3 q hq⟩
    rintro m' v' t ⟨j, hj, rfl, rfl, f', w1, w2, w3⟩ X' hX'
    have hlt := Fi_ly f' hM.1
    have hMt : Ms H L S x t := Ms_f hW hM f' (fun b j h1 h2 => by omega) (fun j => by omega)
    refine ⟨hlt, WE_i (m_bodies hlt hMt.2.1.1) ?_⟩
    by_cases d : Hn H ≤ j
    · rw [if_pos (by rw [nI_leN (by omega) (by omega)]; exact d)]
      refine hK t hMt (Fi_m f' (fun b j h => by unfold PRo; omega)) (mR_f f' (fun j => by omega) hR) ⟨w1, w2, fun q hq => ?_⟩
      rw [w3 q hq, show j = Hn H by omega]
      rfl
    · rw [if_neg (by rw [nI_leN (by omega) (by omega)]; exact d)]
      have b1 := hS.1.1 j (by omega)
      have e : t.2.1 218 (2379 + j) = nI (mi S j) := hMt.2.2.1.2.2.1 j (by omega)
      simp (disch := omega) only [lt, nI_mulN, nI_add, inb_nI, cl_nI, e]
      refine ⟨by omega, by omega, by omega, hX' _ _ _ (by omega) ⟨j + 1, by omega, rfl, rfl, Fi_s f' (by omega), ?_, fun p hp => ?_, fun q hq => ?_⟩⟩
      · rw [rI_ne (by omega)]; exact w1
      · rw [rI_ne (by omega)]; exact w2 p hp
      · rw [rI]
        by_cases z : q = 8 * j + mi S j
        · have z1 : q / 8 = j := by omega
          have z2 : q % 8 = mi S j := by omega
          rw [if_pos ⟨rfl, z⟩, w3 _ (by omega), nI_add, ← z, z1, z2, if_neg (by omega), if_pos ⟨by omega, rfl⟩]
        · rw [if_neg (by omega), w3 q hq]
          congr 2
          by_cases z1 : q / 8 = j
          · have z2 : ¬ mi S (q / 8) = q % 8 := by rw [z1]; omega
            rw [if_neg (fun h => z2 h.2), if_neg (fun h => z2 h.2)]
          · by_cases z2 : q / 8 < j ∧ mi S (q / 8) = q % 8
            · rw [if_pos z2, if_pos ⟨by omega, z2.2⟩]
            · rw [if_neg z2, if_neg (fun h => z2 ⟨by omega, h.2⟩)]
  · rw [if_neg (by rw [nI_leN (by omega) (by omega)]; exact c)]
    have hg : pre[i]? = some pre[i] := List.getElem?_eq_getElem (by omega)
    have hp64 := h64 pre[i] (List.getElem_mem _)
    have e : s.2.1 224 i = nI pre[i] := (f.2.2 224 i (by omega)).trans (hR i _ hg)
    simp (disch := omega) only [lt, inb_nI, cl_nI, e]
    refine ⟨by omega, by omega, by omega, hX _ _ _ (by omega) ⟨i + 1, by omega, rfl, nI_add i 1, Fi_s f (by omega), ?_, fun p hp => ?_, fun q hq => ?_⟩⟩
    · rw [rI_ne (by omega)]; exact u1
    · rw [List.take_add_one, hg, List.count_append, rI]
      show _ = nI (st.2.1 p + ((pre.take i).count p + [pre[i]].count p))
      by_cases z : p = pre[i]
      · rw [if_pos ⟨rfl, z⟩, u2 _ hp64, nI_add, z, List.count_singleton_self, Nat.add_assoc]
      · rw [if_neg (fun h => z h.2), u2 p hp, List.count_singleton]
        have : (pre[i] == p) = false := by rw [beq_eq_false_iff_ne]; exact fun h => z h.symm
        rw [this]; rfl
    · rw [rI_ne (by omega)]; exact u3 q hq

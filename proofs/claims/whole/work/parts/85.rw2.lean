section RW2
variable {Z : Ste} {x y w : Int32} {h pl : Nat} {s t σ : JH} {H : Hou} {S : Mud}
abbrev rwT (Z : Ste) (d : Nat) : Rst := rowsR (tH Z) (tF Z).2.2 d (tF Z).1 [] (0, fun _ => 0, fun _ => 0)
theorem rwT_le (hZ : WZ Z) {d : Nat} (hd : d ≤ 3) : (rwT Z d).1 ≤ 21952 := by
  have h := rows_le (sn := (tF Z).2.2) hZ.1.1 d (tF Z).1 [] (0, fun _ => 0, fun _ => 0)
  have h2 : 28 ^ d ≤ 28 ^ 3 := Nat.pow_le_pow_right (by omega) hd
  have h : (rwT Z d).1 ≤ 0 + 28 ^ d := h
  omega
theorem rw_rel (hZ : WZ Z) (mnd : Bool) (d : Nat) : Rlr (tH Z) mnd (rwT Z d) (frR (tH Z) (tF Z).2.2 mnd d (tF Z).1 [] (0, fun _ => true, fun _ => false, fun _ => 0)) := Rlr_all hZ.1 d _ [] _ _ hZ.2.1 List.nodup_nil (fun p hp => by cases hp) Rlr_0
theorem m_rowsOf {d : Nat} (hZ : WZ Z) (z : Rm Z σ) (hd : d ≤ 3) : WM q_Md_findRows [.ref 204, .int (nI d)] σ (kV fun s => Rm Z s ∧ Fg (fun b _ => 204 ≤ b ∧ b < 229) σ s ∧ mRo (rwT Z d) s) := by
  refine WM_V (m_findRows hZ.1 hZ.2.1 (Rm_Mb z) (mSb_0 z.2.2.2.2.1.2.2) hd) fun s3 ⟨l3, f3, R3⟩ => ?_
  obtain ⟨r1, r2⟩ := Rm_ok hZ z (Fi_g f3) l3 (fun b j q => by unfold PRo PT at q; unfold PmT; omega)
  exact ⟨r1, r2, R3⟩
theorem yes_1 {j m : Nat} (hl : Ly s) (h1 : 1 ≤ j) (h2 : j ≤ m) (h3 : m < 1000) : q_Md_within [.int (nI j), .int (nI 1), .int (nI m)] s = some (some (.int (bI true)), s) := by
  rw [m_within hl, decide_eq_true]
  rw [nI_ltN (by omega) (by omega), nI_ltN (by omega) (by omega)]
  omega
theorem a_rows (hZ : WZ Z) : Agr q_Ct_rows [.ref 64, .int x] q_Md_rows [.ref 204, .int x] Z := by
  rcases rng_1 (m := 3) (by omega) x with ⟨d, h1, h3, rfl⟩ | ⟨g1, g2⟩
  · refine Agr_q (nI (rwT Z d).1) hZ (fun h pl σ z => w_Ct_rows _ z.1.1 ?_) (fun σ z => w_Md_rows _ z.1 (lt_thr hZ z fun s z' f' => ?_))
    · rw [if_neg (by rw [nI_ltN (by omega) (by omega)]; omega), if_pos (by rw [nI_leN (by omega) (by omega)]; exact h3)]
      refine WM_V (c_countRows (mnd := false) hZ z h1 h3) fun s1 ⟨l1, z1, f1, R1, _⟩ => ⟨l1, ?_, z1, f1⟩
      rw [R1.1, (rw_rel hZ false d).1]
    · refine WE_i (yes_1 z'.1 h1 h3 (by omega)) ?_
      rw [if_neg (by decide)]
      exact WM_V (m_rowsOf hZ z' h3) fun s3 ⟨z3, f3, R3⟩ => ⟨z3.1, R3.1, z3, Fg_t f' f3⟩
  · refine Agr_q (mI 1) hZ (fun h pl σ z => w_Ct_rows _ z.1.1 ?_) (fun σ z => w_Md_rows _ z.1 (lt_thr hZ z fun s z' f' => WE_i (m_within z'.1) ?_))
    · rcases g1 with g | ⟨g, g3⟩
      · rw [if_pos g]; exact ⟨rfl, z, Fg_r _ _⟩
      · rw [if_neg g, if_neg (Int32.not_le.mpr g3)]; exact ⟨rfl, z, Fg_r _ _⟩
    · rw [g2]
      exact ⟨rfl, z', f'⟩
/-! LOOK -/
def mxr (f : Nat → Nat) (k : Nat) : Nat → Nat
  | 0 => 0
  | m + 1 => max (mxr f k m) (f (8 * k + m))
theorem mxr_le {f : Nat → Nat} {k b : Nat} (h : ∀ q, f q ≤ b) : ∀ m, mxr f k m ≤ b := by
  intro m
  induction m with
  | zero => exact Nat.zero_le _
  | succ m ih => show max _ _ ≤ b; have := h (8 * k + m); omega
theorem mxr_ext {f : Nat → Nat} {k n : Nat} (hz : ∀ m, n ≤ m → m < 8 → f (8 * k + m) = 0) : ∀ m, n ≤ m → m ≤ 8 → mxr f k m = mxr f k n := by
  intro m
  induction m with
  | zero => intro h1 h2; rw [show n = 0 by omega]
  | succ m ih =>
    intro h1 h2
    by_cases c : n = m + 1
    · rw [c]
    · show max (mxr f k m) (f (8 * k + m)) = _
      rw [hz m (by omega) (by omega), ih (by omega) (by omega)]
      omega
def lkS (H : Hou) (S : Mud) (f : Nat → Nat) (k : Nat) (b : Nat × Option Nat) : Nat × Option Nat := if th S k = true ∧ mxr f k (Hn H) < b.1 then (mxr f k (Hn H), some k) else b
def lkR (H : Hou) (S : Mud) (f : Nat → Nat) : Nat → Nat → Nat × Option Nat → Nat × Option Nat
  | 0, _, b => b
  | m + 1, k, b => lkR H S f m (k + 1) (lkS H S f k b)
theorem lkS_le {f : Nat → Nat} {k c : Nat} {b : Nat × Option Nat} (h : b.1 ≤ c) : (lkS H S f k b).1 ≤ c := by
  unfold lkS
  split
  · rename_i q; show mxr f k (Hn H) ≤ c; omega
  · exact h
theorem c_atWorst {f : Nat → Nat} {k n c : Nat} (hl : Ly s) (hk : k < 8) (hn : n ≤ 8) (hc : c < 1000000) (h : ∀ q, q < 64 → s.2.1 109 q = nI (f q)) (hf : ∀ q, f q ≤ c) (hz : ∀ q, n ≤ q % 8 → f q = 0) : q_Ta_rowsAtWorst [.ref 107, .int (nI k)] s = some (some (.int (nI (mxr f k n))), s) := by
  refine WE_o (w_Ta_rowsAtWorst _ hl ?_)
  refine Lp2_inv (I := fun m v1 v2 => ∃ i, i ≤ 8 ∧ m = 8 - i ∧ v2 = nI i ∧ v1 = nI (mxr f k i)) ?_ (m := 8) ⟨0, by omega, by omega, rfl, rfl⟩
  rintro m v1 v2 ⟨i, hi, rfl, rfl, rfl⟩ X hX
  by_cases d : 8 ≤ i
  · rw [if_pos (by rw [nI_leN (by omega) (by omega)]; exact d), show i = 8 by omega, mxr_ext (n := n) (fun m h1 h2 => hz _ (by omega)) 8 hn (by omega)]
  · rw [if_neg (by rw [nI_leN (by omega) (by omega)]; exact d), nI_mulN, nI_add]
    refine ⟨by rw [inb_nI (by omega) (by omega)]; omega, ?_⟩
    have h1 := mxr_le (k := k) hf i
    have h2 := hf (8 * k + i)
    rw [cl_nI (by omega), h _ (by omega)]
    refine WE_i (j_max hl (by omega) (by omega)) ?_
    exact hX _ _ _ (by omega) ⟨i + 1, by omega, rfl, nI_add i 1, rfl⟩
set_option maxHeartbeats 2000000 in
theorem a_look (hZ : WZ Z) : Agr q_Ct_look [.ref 64, .int x] q_Md_look [.ref 204, .int x] Z := by
  have hW := hZ.1
  have n8 := hW.1
  rcases rng_1 (m := 3) (by omega) x with ⟨d, h1, h3, rfl⟩ | ⟨g1, g2⟩
  · have hle := rwT_le hZ h3
    obtain ⟨q1, q2, q3, q4, q5⟩ := rw_rel hZ true d
    have q3 := q3 rfl
    generalize hA : lkR (tH Z) (tF Z).1 (rwT Z d).2.2 (Hn (tH Z)) 0 ((rwT Z d).1, none) = A
    refine Agr_q (oV A.2) hZ (fun h pl σ z => w_Ct_look _ z.1.1 ?_) (fun σ z => w_Md_look _ z.1 (lt_thr hZ z fun s z' f' => ?_))
    · rw [if_neg (by rw [nI_ltN (by omega) (by omega)]; omega), if_pos (by rw [nI_leN (by omega) (by omega)]; exact h3)]
      refine WM_V (c_countRows (mnd := true) hZ z h1 h3) fun s1 ⟨l1, z1, f1, R1, C1⟩ => ⟨l1, ?_⟩
      obtain ⟨t1, _, _, t4, _⟩ := R1
      rw [q1] at t1
      rw [q3] at t4
      refine WE_i (WE_o (x := oV A.2) (w_Ta_bodyThatPartsBest l1 ?_)) ⟨rfl, z1, f1⟩
      rw [t1, C1.2.2.2.1]
      refine Lp4_inv (I := fun m v1 v2 v3 _ => ∃ i b, i ≤ Hn (tH Z) ∧ m = Hn (tH Z) - i ∧ v3 = nI i ∧ v1 = nI b.1 ∧ v2 = oV b.2 ∧ b.1 ≤ (rwT Z d).1 ∧ lkR (tH Z) (tF Z).1 (rwT Z d).2.2 (Hn (tH Z) - i) i b = A) ?_ (m := Hn (tH Z)) ⟨0, ((rwT Z d).1, none), by omega, by omega, rfl, rfl, rfl, Nat.le_refl _, hA⟩
      rintro m v1 v2 v3 o4 ⟨i, b, hi, rfl, rfl, rfl, rfl, hb, ht⟩ X hX
      rw [C1.2.2.1.1]
      by_cases c : Hn (tH Z) ≤ i
      · rw [if_pos (by rw [nI_leN (by omega) (by omega)]; exact c)]
        rw [show Hn (tH Z) - i = 0 by omega] at ht
        rw [← ht]
        rfl
      · rw [if_neg (by rw [nI_leN (by omega) (by omega)]; exact c), C1.2.2.2.2.2.2.2.1, bk_get n8 (by omega)]
        have hstep : lkR (tH Z) (tF Z).1 (rwT Z d).2.2 (Hn (tH Z) - (i + 1)) (i + 1) (lkS (tH Z) (tF Z).1 (rwT Z d).2.2 i b) = A := by
          rw [← ht, show Hn (tH Z) - i = (Hn (tH Z) - (i + 1)) + 1 by omega]; rfl
        have nxt : ∀ b' o, b' = lkS (tH Z) (tF Z).1 (rwT Z d).2.2 i b → X (nI b'.1) (oV b'.2) (nI i + nI 1) o := fun b' o e => hX (Hn (tH Z) - (i + 1)) _ _ _ _ (by omega) ⟨i + 1, b', by omega, rfl, nI_add i 1, rfl, rfl, by rw [e]; exact lkS_le hb, by rw [e]; exact hstep⟩
        cases hth : th (tF Z).1 i
        · rw [if_neg (by decide)]
          exact nxt b _ (if_neg (fun q => by rw [hth] at q; exact absurd q.1 (by decide))).symm
        · rw [if_pos (by decide)]
          have hw := c_atWorst (k := i) l1 (by omega) n8 (c := (rwT Z d).1) (by omega) t4 q4 q5
          have hm := mxr_le (k := i) q4 (Hn (tH Z))
          refine WE_i hw ?_
          by_cases c2 : b.1 ≤ mxr (rwT Z d).2.2 i (Hn (tH Z))
          · rw [if_pos (by rw [nI_leN (by omega) (by omega)]; exact c2)]
            exact nxt b _ (if_neg (fun q => by omega)).symm
          · rw [if_neg (by rw [nI_leN (by omega) (by omega)]; exact c2)]
            refine WE_i hw ?_
            exact nxt (mxr (rwT Z d).2.2 i (Hn (tH Z)), some i) _ (if_pos ⟨hth, by omega⟩).symm
    · refine WE_i (yes_1 z'.1 h1 h3 (by omega)) ?_
      rw [if_neg (by decide)]
      refine WM_V (m_rowsOf hZ z' h3) fun s3 ⟨z3, f3, R3⟩ => ⟨z3.1, ?_⟩
      obtain ⟨t1, _, t4⟩ := R3
      rw [t1]
      refine Lp5_inv (I := fun m v4 v5 v6 _ _ => ∃ i b, i ≤ Hn (tH Z) ∧ m = Hn (tH Z) - i ∧ v6 = nI i ∧ v5 = nI b.1 ∧ v4 = oV b.2 ∧ b.1 ≤ (rwT Z d).1 ∧ lkR (tH Z) (tF Z).1 (rwT Z d).2.2 (Hn (tH Z) - i) i b = A) ?_ (m := Hn (tH Z)) ⟨0, ((rwT Z d).1, none), by omega, by omega, rfl, rfl, rfl, Nat.le_refl _, hA⟩
      rintro m v4 v5 v6 o7 o8 ⟨i, b, hi, rfl, rfl, rfl, rfl, hb, ht⟩ X hX
      refine WE_i (m_bodies z3.1 (Rm_H z3)) ?_
      by_cases c : Hn (tH Z) ≤ i
      · rw [if_pos (by rw [nI_leN (by omega) (by omega)]; exact c)]
        rw [show Hn (tH Z) - i = 0 by omega] at ht
        rw [← ht]
        exact ⟨rfl, z3, Fg_t f' f3⟩
      · rw [if_neg (by rw [nI_leN (by omega) (by omega)]; exact c)]
        have hstep : lkR (tH Z) (tF Z).1 (rwT Z d).2.2 (Hn (tH Z) - (i + 1)) (i + 1) (lkS (tH Z) (tF Z).1 (rwT Z d).2.2 i b) = A := by
          rw [← ht, show Hn (tH Z) - i = (Hn (tH Z) - (i + 1)) + 1 by omega]; rfl
        have nxt : ∀ b' o o', b' = lkS (tH Z) (tF Z).1 (rwT Z d).2.2 i b → X (oV b'.2) (nI b'.1) (nI i + nI 1) o o' := fun b' o o' e => hX (Hn (tH Z) - (i + 1)) _ _ _ _ _ (by omega) ⟨i + 1, b', by omega, rfl, nI_add i 1, rfl, rfl, by rw [e]; exact lkS_le hb, by rw [e]; exact hstep⟩
        simp only [JJ1]
        have inner : ∀ v0, v0 ≤ (rwT Z d).1 → (∀ w o o', w = max v0 (mxr (rwT Z d).2.2 i (Hn (tH Z))) → (if nI b.1 ≤ nI w then (if nI b.1 ≤ nI w then X (oV b.2) (nI b.1) (nI i + nI 1) o o' else X (oV b.2) (nI w) (nI i + nI 1) o o') else (if nI b.1 ≤ nI w then X (nI i) (nI b.1) (nI i + nI 1) o o' else X (nI i) (nI w) (nI i + nI 1) o o'))) →
            Lp2 (fun (v13 : Int32) (v14 : Int32) X15 => WE q_Md_bodies [.ref 204] s3 (fun x16 => (if x16 ≤ v14 then (if nI b.1 ≤ v13 then (if nI b.1 ≤ v13 then X (oV b.2) (nI b.1) (nI i + nI 1) (some (.int v13)) (some (.int v14)) else X (oV b.2) v13 (nI i + nI 1) (some (.int v13)) (some (.int v14))) else (if nI b.1 ≤ v13 then X (nI i) (nI b.1) (nI i + nI 1) (some (.int v13)) (some (.int v14)) else X (nI i) v13 (nI i + nI 1) (some (.int v13)) (some (.int v14)))) else inb ((nI 8 * nI i) + v14) 64 ∧ (if s3.2.1 228 (cl ((nI 8 * nI i) + v14)) ≤ v13 then X15 v13 (v14 + nI 1) else inb ((nI 8 * nI i) + v14) 64 ∧ X15 (s3.2.1 228 (cl ((nI 8 * nI i) + v14))) (v14 + nI 1))))) (nI v0) (nI 0) := by
          intro v0 hv0 hfin
          refine Lp2_inv (I := fun m v13 v14 => ∃ j, j ≤ Hn (tH Z) ∧ m = Hn (tH Z) - j ∧ v14 = nI j ∧ v13 = nI (max v0 (mxr (rwT Z d).2.2 i j))) ?_ (m := Hn (tH Z)) ⟨0, by omega, by omega, rfl, by show nI v0 = nI (max v0 0); rw [Nat.max_eq_left (Nat.zero_le _)]⟩
          rintro m v13 v14 ⟨j, hj, rfl, rfl, rfl⟩ X15 hX15
          refine WE_i (m_bodies z3.1 (Rm_H z3)) ?_
          by_cases cj : Hn (tH Z) ≤ j
          · rw [if_pos (by rw [nI_leN (by omega) (by omega)]; exact cj)]
            exact hfin _ _ _ (by rw [show j = Hn (tH Z) by omega])
          · rw [if_neg (by rw [nI_leN (by omega) (by omega)]; exact cj), nI_mulN, nI_add, cl_nI (by omega), t4 _ (by omega)]
            have hm := mxr_le (k := i) q4 j
            have hm2 := q4 (8 * i + j)
            refine ⟨by rw [inb_nI (by omega) (by omega)]; omega, ?_⟩
            have e1 : mxr (rwT Z d).2.2 i (j + 1) = max (mxr (rwT Z d).2.2 i j) ((rwT Z d).2.2 (8 * i + j)) := rfl
            by_cases c3 : (rwT Z d).2.2 (8 * i + j) ≤ max v0 (mxr (rwT Z d).2.2 i j)
            · rw [if_pos (by rw [nI_leN (by omega) (by omega)]; exact c3)]
              exact hX15 _ _ _ (by omega) ⟨j + 1, by omega, rfl, nI_add j 1, by rw [e1]; congr 1; omega⟩
            · rw [if_neg (by rw [nI_leN (by omega) (by omega)]; exact c3)]
              exact ⟨by rw [inb_nI (by omega) (by omega)]; omega, hX15 _ _ _ (by omega) ⟨j + 1, by omega, rfl, nI_add j 1, by rw [e1]; congr 1; omega⟩⟩
        have hm := mxr_le (k := i) q4 (Hn (tH Z))
        refine WE_i (m_isThere z3.1 n8 (Rm_M z3) (by omega) (by omega)) ?_
        cases hth : th (tF Z).1 i
        · rw [if_pos (by decide)]
          refine inner _ (Nat.le_refl _) (fun w o o' hw => ?_)
          rw [if_pos (by rw [nI_leN (by omega) (by omega)]; omega), if_pos (by rw [nI_leN (by omega) (by omega)]; omega)]
          exact nxt b _ _ (if_neg (fun q => by rw [hth] at q; exact absurd q.1 (by decide))).symm
        · rw [if_neg (by decide)]
          refine inner 0 (Nat.zero_le _) (fun w o o' hw => ?_)
          rw [Nat.max_eq_right (Nat.zero_le _)] at hw
          by_cases c2 : b.1 ≤ w
          · rw [if_pos (by rw [nI_leN (by omega) (by omega)]; omega), if_pos (by rw [nI_leN (by omega) (by omega)]; omega)]
            exact nxt b _ _ (if_neg (fun q => by omega)).symm
          · rw [if_neg (by rw [nI_leN (by omega) (by omega)]; omega), if_neg (by rw [nI_leN (by omega) (by omega)]; omega)]
            have := nxt (mxr (rwT Z d).2.2 i (Hn (tH Z)), some i) o o' (if_pos ⟨hth, by omega⟩).symm
            rw [hw]
            exact this
  · refine Agr_q (mI 1) hZ (fun h pl σ z => w_Ct_look _ z.1.1 ?_) (fun σ z => w_Md_look _ z.1 (lt_thr hZ z fun s z' f' => WE_i (m_within z'.1) ?_))
    · rcases g1 with g | ⟨g, g3⟩
      · rw [if_pos g]; exact ⟨rfl, z, Fg_r _ _⟩
      · rw [if_neg g, if_neg (Int32.not_le.mpr g3)]; exact ⟨rfl, z, Fg_r _ _⟩
    · rw [g2]
      exact ⟨rfl, z', f'⟩
end RW2

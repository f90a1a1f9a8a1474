/-! ===== the class: rings ===== -/
def rgk (f : Nat → Nat) (x i y : Nat) : Bool := (List.range (i + 1)).any (fun m => itr f m x == y)
theorem rgk_d (f : Nat → Nat) (x i y : Nat) : rgk f x i y = true ↔ ∃ m, m ≤ i ∧ itr f m x = y := by
  unfold rgk
  rw [List.any_eq_true]
  constructor
  · rintro ⟨m, h1, h2⟩; exact ⟨m, by have := List.mem_range.mp h1; omega, eq_of_beq h2⟩
  · rintro ⟨m, h1, h2⟩; exact ⟨m, List.mem_range.mpr (by omega), beq_iff_eq.mpr h2⟩
theorem rgk_up (f : Nat → Nat) (x i y : Nat) : rgk f x (i + 1) y = up1 (rgk f x i) (itr f (i + 1) x) true y := by
  unfold up1
  rw [Bool.eq_iff_iff]
  by_cases c : y = itr f (i + 1) x
  · rw [if_pos c, rgk_d]
    exact ⟨fun _ => rfl, fun _ => ⟨i + 1, Nat.le_refl _, c.symm⟩⟩
  · rw [if_neg c, rgk_d, rgk_d]
    refine ⟨fun ⟨m, h1, h2⟩ => ⟨m, ?_, h2⟩, fun ⟨m, h1, h2⟩ => ⟨m, by omega, h2⟩⟩
    refine Nat.le_of_lt_succ (Nat.lt_of_le_of_ne h1 (fun q => c ?_))
    rw [← h2, q]
theorem itr_mod {f : Nat → Nat} {x r : Nat} (h : itr f r x = x) (m : Nat) : itr f m x = itr f (m % r) x := by
  have h1 : ∀ q, itr f (r * q) x = x := by
    intro q
    induction q with
    | zero => rfl
    | succ q ih => rw [Nat.mul_succ, itr_add, h, ih]
  have h2 := Nat.mod_add_div m r
  rw [← h2, itr_add, h1, h2]
theorem rgk_all {f : Nat → Nat} {n x i y : Nat} (hp : Pn f n) (hn : n ≤ 8) (hx : x < n) (h : itr f (i + 1) x = x ∨ 7 ≤ i) : rgk f x i y = rg f x y := by
  rw [Bool.eq_iff_iff, rgk_d, rg_iff hp hn hx]
  refine ⟨fun ⟨m, _, h2⟩ => ⟨m, h2⟩, fun ⟨m, h2⟩ => ?_⟩
  rcases h with h | h
  · refine ⟨m % (i + 1), by have := Nat.mod_lt m (show 0 < i + 1 by omega); omega, ?_⟩
    rw [← itr_mod h, h2]
  · obtain ⟨k, a, b⟩ := itr_low hp hx m
    exact ⟨k, by omega, b.trans h2⟩
section CR
variable {H : Hou} {S : Mud} {a h k e : Nat} {σ : JH}
theorem c_ringOf (hl : Ly σ) (ha : IsMu a) (hW : WH H) (hS : WS H S) (hM : cM H S a h σ) (hk : k < Hn H) : q_Mu_ringOf [.ref a, .int (nI k)] σ = some (some (.int (nI (msk (rg (mi S) k) (Hn H)))), σ) := by
  have n8 := hW.1
  have hp := hS.1
  obtain ⟨m0, m1, m2, m3, m4, m5, m6, m7, m8⟩ := hM
  refine WE_o (w_Mu_ringOf a (nI k) hl ha ?_)
  simp (disch := omega) only [inb_nI, cl_nI, m1 k hk]
  refine ⟨by omega, ?_⟩
  refine Lp3_inv (I := fun m v1 v2 v3 => ∃ i, i ≤ 8 ∧ m = 8 - i ∧ v3 = nI i ∧ v1 = nI (msk (rgk (mi S) k i) (Hn H)) ∧ v2 = nI (itr (mi S) (i + 1) k)) ?_ (m := 8) ⟨0, by omega, by omega, rfl, ?_, rfl⟩
  · rintro m v1 v2 v3 ⟨i, hi, rfl, rfl, rfl, rfl⟩ X hX
    have hn := itr_lt hp hk (i + 1)
    by_cases c : 8 ≤ i
    · rw [if_pos (by rw [nI_leN (by omega) (by omega)]; exact c)]
      exact congrArg nI (msk_ext (fun j hj => rgk_all hp n8 hk (Or.inr (by omega))))
    · rw [if_neg (by rw [nI_leN (by omega) (by omega)]; exact c)]
      by_cases d : itr (mi S) (i + 1) k = k
      · rw [if_pos (by rw [d])]
        exact congrArg nI (msk_ext (fun j hj => rgk_all hp n8 hk (Or.inl d)))
      · rw [if_neg (by rw [nI_eqN (by omega) (by omega)]; exact d)]
        simp (disch := omega) only [inb_nI, cl_nI, m1 _ hn, bk_set n8 hn]
        refine ⟨by omega, hX _ _ _ _ (by omega) ⟨i + 1, by omega, rfl, nI_add i 1, congrArg nI (msk_ext (fun j hj => (rgk_up _ _ _ _).symm)), ?_⟩⟩
        rw [itr_s (mi S) (i + 1)]
  · rw [sh_k n8 hk]
    refine congrArg nI (msk_ext (fun j hj => ?_))
    rw [Bool.eq_iff_iff, rgk_d, decide_eq_true_iff]
    exact ⟨fun q => ⟨0, Nat.le_refl _, q.symm⟩, fun ⟨m, h1, h2⟩ => by rw [show m = 0 by omega] at h2; exact h2.symm⟩
/-! how many turns are needed at least -/
def wkd (f : Nat → Nat) (i y : Nat) : Bool := (List.range i).any (fun b => !decide (f b = b) && rg f b y)
def ndR (f : Nat → Nat) (n : Nat) (ct : Nat → Bool) : Nat → Nat
  | 0 => 0
  | i + 1 => ndR f n ct i + if f i ≠ i ∧ wkd f i i = false then cntB (rg f i) n - max 1 (cntB (fun y => rg f i y && ct y) n) else 0
theorem wkd_s (f : Nat → Nat) (i y : Nat) : wkd f (i + 1) y = (wkd f i y || (!decide (f i = i) && rg f i y)) := by
  unfold wkd
  rw [List.range_succ, List.any_append]
  simp
theorem ring_pos {f : Nat → Nat} {n i : Nat} (hi : i < n) : 1 ≤ cntB (rg f i) n := cntB_has hi (rg_refl i)
theorem ring_cat {f : Nat → Nat} {n i : Nat} (ct : Nat → Bool) : cntB (fun y => rg f i y && ct y) n ≤ cntB (rg f i) n := cntB_mono (fun k _ q => by rw [Bool.and_eq_true] at q; exact q.1)
theorem c_turnsNeeded (hl : Ly σ) (ha : IsMu a) (hW : WH H) (hS : WS H S) (hH : cH H h σ) (hM : cM H S a h σ) : q_Mu_turnsNeeded [.ref a] σ = some (some (.int (nI (ndR (mi S) (Hn H) (ctb H) (Hn H)))), σ) := by
  have n8 := hW.1
  have hM0 := hM
  obtain ⟨m0, m1, m2, m3, m4, m5, m6, m7, m8⟩ := hM
  obtain ⟨q1, q2, q3, q4, q5, q6, q7, q8, q9, q10⟩ := hH
  refine WE_o (w_Mu_turnsNeeded a hl ha ?_)
  rw [m0, q1, q3]
  refine Lp4_inv (I := fun m v1 v2 v3 _ => ∃ i, i ≤ Hn H ∧ m = Hn H - i ∧ v3 = nI i ∧ v1 = nI (ndR (mi S) (Hn H) (ctb H) i) ∧ v2 = nI (msk (wkd (mi S) i) (Hn H))) ?_ (m := Hn H) ⟨0, by omega, by omega, rfl, rfl, congrArg nI (msk_0 (fun _ _ => rfl)).symm⟩
  rintro m v1 v2 v3 o ⟨i, hi, rfl, rfl, rfl, rfl⟩ X hX
  by_cases c : Hn H ≤ i
  · rw [if_pos (by rw [nI_leN (by omega) (by omega)]; exact c), show i = Hn H by omega]
  · rw [if_neg (by rw [nI_leN (by omega) (by omega)]; exact c)]
    have hin : i < Hn H := by omega
    have b1 := hS.1.1 i hin
    simp (disch := omega) only [inb_nI, cl_nI, m1 i hin]
    refine ⟨by omega, ?_⟩
    by_cases d : mi S i = i
    · rw [if_pos (by rw [d])]
      refine hX _ _ _ _ _ (by omega) ⟨i + 1, by omega, rfl, nI_add i 1, ?_, congrArg nI (msk_ext (fun j hj => ?_))⟩
      · show _ = nI (_ + if _ then _ else _)
        rw [if_neg (fun q => q.1 d)]; rfl
      · rw [wkd_s, d]; simp
    · rw [if_neg (by rw [nI_eqN (by omega) (by omega)]; exact d)]
      simp only [bk_get n8 hin, bI_0]
      by_cases z : wkd (mi S) i i = false
      · rw [if_pos z]
        refine WE_i (c_ringOf hl ha hW hS hM0 hin) ?_
        refine WE_i (j_bcm hl n8) ?_
        rw [bk_and]
        refine WE_i (j_bcm hl n8) ?_
        have hc := ring_cat (f := mi S) (n := Hn H) (i := i) (ctb H)
        have hc1 := ring_pos (f := mi S) hin
        have hc8 := cntB_le (rg (mi S) i) (Hn H)
        refine WE_i (j_max hl (by omega) (by omega)) ?_
        rw [nI_subN (by omega), nI_add, bk_or]
        refine hX _ _ _ _ _ (by omega) ⟨i + 1, by omega, rfl, nI_add i 1, ?_, congrArg nI (msk_ext (fun j hj => ?_))⟩
        · show _ = nI (_ + if _ then _ else _)
          rw [if_pos ⟨d, z⟩]
        · rw [wkd_s]; simp [d]
      · rw [if_neg z]
        rw [Bool.not_eq_false] at z
        refine hX _ _ _ _ _ (by omega) ⟨i + 1, by omega, rfl, nI_add i 1, ?_, congrArg nI (msk_ext (fun j hj => ?_))⟩
        · show _ = nI (_ + if _ then _ else _)
          rw [if_neg (fun q => by rw [z] at q; cases q.2)]; rfl
        · rw [wkd_s]
          cases hr : rg (mi S) i j
          · simp
          · unfold wkd at z ⊢
            rw [List.any_eq_true] at z
            obtain ⟨b, hb, hz⟩ := z
            rw [Bool.and_eq_true] at hz
            have hbn : b < Hn H := by have := List.mem_range.mp hb; omega
            have : (List.range i).any (fun b => !decide (mi S b = b) && rg (mi S) b j) = true := List.any_eq_true.mpr ⟨b, hb, by rw [Bool.and_eq_true]; exact ⟨hz.1, rg_tr hS.1 n8 hbn hz.2 hr⟩⟩
            rw [this]; rfl
/-! who stays wrong whatever is done -/
def alone (H : Hou) (S : Mud) (b : Nat) : Bool := !decide (mi S b = b) && decide (∀ e, e < Hn H → mayT H S b e = false)
def stk (H : Hou) (S : Mud) (y : Nat) : Bool := (List.range (Hn H)).any (fun b => alone H S b && (decide (y = b) || decide (y = mi S b))) && ast H S y
theorem c_stuck (hl : Ly σ) (ha : IsMu a) (hW : WH H) (hS : WS H S) (hH : cH H h σ) (hM : cM H S a h σ) : q_Mu_stuck [.ref a] σ = some (some (.int (nI (msk (stk H S) (Hn H)))), σ) := by
  have n8 := hW.1
  have hM0 := hM
  have hH0 := hH
  obtain ⟨m0, m1, m2, m3, m4, m5, m6, m7, m8⟩ := hM
  refine WE_o (w_Mu_stuck a hl ha ?_)
  rw [m0, hH.1, m6]
  have hs : ∀ i y, (List.range (i + 1)).any (fun b => alone H S b && (decide (y = b) || decide (y = mi S b))) = ((List.range i).any (fun b => alone H S b && (decide (y = b) || decide (y = mi S b))) || (alone H S i && (decide (y = i) || decide (y = mi S i)))) := by
    intro i y
    rw [List.range_succ, List.any_append]
    simp
  refine Lp2_inv (I := fun m v1 v2 => ∃ i, i ≤ Hn H ∧ m = Hn H - i ∧ v2 = nI i ∧ v1 = nI (msk (fun y => (List.range i).any (fun b => alone H S b && (decide (y = b) || decide (y = mi S b)))) (Hn H))) ?_ (m := Hn H) ⟨0, by omega, by omega, rfl, congrArg nI (msk_0 (fun _ _ => rfl)).symm⟩
  rintro m v1 v2 ⟨i, hi, rfl, rfl, rfl⟩ X hX
  by_cases c : Hn H ≤ i
  · rw [if_pos (by rw [nI_leN (by omega) (by omega)]; exact c), bk_and, show i = Hn H by omega]
    rfl
  · rw [if_neg (by rw [nI_leN (by omega) (by omega)]; exact c)]
    have hin : i < Hn H := by omega
    have b1 := hS.1.1 i hin
    simp (disch := omega) only [inb_nI, cl_nI, m1 i hin]
    refine ⟨by omega, ?_⟩
    have no : alone H S i = false → X (nI (msk (fun y => (List.range i).any (fun b => alone H S b && (decide (y = b) || decide (y = mi S b)))) (Hn H))) (nI i + nI 1) := fun q =>
      hX _ _ _ (by omega) ⟨i + 1, by omega, rfl, nI_add i 1, congrArg nI (msk_ext (fun j hj => by rw [hs, q]; simp))⟩
    by_cases d : mi S i = i
    · rw [if_pos (by rw [d])]
      exact no (by unfold alone; simp [d])
    · rw [if_neg (by rw [nI_eqN (by omega) (by omega)]; exact d)]
      refine WE_i (c_partnersOf hl ha hW hH0 hM0 hin) ?_
      have hm8 := msk_8 (f := mayT H S i) n8
      by_cases z : msk (mayT H S i) (Hn H) = 0
      · rw [if_pos (by rw [z]; decide), sh_k n8 hin, sh_k n8 b1, bk_or, bk_or]
        have al : alone H S i = true := by unfold alone; rw [decide_eq_true (fun e he => msk_z z e he)]; simp [d]
        refine ⟨by omega, hX _ _ _ (by omega) ⟨i + 1, by omega, rfl, nI_add i 1, congrArg nI (msk_ext (fun j hj => ?_))⟩⟩
        rw [hs, al]; simp
      · rw [if_neg (by rw [nI_eq0 (by omega)]; exact z)]
        refine no ?_
        unfold alone
        rw [decide_eq_false (fun q => z (msk_0 q)), Bool.and_false]
/-! the pairs as bits -/
theorem up_mask {f : Nat → Bool} {n : Nat} (n8 : n ≤ 8) (hk : k < 8) : nI (msk f n) &&& (mI 2 <<< (nI k &&& 31)) = nI (msk (fun e => f e && decide (k < e)) n) := by
  have h : ∀ k, k < 8 → mI 2 <<< (nI k &&& 31) = (nI (2 ^ (k + 1) - 1)) ^^^ mI 1 := by decide
  rw [h k hk, show nI (2 ^ (k + 1) - 1) = nI (msk (fun e => decide (e ≤ k)) 8) by
    refine congrArg nI (Nat.eq_of_testBit_eq (fun i => ?_))
    rw [msk_tb, Nat.testBit_two_pow_sub_one]
    by_cases c : i < k + 1
    · have h1 : i ≤ k := by omega
      have h2 : i < 8 := by omega
      simp [c, h1, h2]
    · have h1 : ¬ i ≤ k := by omega
      simp [c, h1]]
  rw [show nI (msk f n) = nI (msk (fun j => decide (j < n) && f j) 8) by
    refine congrArg nI (Nat.eq_of_testBit_eq (fun i => ?_))
    rw [msk_tb, msk_tb]
    by_cases c : i < n
    · have : i < 8 := by omega
      simp [c, this]
    · simp [c]]
  rw [bk_sub]
  refine congrArg nI (Nat.eq_of_testBit_eq (fun i => ?_))
  rw [msk_tb, msk_tb]
  by_cases c : i < n
  · have h1 : i < 8 := by omega
    by_cases d : i ≤ k
    · have h2 : ¬ k < i := by omega
      simp [c, h1, d, h2]
    · have h2 : k < i := by omega
      simp [c, h1, d, h2]
  · simp [c]
/-- rows of bits, one behind another -/
def rwb (F : Nat → Nat → Bool) (n i p : Nat) : Bool := decide (p / 8 < i) && decide (p % 8 < n) && F (p / 8) (p % 8)
theorem rwb_s {F : Nat → Nat → Bool} {n i : Nat} (n8 : n ≤ 8) (hi : i < 8) : lN (msk (rwb F n i) 64) ||| (lN (msk (F i) n) <<< ((nI 8 * nI i).toInt64 &&& 63)) = lN (msk (rwb F n (i + 1)) 64) := by
  have hs : ((nI 8 * nI i).toInt64 &&& 63) = lN (8 * i) := by
    rw [nI_mulN, nI_l (by omega)]
    have : ∀ i, i < 8 → lN (8 * i) &&& 63 = lN (8 * i) := by decide
    exact this i hi
  rw [hs]
  refine i64_ext (fun p hp => ?_)
  have hsh : (lN (msk (F i) n) <<< lN (8 * i)).toBitVec.getLsbD p = (!decide (p < 8 * i) && (msk (F i) n).testBit (p - 8 * i)) := by
    rw [Int64.toBitVec_shiftLeft]
    have : ((lN (8 * i)).toBitVec.smod 64).toNat = 8 * i := by
      have : ∀ i, i < 8 → ((lN (8 * i)).toBitVec.smod 64).toNat = 8 * i := by decide
      exact this i hi
    rw [BitVec.shiftLeft_eq', this, BitVec.getLsbD_shiftLeft, lN_bit]
    have h3 : p - 8 * i < 64 := by omega
    simp [hp, h3]
  rw [Int64.toBitVec_or, BitVec.getLsbD_or, lN_bit, lN_bit, hsh, msk_tb, msk_tb, msk_tb]
  unfold rwb
  by_cases c : p / 8 = i
  · have h1 : p - 8 * i = p % 8 := by omega
    have h2 : ¬ p < 8 * i := by omega
    rw [c, h1]
    simp [hp, h2]
  · by_cases d : p / 8 < i
    · have h2 : p < 8 * i := by omega
      have h3 : p / 8 < i + 1 := by omega
      simp [hp, d, h2, h3]
    · have h2 : ¬ p < 8 * i := by omega
      have h3 : ¬ p / 8 < i + 1 := by omega
      have h4 : ¬ p - 8 * i < n := by omega
      simp [d, h3, h4]
theorem c_openPairs (hl : Ly σ) (ha : IsMu a) (hW : WH H) (hS : WS H S) (hH : cH H h σ) (hM : cM H S a h σ) : q_Mu_openPairs [.ref a] σ = some (some (.long (lN (msk (gop H S) 64))), σ) := by
  have n8 := hW.1
  refine WJ_o (w_Mu_openPairs a hl ha ?_)
  rw [hM.1, hH.1]
  refine Lp3_inv (I := fun m v1 v2 _ => ∃ i, i ≤ Hn H ∧ m = Hn H - i ∧ v2 = nI i ∧ v1 = lN (msk (rwb (fun k e => mayT H S k e && decide (k < e)) (Hn H) i) 64)) ?_ (m := Hn H) ⟨0, by omega, by omega, rfl, by rw [msk_0 (fun k hk => by unfold rwb; simp)]; rfl⟩
  rintro m v1 v2 o ⟨i, hi, rfl, rfl, rfl⟩ X hX
  by_cases c : Hn H ≤ i
  · rw [if_pos (by rw [nI_leN (by omega) (by omega)]; exact c), show i = Hn H by omega]
    refine congrArg lN (msk_ext (fun p hp => ?_))
    unfold rwb gop gpr
    by_cases d : p / 8 < p % 8
    · by_cases z : p % 8 < Hn H
      · have : p / 8 < Hn H := by omega
        simp [d, z, this]
      · simp [z]
    · simp [d]
  · rw [if_neg (by rw [nI_leN (by omega) (by omega)]; exact c)]
    refine WE_i (c_partnersOf hl ha hW hH hM (by omega)) ?_
    rw [up_mask n8 (by omega), nI_l (by have := msk_8 (f := fun e => mayT H S i e && decide (i < e)) n8; omega), rwb_s (F := fun k e => mayT H S k e && decide (k < e)) n8 (by omega)]
    exact hX _ _ _ _ (by omega) ⟨i + 1, by omega, rfl, nI_add i 1, rfl⟩
theorem c_openX (hl : Ly σ) (ha : IsMu a) (hW : WH H) (hS : WS H S) (hH : cH H h σ) (hM : cM H S a h σ) : ∃ x, q_Mu_openPairs [.ref a] σ = some (some (.long x), σ) ∧ isX x (opl H S) := ⟨_, c_openPairs hl ha hW hS hH hM, gop H S, rfl, (opl_bl hW.1).symm⟩
theorem c_pairsWithin (hl : Ly σ) (ha : IsMu a) (hW : WH H) (hS : WS H S) (hH : cH H h σ) (hM : cM H S a h σ) : q_Mu_pairsWithinRings [.ref a] σ = some (some (.long (lN (msk (rwb (rg (mi S)) (Hn H) (Hn H)) 64))), σ) := by
  have n8 := hW.1
  refine WJ_o (w_Mu_pairsWithinRings a hl ha ?_)
  rw [hM.1, hH.1]
  refine Lp3_inv (I := fun m v1 v2 _ => ∃ i, i ≤ Hn H ∧ m = Hn H - i ∧ v2 = nI i ∧ v1 = lN (msk (rwb (rg (mi S)) (Hn H) i) 64)) ?_ (m := Hn H) ⟨0, by omega, by omega, rfl, by rw [msk_0 (fun k hk => by unfold rwb; simp)]; rfl⟩
  rintro m v1 v2 o ⟨i, hi, rfl, rfl, rfl⟩ X hX
  by_cases c : Hn H ≤ i
  · rw [if_pos (by rw [nI_leN (by omega) (by omega)]; exact c), show i = Hn H by omega]
  · rw [if_neg (by rw [nI_leN (by omega) (by omega)]; exact c)]
    refine WE_i (c_ringOf hl ha hW hS hM (by omega)) ?_
    rw [nI_l (by have := msk_8 (f := rg (mi S) i) n8; omega), rwb_s n8 (by omega)]
    exact hX _ _ _ _ (by omega) ⟨i + 1, by omega, rfl, nI_add i 1, rfl⟩
/-- the pairs by which all could come home within d turns -/
def ned (H : Hou) (S : Mud) : Nat := ndR (mi S) (Hn H) (ctb H) (Hn H)
def anyst (H : Hou) (S : Mud) : Bool := decide (∃ k, k < Hn H ∧ stk H S k = true)
def hop (H : Hou) (S : Mud) (d : Nat) : List Nat := if d < ned H S then [] else if anyst H S = true then [] else if d = ned H S then (opl H S).filter (fun p => rg (mi S) (p / 8) (p % 8)) else opl H S
theorem ned_le {H : Hou} {S : Mud} : ned H S ≤ Hn H * Hn H := by
  unfold ned
  have : ∀ i, ndR (mi S) (Hn H) (ctb H) i ≤ i * Hn H := by
    intro i
    induction i with
    | zero => exact Nat.zero_le _
    | succ i ih =>
      have := cntB_le (rg (mi S) i) (Hn H)
      have := Nat.sub_le (cntB (rg (mi S) i) (Hn H)) (max 1 (cntB (fun y => rg (mi S) i y && ctb H y) (Hn H)))
      rw [Nat.succ_mul]
      show _ + (if _ then _ else _) ≤ _
      split <;> omega
  exact this _
theorem c_hopeful {d : Nat} (hl : Ly σ) (ha : IsMu a) (hW : WH H) (hS : WS H S) (hH : cH H h σ) (hM : cM H S a h σ) (hd : d < 1000) : ∃ x, q_Mu_hopefulPairs [.ref a, .int (nI d)] σ = some (some (.long x), σ) ∧ isX x (hop H S d) := by
  have n8 := hW.1
  have hnl : ned H S ≤ 64 := Nat.le_trans ned_le (Nat.mul_le_mul n8 n8)
  have nil : isX 0 [] := ⟨fun _ => false, by rw [msk_0 (fun _ _ => rfl)]; rfl, by unfold bl; rw [List.filter_eq_nil_iff]; intro p _ q; cases q⟩
  unfold hop
  have ht := c_turnsNeeded hl ha hW hS hH hM
  by_cases c1 : d < ned H S
  · rw [if_pos c1]
    refine ⟨0, WJ_o (w_Mu_hopefulPairs a _ hl ha ?_), nil⟩
    refine WE_i ht ?_
    show if nI d - nI (ned H S) < 0 then _ else _
    rw [if_pos]
    have : nI d - nI (ned H S) < 0 := by
      rw [Int32.lt_iff_toInt_lt, Int32.toInt_sub, nI_toInt (by omega), nI_toInt (by omega), Int.bmod_eq_of_le (by omega) (by omega)]
      show _ < (0 : Int)
      omega
    exact this
  · rw [if_neg c1]
    have hm8 := msk_8 (f := stk H S) n8
    have e0 : ¬ nI d - nI (ned H S) < 0 := by rw [nI_subN (by omega), nI_lt0 (by omega)]; exact id
    by_cases c2 : anyst H S = true
    · rw [if_pos c2]
      refine ⟨0, WJ_o (w_Mu_hopefulPairs a _ hl ha ?_), nil⟩
      refine WE_i ht ?_
      show if nI d - nI (ned H S) < 0 then _ else _
      rw [if_neg e0]
      refine WE_i (c_stuck hl ha hW hS hH hM) ?_
      rw [if_neg]
      rw [nI_eq0 (by omega)]
      intro q
      obtain ⟨k, hk, hs⟩ := of_decide_eq_true c2
      rw [msk_z q k hk] at hs
      cases hs
    · rw [if_neg c2]
      have z : msk (stk H S) (Hn H) = 0 := msk_0 (fun k hk => by
        cases hs : stk H S k
        · rfl
        · exact absurd (decide_eq_true ⟨k, hk, hs⟩) c2)
      obtain ⟨x, hx, g, hg, hb⟩ := c_openX hl ha hW hS hH hM
      by_cases c3 : d = ned H S
      · rw [if_pos c3]
        refine ⟨lN (msk (fun p => gop H S p && rwb (rg (mi S)) (Hn H) (Hn H) p) 64), WJ_o (w_Mu_hopefulPairs a _ hl ha ?_), ?_⟩
        · refine WE_i ht ?_
          show if nI d - nI (ned H S) < 0 then _ else _
          rw [if_neg e0]
          refine WE_i (c_stuck hl ha hW hS hH hM) ?_
          rw [z, if_pos (by decide)]
          show if nI d - nI (ned H S) = 0 then _ else _
          rw [if_pos (by rw [nI_subN (by omega), nI_eq0 (by omega)]; omega)]
          refine WJ_i (c_openPairs hl ha hW hS hH hM) ?_
          refine WJ_i (c_pairsWithin hl ha hW hS hH hM) ?_
          rw [lN_and]
          refine congrArg lN (Nat.eq_of_testBit_eq (fun i => ?_))
          rw [Nat.testBit_and, msk_tb, msk_tb, msk_tb]
          cases decide (i < 64) <;> cases gop H S i <;> rfl
        · refine ⟨_, rfl, ?_⟩
          rw [opl_bl n8]
          unfold bl
          rw [List.filter_filter]
          refine List.filter_congr (fun p _ => ?_)
          unfold rwb gop gpr
          by_cases d1 : p / 8 < p % 8
          · by_cases d2 : p % 8 < Hn H
            · have : p / 8 < Hn H := by omega
              simp [d1, d2, this, Bool.and_comm]
            · simp [d2]
          · simp [d1]
      · rw [if_neg c3]
        refine ⟨x, WJ_o (w_Mu_hopefulPairs a _ hl ha ?_), g, hg, hb⟩
        refine WE_i ht ?_
        show if nI d - nI (ned H S) < 0 then _ else _
        rw [if_neg e0]
        refine WE_i (c_stuck hl ha hW hS hH hM) ?_
        rw [z, if_pos (by decide)]
        show if nI d - nI (ned H S) = 0 then _ else _
        rw [if_neg (by rw [nI_subN (by omega), nI_eq0 (by omega)]; omega)]
        exact WJ_i hx rfl
end CR

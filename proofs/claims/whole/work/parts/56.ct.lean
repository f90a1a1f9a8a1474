/-! ===== the class: counts over all rows ===== -/
section CT
variable {H : Hou} {L : Option Lws} {S : Mud} {a h k e p d : Nat} {σ s : JH}
/-- MOST, as the class looks for it -/
def cbw (H : Hou) (S : Mud) : Nat := cntB (fun k => th S k && !ctb H k) (Hn H)
def raR (H : Hou) : Nat → Mud → Nat → Nat
  | 0, S, c => max c (wrs H S + 1)
  | d + 1, S, c => if c ≤ min (cbw H S) (wrs H S + 2 * (d + 1)) then (opl H S).foldl (fun c p => raR H d (trnC S p) c) c else c
theorem mN_lt {w c : Nat} (hw : w < 1000) (hc : c < 10) : (mN c < nI w) = (c ≤ w) := by
  unfold mN
  by_cases h : c = 0
  · rw [if_pos h, eq_iff_iff]
    have h0 : (0 : Int32) ≤ nI w := by rw [nI_0le (by omega)]; trivial
    exact ⟨fun _ => by omega, fun _ => Int32.lt_of_lt_of_le (by decide) h0⟩
  · rw [if_neg h, nI_ltN (by omega) (by omega), eq_iff_iff]
    omega
theorem j_maxN {w c : Nat} (hl : Ly σ) (hw : w ≤ 8) (hc : c < 10) : q_Ma_max [.int (mN c), .int (nI w)] σ = some (some (.int (mN (max c (w + 1)))), σ) := by
  refine WE_o (w_Ma_max _ _ hl ?_)
  simp only [mN_lt (show w < 1000 by omega) hc]
  by_cases z : c ≤ w
  · rw [if_pos z, Nat.max_eq_right (by omega)]; unfold mN; rw [if_neg (by omega), Nat.add_sub_cancel]
  · rw [if_neg z, Nat.max_eq_left (by omega)]
def PRa (b j : Nat) : Prop := PM 110 b j ∨ (b = 107 ∧ j = 4)
theorem raR_lt (hW : WH H) : ∀ (d : Nat) (S : Mud) (c : Nat), c < 10 → raR H d S c < 10 := by
  intro d
  induction d with
  | zero => intro S c hc; have := wrs_le S hW; unfold raR; omega
  | succ d ih =>
    intro S c hc
    have hl : ∀ (l : List Nat) (c : Nat), c < 10 → l.foldl (fun c p => raR H d (trnC S p) c) c < 10 := by
      intro l
      induction l with
      | nil => intro c hc; exact hc
      | cons p l ihl => intro c hc; exact ihl _ (ih _ _ hc)
    unfold raR
    split
    · exact hl _ _ hc
    · exact hc
set_option maxHeartbeats 1000000 in
theorem c_raise (hW : WH H) : ∀ (m d : Nat), d < m → ∀ (S : Mud) (c : Nat) (σ : JH), d ≤ 3 → WS H S → Cs H S 110 h σ → c < 10 → σ.2.1 107 4 = mN c → WM (g_Ta_raise m 0) [.ref 107, .int (nI d)] σ (kV fun s => Cs H S 110 h s ∧ Fi PRa σ s ∧ s.2.1 107 4 = mN (raR H d S c)) := by
  intro m
  induction m with
  | zero => intro d h; omega
  | succ m ih =>
    intro d hd S c σ hd3 hS hC hc hv
    have n8 := hW.1
    have hw := wrs_le S hW
    refine w_Ta_raise (g_Ta_raise m) _ hC.1 ?_
    cases d with
    | zero =>
      rw [if_neg (by decide)]
      refine WE_i (c_wrongOnes hC.1 mu_110 hW hC.2.2.2) ?_
      rw [hv]
      refine WE_i (j_maxN hC.1 hw hc) ?_
      unfold lt
      have f : Fi (fun b j => b = 107 ∧ j = 4) σ (jh_setI σ 107 4 (mN (max c (wrs H S + 1)))) := Fi_s (Fi_r _ _) ⟨rfl, rfl⟩
      exact ⟨Cs_f hC f (fun j _ => by omega) (fun b j _ _ => by omega) (fun b j _ _ => by omega), Fi_m f (fun b j q => Or.inr q), rI_eq⟩
    | succ d =>
      rw [if_pos (by rw [nI_0lt (by omega)]; omega)]
      obtain ⟨m0, m1, m2, m3, m4, m5, m6, m7, m8⟩ := hC.2.2.2
      have hcb : cbw H S ≤ 8 := Nat.le_trans (cntB_le _ _) n8
      rw [m4, m0, hC.2.2.1.2.2.1, bk_sub]
      refine WE_i (j_bcm hC.1 n8) ?_
      refine WE_i (c_wrongOnes hC.1 mu_110 hW hC.2.2.2) ?_
      rw [nI_mulN, nI_add]
      refine WE_i (j_min hC.1 (by show cbw H S < _; omega) (by omega)) ?_
      show if σ.2.1 107 4 < nI (min (cbw H S) (wrs H S + 2 * (d + 1))) then _ else _
      rw [hv]
      simp only [mN_lt (show min (cbw H S) (wrs H S + 2 * (d + 1)) < 1000 by omega) hc]
      by_cases z : c ≤ min (cbw H S) (wrs H S + 2 * (d + 1))
      · have e0 : raR H (d + 1) S c = (opl H S).foldl (fun c p => raR H d (trnC S p) c) c := by show (if _ then _ else _) = _; rw [if_pos z]
        rw [if_pos z, e0]
        obtain ⟨x, hx, hX⟩ := c_openX hC.1 mu_110 hW hS hC.2.2.1 hC.2.2.2
        refine WJ_i hx ?_
        refine WE_i (isX_bc hC.1 hX) ?_
        refine Lp5_inv (I := fun m v u _ _ t => ∃ l c', m = l.length ∧ isL v u l ∧ (∀ q ∈ l, q ∈ opl H S) ∧ Cs H S 110 h t ∧ Fi PRa σ t ∧ c' < 10 ∧ t.2.1 107 4 = mN c' ∧ l.foldl (fun c p => raR H d (trnC S p) c) c' = (opl H S).foldl (fun c p => raR H d (trnC S p) c) c) ?_ (m := (opl H S).length) ⟨opl H S, c, rfl, ⟨hX, rfl⟩, fun q h => h, hC, Fi_r _ _, hc, hv, rfl⟩
        rintro m' v u o1 o2 t ⟨l, c', rfl, hL, hs, hCt, hft, hc', hvt, hfold⟩ X hX'
        refine ⟨hCt.1, ?_⟩
        cases l with
        | nil =>
          rw [if_pos (isL_nil hL).1, ← hfold]
          exact ⟨hCt, hft, hvt⟩
        | cons p l =>
          have hcn := isL_cons hL
          have hp := hs p (List.mem_cons_self ..)
          obtain ⟨p1, p2, p3, p4, p5⟩ := opl_mem hW.1 hp
          rw [if_neg hcn.2.1]
          rw [List.foldl_cons] at hfold
          refine WE_i ((isX_cons hL.1).2.2 t hCt.1) ?_
          refine WE_i (c_lesser hCt.1 p4) ?_
          refine WE_i ((isX_cons hL.1).2.2 t hCt.1) ?_
          refine WE_i (c_greater hCt.1 p4) ?_
          by_cases hd1 : d = 0
          · rw [if_pos (by rw [hd1])]
            refine WE_i (c_wrongBehind mu_110 hW hS hCt p2 p3 (by omega)) ?_
            rw [hvt]
            refine WE_i (j_maxN hCt.1 (wrs_le _ hW) hc') ?_
            unfold lt
            have f : Fi (fun b j => b = 107 ∧ j = 4) t (jh_setI t 107 4 (mN (max c' (wrs H (trnC S p) + 1)))) := Fi_s (Fi_r _ _) ⟨rfl, rfl⟩
            subst hd1
            exact hX' l.length _ _ _ _ _ (by rw [List.length_cons]; omega) ⟨l, _, rfl, hcn.1, fun q hq => hs q (List.mem_cons_of_mem _ hq), Cs_f hCt f (fun j _ => by omega) (fun b j _ _ => by omega) (fun b j _ _ => by omega), Fi_t hft (Fi_m f (fun b j q => Or.inr q)), raR_lt hW 0 (trnC S p) c' hc', rI_eq, hfold⟩
          · rw [if_neg (by rw [nI_eqN (by omega) (by omega)]; omega)]
            refine c_chg mu_110 hW hS hCt p2 p3 (by omega) fun t1 hC1 hf1 => ⟨hC1.1, ?_⟩
            rw [nI_subN (by omega), Nat.add_sub_cancel]
            refine WM_V (ih d (by omega) (trnC S p) c' t1 (by omega) (WS_trnC hW hS hp) hC1 hc' ((hf1.2.2 107 4 (by unfold PM; omega)).trans hvt)) fun t2 ⟨hC2, hf2, hv2⟩ => ⟨hC2.1, ?_⟩
            refine c_unchg mu_110 hW hS hC2 p2 p3 (by omega) (may_th p5).2.2.2.1 fun t3 hC3 hf3 => ⟨hC3.1, ?_⟩
            exact hX' l.length _ _ _ _ _ (by rw [List.length_cons]; omega) ⟨l, _, rfl, hcn.1, fun q hq => hs q (List.mem_cons_of_mem _ hq), hC3, Fi_t hft (Fi_t (Fi_m hf1 (fun b j q => Or.inl q)) (Fi_t hf2 (Fi_m hf3 (fun b j q => Or.inl q)))), raR_lt hW d (trnC S p) c' hc', (hf3.2.2 107 4 (by unfold PM; omega)).trans hv2, hfold⟩
      · have e0 : raR H (d + 1) S c = c := by show (if _ then _ else _) = _; rw [if_neg z]
        rw [if_neg z, e0]
        exact ⟨hC, Fi_r _ _, by first | exact hv | rfl⟩
/-- CHANCE, as the class looks for it -/
def shR (H : Hou) : Nat → Nat → Mud → Nat
  | 0, sh, S => if wrs H S = 0 then sh else 0
  | d + 1, sh, S => if (opl H S).length = 0 then (if wrs H S = 0 then sh else 0) else ((hop H S (d + 1)).map (fun p => shR H d (sh / (opl H S).length) (trnC S p))).sum
set_option maxHeartbeats 1000000 in
theorem c_share (hW : WH H) : ∀ (m d : Nat), d < m → ∀ (S : Mud) (sh : Nat) (σ : JH), d ≤ 3 → sh ≤ 1000000 → WS H S → Cs H S 110 h σ → WM (g_Ta_shareAtHome m 0) [.ref 107, .int (nI sh), .int (nI d)] σ (kI fun y s => y = nI (shR H d sh S) ∧ Cs H S 110 h s ∧ Fi (PM 110) σ s) := by
  intro m
  induction m with
  | zero => intro d h; omega
  | succ m ih =>
    intro d hd S sh σ hd3 hsh hS hC
    have n8 := hW.1
    refine w_Ta_shareAtHome (g_Ta_shareAtHome m) _ _ hC.1 ?_
    simp only [JJ1, ast_0 hW hC]
    have leaf : ∀ r, r = (if wrs H S = 0 then sh else 0) → (if wrs H S = 0 then (nI sh = nI r ∧ Cs H S 110 h σ ∧ Fi (PM 110) σ σ) else (nI 0 = nI r ∧ Cs H S 110 h σ ∧ Fi (PM 110) σ σ)) := by
      intro r hr
      by_cases c : wrs H S = 0
      · rw [if_pos c, hr, if_pos c]; exact ⟨rfl, hC, Fi_r _ _⟩
      · rw [if_neg c, hr, if_neg c]; exact ⟨rfl, hC, Fi_r _ _⟩
    cases d with
    | zero =>
      rw [if_neg (by decide), if_pos (by decide)]
      exact leaf _ rfl
    | succ d =>
      rw [if_pos (by rw [nI_0lt (by omega)]; omega)]
      obtain ⟨x0, hx0, hX0⟩ := c_openX hC.1 mu_110 hW hS hC.2.2.1 hC.2.2.2
      refine WJ_i hx0 ?_
      refine WE_i (isX_bc hC.1 hX0) ?_
      have hlen : (opl H S).length ≤ 64 := isX_len hX0
      by_cases c : (opl H S).length = 0
      · rw [if_pos (by rw [nI_eq0 (by omega)]; exact c)]
        refine leaf _ ?_
        show (if _ then _ else _) = _
        rw [if_pos c]
      · rw [if_neg (by rw [nI_eq0 (by omega)]; exact c)]
        refine ⟨by rw [nI_eq0 (by omega)]; exact c, ?_⟩
        have e : shR H (d + 1) sh S = ((hop H S (d + 1)).map (fun p => shR H d (sh / (opl H S).length) (trnC S p))).sum := by
          show (if _ then _ else _) = _
          rw [if_neg c]
        rw [e]
        obtain ⟨x, hx, hX⟩ := c_hopeful (d := d + 1) hC.1 mu_110 hW hS hC.2.2.1 hC.2.2.2 (by omega)
        refine WJ_i hx ?_
        refine WE_i (isX_bc hC.1 hX) ?_
        have hsub : ∀ q ∈ hop H S (d + 1), q ∈ opl H S := fun q => hop_sub
        generalize hop H S (d + 1) = l0 at hX hsub
        refine Lp6_inv (I := fun m a v u _ _ t => ∃ l r, m = l.length ∧ isL v u l ∧ a = nI r ∧ (∀ q ∈ l, q ∈ opl H S) ∧ Cs H S 110 h t ∧ Fi (PM 110) σ t ∧ r + (l.map (fun p => shR H d (sh / (opl H S).length) (trnC S p))).sum = (l0.map (fun p => shR H d (sh / (opl H S).length) (trnC S p))).sum) ?_ (m := l0.length) ⟨l0, 0, rfl, ⟨hX, rfl⟩, rfl, hsub, hC, Fi_r _ _, Nat.zero_add _⟩
        rintro m' a v u o1 o2 t ⟨l, r, rfl, hL, rfl, hs, hCt, hft, hsum⟩ X hX'
        refine ⟨hCt.1, ?_⟩
        cases l with
        | nil =>
          rw [if_pos (isL_nil hL).1, ← hsum]
          exact ⟨rfl, hCt, hft⟩
        | cons p l =>
          have hcn := isL_cons hL
          have hp := hs p (List.mem_cons_self ..)
          obtain ⟨p1, p2, p3, p4, p5⟩ := opl_mem hW.1 hp
          rw [if_neg hcn.2.1]
          rw [List.map_cons, List.sum_cons] at hsum
          refine WE_i ((isX_cons hL.1).2.2 t hCt.1) ?_
          refine WE_i (c_lesser hCt.1 p4) ?_
          refine WE_i ((isX_cons hL.1).2.2 t hCt.1) ?_
          refine WE_i (c_greater hCt.1 p4) ?_
          refine c_chg mu_110 hW hS hCt p2 p3 (by omega) fun t1 hC1 hf1 => ⟨hC1.1, ?_⟩
          rw [nI_subN (by omega), Nat.add_sub_cancel, nI_divN (by omega) (by omega)]
          refine WM_I (ih d (by omega) (trnC S p) (sh / (opl H S).length) t1 (by omega) (by have := Nat.div_le_self sh (opl H S).length; omega) (WS_trnC hW hS hp) hC1) fun y t2 ⟨hy, hC2, hf2⟩ => ⟨hC2.1, ?_⟩
          refine c_unchg mu_110 hW hS hC2 p2 p3 (by omega) (may_th p5).2.2.2.1 fun t3 hC3 hf3 => ⟨hC3.1, ?_⟩
          exact hX' l.length _ _ _ _ _ _ (by rw [List.length_cons]; omega) ⟨l, r + shR H d (sh / (opl H S).length) (trnC S p), rfl, hcn.1, by rw [hy, nI_add], fun q hq => hs q (List.mem_cons_of_mem _ hq), hC3, Fi_t hft (Fi_t hf1 (Fi_t hf2 hf3)), by omega⟩
end CT
/-! what was seen -/
theorem lN_sr6 {m : Nat} (hm : m < 2 ^ 63) : lN m >>> ((nI 6).toInt64 &&& 63) = lN (m / 64) := by
  refine i64_ext (fun i hi => ?_)
  show (BitVec.sshiftRight' (lN m).toBitVec (((nI 6).toInt64 &&& 63).toBitVec.smod 64)).getLsbD i = _
  have h6 : (((nI 6).toInt64 &&& 63).toBitVec.smod 64).toNat = 6 := by decide
  show (BitVec.sshiftRight (lN m).toBitVec (((nI 6).toInt64 &&& 63).toBitVec.smod 64).toNat).getLsbD i = _
  rw [h6, BitVec.getLsbD_sshiftRight]
  have hmsb : (lN m).toBitVec.msb = false := by
    rw [BitVec.msb_eq_getLsbD_last, lN_bit, Nat.testBit_lt_two_pow hm]; simp
  rw [hmsb, lN_bit, lN_bit, show 64 = 2 ^ 6 from rfl, Nat.testBit_div_two_pow]
  by_cases c : 6 + i < 2 ^ 6
  · have hi2 : ¬ 2 ^ 6 ≤ i := by omega
    simp [c, hi, hi2, Nat.add_comm]
    intro _
    omega
  · have : m.testBit (i + 6) = false := Nat.testBit_lt_two_pow (Nat.lt_of_lt_of_le hm (Nat.pow_le_pow_right (by omega) (by omega)))
    simp [c, this]
def snE (sn : Sen) : Nat := sn.foldl (fun v q => 64 * v + (8 * q.1 + q.2)) 0
theorem snE_app (sn : Sen) (q : Nat × Nat) : snE (sn ++ [q]) = 64 * snE sn + (8 * q.1 + q.2) := by
  unfold snE
  rw [List.foldl_append]
  rfl
theorem snE_lt {sn : Sen} (h : ∀ q ∈ sn, q.1 < 8 ∧ q.2 < 8) : snE sn < 64 ^ sn.length := by
  have key : ∀ (l : Sen) (v : Nat) (j : Nat), (∀ q ∈ l, q.1 < 8 ∧ q.2 < 8) → v < 64 ^ j → l.foldl (fun v q => 64 * v + (8 * q.1 + q.2)) v < 64 ^ (j + l.length) := by
    intro l
    induction l with
    | nil => intro v j _ hv; exact hv
    | cons q l ih =>
      intro v j hq hv
      have h1 := hq q (List.mem_cons_self ..)
      rw [List.foldl_cons, List.length_cons, show j + (l.length + 1) = (j + 1) + l.length by omega]
      refine ih _ (j + 1) (fun r hr => hq r (List.mem_cons_of_mem _ hr)) ?_
      rw [Nat.pow_succ]
      omega
  have := key sn 0 0 h (by decide)
  rwa [Nat.zero_add] at this
def cSn (H : Hou) (sn : Sen) (a : Nat) (s : JH) : Prop := s.2.2.1 a 10 = lN (snE sn) ∧ s.2.1 a 11 = nI sn.length ∧ sn.length ≤ 8 ∧ ∀ q ∈ sn, q.1 < Hn H ∧ q.2 < Hn H
theorem snE_63 {H : Hou} {sn : Sen} (n8 : Hn H ≤ 8) (h1 : sn.length ≤ 8) (h2 : ∀ q ∈ sn, q.1 < Hn H ∧ q.2 < Hn H) : snE sn < 2 ^ 63 := by
  have h3 := snE_lt (sn := sn) (fun q hq => by have := h2 q hq; omega)
  have h4 : 64 ^ sn.length ≤ 64 ^ 8 := Nat.pow_le_pow_right (by omega) h1
  have h5 : 64 ^ 8 < 2 ^ 63 := by decide
  omega
theorem c_fitsSeen {H : Hou} {S : Mud} {sn : Sen} {a h : Nat} {op as : Nat → Bool} {σ : JH} (hl : Ly σ) (ha : IsMu a) (hW : WH H) (hS : ∀ k, k < Hn H → mi S k < Hn H) (hM : cMx H S op as a h σ) (hN : cSn H sn a σ) : q_Mu_fitsSeen [.ref a] σ = some (some (.int (bI (fits sn S))), σ) := by
  have n8 := hW.1
  obtain ⟨h1, h2, h3, h4⟩ := hN
  refine WE_o (w_Mu_fitsSeen a hl ha ?_)
  rw [h1, h2]
  refine Lp3_inv (I := fun m v1 v2 _ => ∃ i, i ≤ sn.length ∧ m = sn.length - i ∧ v2 = nI i ∧ v1 = lN (snE (sn.take (sn.length - i))) ∧ (sn.take (sn.length - i)).all (fun q => decide (mi S q.1 = q.2)) = fits sn S) ?_ (m := sn.length) ⟨0, by omega, by omega, rfl, by rw [Nat.sub_zero, List.take_length], by rw [Nat.sub_zero, List.take_length]; rfl⟩
  rintro m v1 v2 o ⟨i, hi, rfl, rfl, rfl, hb⟩ X hX
  by_cases c : sn.length ≤ i
  · rw [if_pos (by rw [nI_leN (by omega) (by omega)]; exact c)]
    rw [show sn.length - i = 0 by omega, List.take_zero, List.all_nil] at hb
    rw [← hb]; rfl
  · rw [if_neg (by rw [nI_leN (by omega) (by omega)]; exact c)]
    obtain ⟨j, hj⟩ : ∃ j, sn.length - i = j + 1 := ⟨sn.length - i - 1, by omega⟩
    have hjl : j < sn.length := by omega
    have hg : sn[j]? = some sn[j] := List.getElem?_eq_getElem hjl
    have tk : sn.take (j + 1) = sn.take j ++ [sn[j]] := by rw [List.take_add_one, hg]; rfl
    obtain ⟨g1, g2⟩ := h4 _ (List.getElem_mem hjl)
    have h63 := snE_63 (sn := sn.take (j + 1)) n8 (by rw [List.length_take]; omega) (fun q hq => h4 q (List.mem_of_mem_take hq))
    rw [hj] at hb ⊢
    rw [tk] at hb h63 ⊢
    generalize sn[j] = q at g1 g2 hb h63 tk
    rw [snE_app] at h63 ⊢
    rw [List.all_append] at hb
    have e1 : (lN (64 * snE (sn.take j) + (8 * q.1 + q.2)) &&& 63).toInt32 = nI (8 * q.1 + q.2) := by
      rw [show (63 : Int64) = lN (2 ^ 6 - 1) from rfl, lN_and, lN_i, Nat.and_two_pow_sub_one_eq_mod]
      congr 1
      omega
    have e2 : ∀ z, z < 64 → nI z >>> (nI 3 &&& 31) = nI (z / 8) ∧ nI z &&& nI 7 = nI (z % 8) := by decide
    obtain ⟨e3, e4⟩ := e2 (8 * q.1 + q.2) (by omega)
    rw [e1, e3, e4, show (8 * q.1 + q.2) / 8 = q.1 by omega, show (8 * q.1 + q.2) % 8 = q.2 by omega, lN_sr6 h63, show (64 * snE (sn.take j) + (8 * q.1 + q.2)) / 64 = snE (sn.take j) by omega]
    have b1 := hS q.1 g1
    simp (disch := omega) only [inb_nI, cl_nI, hM.2.1 q.1 g1, nI_eqN]
    refine ⟨by omega, ?_⟩
    by_cases d : mi S q.1 = q.2
    · rw [if_pos d]
      rw [List.all_cons, List.all_nil, decide_eq_true d, Bool.and_true, Bool.and_true] at hb
      exact hX _ _ _ _ (show sn.length - (i + 1) < sn.length - i by omega) ⟨i + 1, by omega, rfl, nI_add i 1, by rw [show sn.length - (i + 1) = j by omega], by rw [show sn.length - (i + 1) = j by omega]; exact hb⟩
    · rw [if_neg d]
      rw [List.all_cons, List.all_nil, decide_eq_false d, Bool.and_true, Bool.and_false] at hb
      rw [← hb]; rfl

/-! ===== the class: MUDDLES, by a table of slots ===== -/
theorem nI_sr {m c : Nat} {z : Int32} (hm : m < 2147483648) (hz : (z.toBitVec.smod 32).toNat = c) : nI m >>> z = nI (m / 2 ^ c) := by
  refine i32_ext (fun i hi => ?_)
  show (BitVec.sshiftRight (nI m).toBitVec (z.toBitVec.smod 32).toNat).getLsbD i = _
  rw [hz, BitVec.getLsbD_sshiftRight]
  have hmsb : (nI m).toBitVec.msb = false := by
    rw [BitVec.msb_eq_getLsbD_last, nI_bit, Nat.testBit_lt_two_pow (show m < 2 ^ 31 by omega)]; simp
  rw [hmsb, nI_bit, nI_bit, Nat.testBit_div_two_pow]
  by_cases q : c + i < 32
  · have hi2 : ¬ 32 ≤ i := by omega
    rw [Nat.add_comm i c]
    simp [q, hi]
  · have : m.testBit (i + c) = false := Nat.testBit_lt_two_pow (Nat.lt_of_lt_of_le hm (show 2 ^ 31 ≤ 2 ^ (i + c) from Nat.pow_le_pow_right (by omega) (by omega)))
    simp [q, this]
theorem nI_modN {a b : Nat} (ha : a < 2147483648) (hb : b < 2147483648) : nI a - nI a / nI b * nI b = nI (a % b) := by
  rw [nI_divN ha hb, nI_mulN, nI_subN (Nat.div_mul_le_self a b)]
  refine congrArg nI ?_
  have := Nat.div_add_mod a b
  rw [Nat.mul_comm] at this
  omega
theorem j_floorMod {σ : JH} {a b : Nat} (hl : Ly σ) (ha : a < 2147483648) (hb : b < 2147483648) (h0 : 0 < b) : q_Ma_floorMod [.int (nI a), .int (nI b)] σ = some (some (.int (nI (a % b))), σ) := by
  refine WE_o (w_Ma_floorMod _ _ hl ⟨by rw [nI_eq0 hb]; omega, ?_⟩)
  have hx : nI a ^^^ nI b = nI (a ^^^ b) := by
    refine i32_ext (fun i hi => ?_)
    rw [Int32.toBitVec_xor, BitVec.getLsbD_xor, nI_bit, nI_bit, nI_bit, Nat.testBit_xor]
    simp [hi]
  rw [hx, if_pos (by rw [nI_0le (Nat.xor_lt_two_pow (n := 31) ha hb)]; trivial), nI_modN ha hb]
def hs0 (v : Nat) : Nat := (v * 31 + v / 512) % 1024
/-- the table holds the codes -/
def HT (tb : Nat → Option Nat) (cs : List Nat) : Prop :=
  (∀ i, i < 1024 → ∀ v, tb i = some v → v ∈ cs) ∧ (∀ v, v ∈ cs → ∃ j, j < 1024 ∧ tb ((hs0 v + j) % 1024) = some v ∧ ∀ i, i < j → tb ((hs0 v + i) % 1024) ≠ none) ∧
  (∀ i, i < 1024 → ∀ j, j < 1024 → ∀ v, tb i = some v → tb j = some v → i = j)
def slv (o : Option Nat) : Int32 := match o with
  | none => mI 1
  | some v => nI v
def cTb (cs : List Nat) (s : JH) : Prop := s.2.1 107 3 = nI cs.length ∧ (∀ v, v ∈ cs → v < 16777216) ∧ ∃ tb, HT tb cs ∧ ∀ i, i < 1024 → s.2.1 108 i = slv (tb i)
def PTb (b j : Nat) : Prop := b = 108 ∨ (b = 107 ∧ j = 3)
theorem cTb_f {cs : List Nat} {s t : JH} {P : Nat → Nat → Prop} (f : Fi P s t) (h1 : ¬ P 107 3) (h2 : ∀ j, ¬ P 108 j) (q : cTb cs s) : cTb cs t := by
  obtain ⟨q1, q2, tb, q3, q4⟩ := q
  exact ⟨(f.2.2 _ _ h1).trans q1, q2, tb, q3, fun i hi => (f.2.2 _ _ (h2 i)).trans (q4 i hi)⟩
theorem idx_of {cs : List Nat} {v : Nat} (h : v ∈ cs) : ∃ i, i < cs.length ∧ cs[i]? = some v := by
  obtain ⟨i, hi⟩ := List.getElem?_of_mem h
  exact ⟨i, (List.getElem?_eq_some_iff.mp hi).1, hi⟩
/-- a slot is free -/
theorem HT_free {tb : Nat → Option Nat} {cs : List Nat} (h : HT tb cs) (hc : cs.length < 1000) (v : Nat) : ∃ j, j < 1024 ∧ tb ((hs0 v + j) % 1024) = none ∧ ∀ i, i < j → tb ((hs0 v + i) % 1024) ≠ none := by
  have ex : ∃ j, j < 1024 ∧ tb ((hs0 v + j) % 1024) = none := by
    refine Classical.byContradiction fun hx => ?_
    have hx : ∀ i, i < 1024 → ∃ w, tb i = some w := by
      intro i hi
      cases hw : tb i with
      | some w => exact ⟨w, rfl⟩
      | none =>
        have h0 : hs0 v < 1024 := Nat.mod_lt _ (by omega)
        refine absurd ⟨(i + 1024 - hs0 v) % 1024, Nat.mod_lt _ (by omega), ?_⟩ hx
        rw [show (hs0 v + (i + 1024 - hs0 v) % 1024) % 1024 = i by omega]
        exact hw
    have hg : ∀ i : Nat, ∃ g, i < 1024 → g < cs.length ∧ ∃ w, cs[g]? = some w ∧ tb i = some w := by
      intro i
      by_cases hi : i < 1024
      · obtain ⟨w, hw⟩ := hx i hi
        obtain ⟨g, g1, g2⟩ := idx_of (h.1 i hi w hw)
        exact ⟨g, fun _ => ⟨g1, w, g2, hw⟩⟩
      · exact ⟨0, fun q => absurd q hi⟩
    obtain ⟨g, hg⟩ := Classical.axiomOfChoice hg
    obtain ⟨i, j, h1, h2, h3⟩ := pigeon cs.length g (fun i hi => (hg i (by omega)).1)
    obtain ⟨w, w1, w2⟩ := (hg i (by omega)).2
    obtain ⟨u, u1, u2⟩ := (hg j (by omega)).2
    rw [h3, u1] at w1
    injection w1 with w1
    rw [← w1] at w2
    have := h.2.2 i (by omega) j (by omega) u w2 u2
    omega
  obtain ⟨j, h1, h2⟩ := ex
  obtain ⟨x, a, b, c⟩ := least_of (p := fun j => tb ((hs0 v + j) % 1024) = none) (n := 1024) ⟨j, h1, h2⟩
  exact ⟨x, a, b, fun i hi q => by have := c i (by omega) q; omega⟩
theorem HT_add {tb : Nat → Option Nat} {cs : List Nat} {v j : Nat} (h : HT tb cs) (hv : ¬ v ∈ cs) (hj : j < 1024) (hn : tb ((hs0 v + j) % 1024) = none) (ho : ∀ i, i < j → tb ((hs0 v + i) % 1024) ≠ none) : HT (up1 tb ((hs0 v + j) % 1024) (some v)) (cs ++ [v]) := by
  obtain ⟨h1, h2, h3⟩ := h
  have occ : ∀ i, tb i ≠ none → up1 tb ((hs0 v + j) % 1024) (some v) i ≠ none := by
    intro i hi
    unfold up1
    split
    · intro q; cases q
    · exact hi
  refine ⟨fun i hi w hw => ?_, fun w hw => ?_, fun i hi k hk w hw1 hw2 => ?_⟩
  · unfold up1 at hw
    split at hw
    · injection hw with hw; rw [← hw]; exact List.mem_append.mpr (Or.inr (List.mem_singleton.mpr rfl))
    · exact List.mem_append.mpr (Or.inl (h1 i hi w hw))
  · rcases List.mem_append.mp hw with q | q
    · obtain ⟨k, k1, k2, k3⟩ := h2 w q
      refine ⟨k, k1, ?_, fun i hi => occ _ (k3 i hi)⟩
      unfold up1
      rw [if_neg (fun z => by rw [z, hn] at k2; cases k2)]
      exact k2
    · rw [List.mem_singleton.mp q]
      exact ⟨j, hj, up1_eq _ _ _, fun i hi => occ _ (ho i hi)⟩
  · unfold up1 at hw1 hw2
    split at hw1
    · rename_i z1
      injection hw1 with hw1
      split at hw2
      · rename_i z2; rw [z1, z2]
      · rw [← hw1] at hw2; exact absurd (h1 k hk v hw2) hv
    · split at hw2
      · injection hw2 with hw2; rw [← hw2] at hw1; exact absurd (h1 i hi v hw1) hv
      · exact h3 i hi k hk w hw1 hw2
set_option maxHeartbeats 1000000 in
theorem c_addCode {σ : JH} {cs : List Nat} {v : Nat} (hl : Ly σ) (hT : cTb cs σ) (hc : cs.length < 1000) (hv : v < 16777216) : WM q_Ta_addCode [.ref 107, .int (nI v)] σ (kV fun s => Ly s ∧ Fi PTb σ s ∧ cTb (madd cs v) s) := by
  obtain ⟨t1, t2, tb, t3, t4⟩ := hT
  have h0 : hs0 v < 1024 := Nat.mod_lt _ (by omega)
  refine w_Ta_addCode _ hl ?_
  rw [nI_mulN, nI_sr (c := 9) (by omega) (by decide), nI_add]
  refine WE_i (j_floorMod hl (by omega) (by omega) (by omega)) ?_
  show Lp3 _ (nI (hs0 v)) (nI 0) σ
  have snx : ∀ i, ((hs0 v + i) % 1024 + 1) % 1024 = (hs0 v + (i + 1)) % 1024 := fun i => by omega
  have em : ∀ i, i < 1024 → ∀ w, tb i = some w → w < 16777216 := fun i hi w hw => t2 w (t3.1 i hi w hw)
  by_cases hm : v ∈ cs
  · have e : madd cs v = cs := by unfold madd; rw [if_pos hm]
    rw [e]
    obtain ⟨j, j1, j2, j3⟩ := t3.2.1 v hm
    refine Lp3_inv (I := fun m sl w s => ∃ i, i ≤ j ∧ m = j - i ∧ sl = nI ((hs0 v + i) % 1024) ∧ w = nI i ∧ s = σ) ?_ (m := j) ⟨0, by omega, by omega, by rw [Nat.add_zero, Nat.mod_eq_of_lt h0], rfl, rfl⟩
    rintro m sl w s ⟨i, hi, rfl, rfl, rfl, rfl⟩ X hX
    have hlt : (hs0 v + i) % 1024 < 1024 := Nat.mod_lt _ (by omega)
    refine ⟨hl, ?_⟩
    rw [if_neg (by rw [nI_leN (by omega) (by omega)]; omega)]
    simp (disch := omega) only [inb_nI, cl_nI, t4 _ hlt]
    refine ⟨by omega, ?_⟩
    by_cases c : i = j
    · rw [c, j2]
      show if nI v = nI v then _ else _
      rw [if_pos rfl]
      exact ⟨hl, Fi_r _ _, t1, t2, tb, t3, t4⟩
    · cases hw : tb ((hs0 v + i) % 1024) with
      | none => exact absurd hw (j3 i (by omega))
      | some u =>
        have hu := em _ hlt u hw
        have hne : u ≠ v := fun q => by
          rw [q] at hw
          have := t3.2.2 _ hlt _ (Nat.mod_lt _ (by omega)) v hw j2
          omega
        show if nI u = nI v then _ else _
        rw [if_neg (by rw [nI_eqN (by omega) (by omega)]; exact hne)]
        refine ⟨by omega, ?_⟩
        show if nI u = mI 1 then _ else _
        rw [if_neg (by rw [nI_m1 (by omega)]; exact id), nI_add, nI_modN (by omega) (by omega), snx]
        exact hX _ _ _ _ (by omega) ⟨i + 1, by omega, rfl, rfl, nI_add i 1, rfl⟩
  · have e : madd cs v = cs ++ [v] := by unfold madd; rw [if_neg hm]
    rw [e]
    obtain ⟨j, j1, j2, j3⟩ := HT_free t3 hc v
    refine Lp3_inv (I := fun m sl w s => (∃ i, i ≤ j ∧ m = j - i + 1 ∧ sl = nI ((hs0 v + i) % 1024) ∧ w = nI i ∧ s = σ) ∨ (m = 0 ∧ sl = nI ((hs0 v + j) % 1024) ∧ w = nI (j + 1) ∧ s = jh_setI (jh_setI σ 108 ((hs0 v + j) % 1024) (nI v)) 107 3 (nI (cs.length + 1)))) ?_ (m := j + 1) (Or.inl ⟨0, by omega, by omega, by rw [Nat.add_zero, Nat.mod_eq_of_lt h0], rfl, rfl⟩)
    rintro m sl w s (⟨i, hi, rfl, rfl, rfl, rfl⟩ | ⟨rfl, rfl, rfl, rfl⟩) X hX
    · have hlt : (hs0 v + i) % 1024 < 1024 := Nat.mod_lt _ (by omega)
      refine ⟨hl, ?_⟩
      rw [if_neg (by rw [nI_leN (by omega) (by omega)]; omega)]
      simp (disch := omega) only [inb_nI, cl_nI, t4 _ hlt]
      refine ⟨by omega, ?_⟩
      by_cases c : i = j
      · rw [c, j2]
        show if mI 1 = nI v then _ else _
        rw [if_neg (fun q => by rw [eq_comm, nI_m1 (by omega)] at q; exact q)]
        refine ⟨by omega, ?_⟩
        show if mI 1 = mI 1 then _ else _
        rw [if_pos rfl]
        simp (disch := omega) only [lt, rI_ne, t1, nI_add]
        exact ⟨by omega, hX _ _ _ _ (by omega) (Or.inr ⟨rfl, rfl, rfl, rfl⟩)⟩
      · cases hw : tb ((hs0 v + i) % 1024) with
        | none => exact absurd hw (j3 i (by omega))
        | some u =>
          have hu := em _ hlt u hw
          have hne : u ≠ v := fun q => by rw [q] at hw; exact hm (t3.1 _ hlt v hw)
          show if nI u = nI v then _ else _
          rw [if_neg (by rw [nI_eqN (by omega) (by omega)]; exact hne)]
          refine ⟨by omega, ?_⟩
          show if nI u = mI 1 then _ else _
          rw [if_neg (by rw [nI_m1 (by omega)]; exact id), nI_add, nI_modN (by omega) (by omega), snx]
          exact hX _ _ _ _ (by omega) (Or.inl ⟨i + 1, by omega, rfl, rfl, nI_add i 1, rfl⟩)
    · have hlt : (hs0 v + j) % 1024 < 1024 := Nat.mod_lt _ (by omega)
      have f : Fi PTb σ (jh_setI (jh_setI σ 108 ((hs0 v + j) % 1024) (nI v)) 107 3 (nI (cs.length + 1))) := Fi_s (Fi_s (Fi_r _ _) (by unfold PTb; omega)) (by unfold PTb; omega)
      have fin : Ly (jh_setI (jh_setI σ 108 ((hs0 v + j) % 1024) (nI v)) 107 3 (nI (cs.length + 1))) ∧ Fi PTb σ (jh_setI (jh_setI σ 108 ((hs0 v + j) % 1024) (nI v)) 107 3 (nI (cs.length + 1))) ∧ cTb (cs ++ [v]) (jh_setI (jh_setI σ 108 ((hs0 v + j) % 1024) (nI v)) 107 3 (nI (cs.length + 1))) := by
        refine ⟨Fi_ly f hl, f, by rw [rI_eq, List.length_append]; rfl, fun w hw => ?_, up1 tb ((hs0 v + j) % 1024) (some v), HT_add t3 hm j1 j2 j3, fun i hi => ?_⟩
        · rcases List.mem_append.mp hw with q | q
          · exact t2 w q
          · rw [List.mem_singleton.mp q]; exact hv
        · rw [rI_ne (by omega), rI]
          unfold up1
          by_cases z : i = (hs0 v + j) % 1024
          · rw [if_pos ⟨rfl, z⟩, if_pos z]; rfl
          · rw [if_neg (fun q => z q.2), if_neg z]; exact t4 i hi
      refine ⟨fin.1, ?_⟩
      by_cases z : 1024 ≤ j + 1
      · rw [if_pos (by rw [nI_leN (by omega) (by omega)]; exact z)]
        exact fin
      · rw [if_neg (by rw [nI_leN (by omega) (by omega)]; exact z)]
        simp (disch := omega) only [inb_nI, cl_nI]
        refine ⟨by omega, ?_⟩
        rw [rI_ne (by omega), rI_eq, if_pos rfl]
        exact fin
theorem c_codeOfMinds {H : Hou} {S : Mud} {h : Nat} {σ : JH} (hW : WH H) (hS : WS H S) (hC : Cs H S 110 h σ) : q_Ta_codeOfMinds [.ref 107] σ = some (some (.int (nI (mcd (mi S) (Hn H)))), σ) := by
  have n8 := hW.1
  refine WE_o (w_Ta_codeOfMinds hC.1 ?_)
  rw [hC.2.2.2.1, hC.2.2.1.1]
  refine Lp2_inv (I := fun m a v => ∃ i, i ≤ Hn H ∧ m = Hn H - i ∧ v = nI i ∧ a = nI (mcd (mi S) i)) ?_ (m := Hn H) ⟨0, by omega, by omega, rfl, rfl⟩
  rintro m a v ⟨i, hi, rfl, rfl, rfl⟩ X hX
  by_cases c : Hn H ≤ i
  · rw [if_pos (by rw [nI_leN (by omega) (by omega)]; exact c), show i = Hn H by omega]
  · rw [if_neg (by rw [nI_leN (by omega) (by omega)]; exact c)]
    simp (disch := omega) only [inb_nI, cl_nI]
    refine ⟨by omega, hX _ _ _ (by omega) ⟨i + 1, by omega, rfl, nI_add i 1, ?_⟩⟩
    rw [hC.2.2.2.2.1 i (by omega), nI_mulN, nI_add]
    rfl
def PGa (b j : Nat) : Prop := PM 110 b j ∨ PTb b j
set_option maxHeartbeats 1000000 in
theorem c_gather {H : Hou} {h : Nat} (hW : WH H) : ∀ (m d : Nat), d < m → ∀ (S : Mud) (cs : List Nat) (σ : JH), d ≤ 2 → cs.length + 28 ^ d ≤ 790 → WS H S → Cs H S 110 h σ → cTb cs σ → WM (g_Ta_gather m 0) [.ref 107, .int (nI d)] σ (kV fun s => Cs H S 110 h s ∧ Fi PGa σ s ∧ cTb (mudR H d S cs) s) := by
  intro m
  induction m with
  | zero => intro d h; omega
  | succ m ih =>
    intro d hd S cs σ hd2 hcs hS hC hT
    have n8 := hW.1
    refine w_Ta_gather (g_Ta_gather m) _ hC.1 ?_
    cases d with
    | zero =>
      rw [if_neg (by decide)]
      refine WE_i (c_codeOfMinds hW hS hC) ?_
      refine WM_V (c_addCode hC.1 hT (by omega) (mcd_8 hW hS)) fun s ⟨l, f, q⟩ => ⟨l, Cs_f hC f (fun j _ => by unfold PTb; omega) (fun b j _ _ => by unfold PTb; omega) (fun b j _ _ => by unfold PTb; omega), Fi_m f (fun b j q => Or.inr q), q⟩
    | succ d =>
      rw [if_pos (by rw [nI_0lt (by omega)]; omega)]
      have h28 := opl_28 S n8
      have hpow : (opl H S).length * 28 ^ d ≤ 28 * 28 ^ d := Nat.mul_le_mul_right _ h28
      rw [Nat.pow_succ] at hcs
      obtain ⟨x, hx, hX⟩ := c_openX hC.1 mu_110 hW hS hC.2.2.1 hC.2.2.2
      refine WJ_i hx ?_
      refine WE_i (isX_bc hC.1 hX) ?_
      refine Lp5_inv (I := fun m v u _ _ t => ∃ l cs', m = l.length ∧ isL v u l ∧ (∀ q ∈ l, q ∈ opl H S) ∧ Cs H S 110 h t ∧ Fi PGa σ t ∧ cs'.length + l.length * 28 ^ d ≤ 790 ∧ cTb cs' t ∧ l.foldl (fun cs p => mudR H d (trnC S p) cs) cs' = mudR H (d + 1) S cs) ?_ (m := (opl H S).length) ⟨opl H S, cs, rfl, ⟨hX, rfl⟩, fun q h => h, hC, Fi_r _ _, by omega, hT, rfl⟩
      rintro m' v u o1 o2 t ⟨l, cs', rfl, hL, hs, hCt, hft, hlen, hTt, hfold⟩ X hX'
      refine ⟨hCt.1, ?_⟩
      cases l with
      | nil =>
        rw [if_pos (isL_nil hL).1, ← hfold]
        exact ⟨hCt, hft, hTt⟩
      | cons p l =>
        have hcn := isL_cons hL
        have hp := hs p (List.mem_cons_self ..)
        obtain ⟨p1, p2, p3, p4, p5⟩ := opl_mem hW.1 hp
        rw [if_neg hcn.2.1]
        rw [List.foldl_cons] at hfold
        rw [List.length_cons, Nat.succ_mul] at hlen
        have hml := mudR_len n8 d (trnC S p) cs'
        refine WE_i ((isX_cons hL.1).2.2 t hCt.1) ?_
        refine WE_i (c_lesser hCt.1 p4) ?_
        refine WE_i ((isX_cons hL.1).2.2 t hCt.1) ?_
        refine WE_i (c_greater hCt.1 p4) ?_
        refine c_chg mu_110 hW hS hCt p2 p3 (by omega) fun t1 hC1 hf1 => ⟨hC1.1, ?_⟩
        rw [nI_subN (by omega), Nat.add_sub_cancel]
        refine WM_V (ih d (by omega) (trnC S p) cs' t1 (by omega) (by omega) (WS_trnC hW hS hp) hC1 (cTb_f hf1 (by unfold PM; omega) (fun j => by unfold PM; omega) hTt)) fun t2 ⟨hC2, hf2, hT2⟩ => ⟨hC2.1, ?_⟩
        refine c_unchg mu_110 hW hS hC2 p2 p3 (by omega) (may_th p5).2.2.2.1 fun t3 hC3 hf3 => ⟨hC3.1, ?_⟩
        exact hX' l.length _ _ _ _ _ (by rw [List.length_cons]; omega) ⟨l, _, rfl, hcn.1, fun q hq => hs q (List.mem_cons_of_mem _ hq), hC3, Fi_t hft (Fi_t (Fi_m hf1 (fun b j q => Or.inl q)) (Fi_t hf2 (Fi_m hf3 (fun b j q => Or.inl q)))), by omega, cTb_f hf3 (by unfold PM; omega) (fun j => by unfold PM; omega) hT2, hfold⟩

/-! ===== the class: ROWS, MUDDLES ===== -/
/-- ints and longs within P changed, no references -/
def Fj (P : Nat → Nat → Prop) (σ s : JH) : Prop := s.1 = σ.1 ∧ s.2.2.2 = σ.2.2.2 ∧ (∀ b j, ¬ P b j → s.2.1 b j = σ.2.1 b j) ∧ (∀ b j, ¬ P b j → s.2.2.1 b j = σ.2.2.1 b j)
section FJ
variable {P Q : Nat → Nat → Prop} {σ s t : JH}
theorem Fj_r (P : Nat → Nat → Prop) (σ : JH) : Fj P σ σ := ⟨rfl, rfl, fun _ _ _ => rfl, fun _ _ _ => rfl⟩
theorem Fj_t (h : Fj P σ s) (h' : Fj P s t) : Fj P σ t := ⟨h'.1.trans h.1, h'.2.1.trans h.2.1, fun b j q => (h'.2.2.1 b j q).trans (h.2.2.1 b j q), fun b j q => (h'.2.2.2 b j q).trans (h.2.2.2 b j q)⟩
theorem Fj_m (h : Fj P σ s) (hm : ∀ b j, P b j → Q b j) : Fj Q σ s := ⟨h.1, h.2.1, fun b j q => h.2.2.1 b j (fun p => q (hm b j p)), fun b j q => h.2.2.2 b j (fun p => q (hm b j p))⟩
theorem Fi_j (h : Fi P σ s) : Fj P σ s := ⟨h.1, by rw [h.2.1], h.2.2, fun b j _ => by rw [h.2.1]⟩
theorem Fj_i (h : Fj P σ s) : Fi P σ (σ.1, s.2.1, σ.2.2) := ⟨rfl, rfl, h.2.2.1⟩
theorem Fj_ly (h : Fj P σ s) (hl : Ly σ) : Ly s := by
  obtain ⟨h1, h2, _⟩ := h
  unfold Ly at hl ⊢
  rw [h1, h2]
  exact hl
theorem Fj_sI {a k : Nat} {x : Int32} (h : Fj P σ s) (hp : P a k) : Fj P σ (jh_setI s a k x) := Fj_t h (Fi_j (Fi_s (Fi_r _ _) hp))
theorem Fj_sJ {a k : Nat} {x : Int64} (h : Fj P σ s) (hp : P a k) : Fj P σ (jh_setJ s a k x) := ⟨h.1, h.2.1, h.2.2.1, fun b j q => by
  rw [rJ, if_neg (fun e => q (by rw [e.1, e.2]; exact hp))]
  exact h.2.2.2 b j q⟩
theorem Fj_g (h : Fj P σ s) : Fg P σ s := ⟨h.1, h.2.2.1, h.2.2.2, fun b j _ => by rw [h.2.1]⟩
end FJ
theorem cMx_j {H : Hou} {S : Mud} {op as : Nat → Bool} {a h : Nat} {s t : JH} {P : Nat → Nat → Prop} (f : Fj P s t) (h1 : ∀ j, j ≤ 8 → ¬ P a j) (h2 : ∀ b j, a < b → b < a + 4 → ¬ P b j) (q : cMx H S op as a h s) : cMx H S op as a h t := by
  have g : cMx H S op as a h (s.1, t.2.1, s.2.2) := cMx_f (Fj_i f) h1 h2 q
  obtain ⟨m0, m1⟩ := g
  refine ⟨?_, m1⟩
  rw [← m0]
  unfold rf
  rw [f.2.1]
theorem Cs_j {H : Hou} {S : Mud} {a h : Nat} {s t : JH} {P : Nat → Nat → Prop} (q : Cs H S a h s) (f : Fj P s t) (h1 : ∀ j, j ≤ 8 → ¬ P a j) (h2 : ∀ b j, a < b → b < a + 4 → ¬ P b j) (h3 : ∀ b j, (69 ≤ b ∧ h ≤ b) → (b < 88 ∧ b < h + 8) → ¬ P b j) : Cs H S a h t := by
  have hh := ho_lt q.2.1
  have g : cH H h (s.1, t.2.1, s.2.2) := cH_f (Fj_i f) (fun b j g1 g2 => h3 b j (by omega) (by omega)) q.2.2.1
  exact ⟨Fj_ly f q.1, q.2.1, g, cMx_j f h1 h2 q.2.2.2⟩
theorem cSn_j {H : Hou} {sn : Sen} {a : Nat} {s t : JH} {P : Nat → Nat → Prop} (f : Fj P s t) (h1 : ¬ P a 10) (h2 : ¬ P a 11) (q : cSn H sn a s) : cSn H sn a t := ⟨(f.2.2.2 _ _ h1).trans q.1, (f.2.2.1 _ _ h2).trans q.2.1, q.2.2⟩
abbrev Crs : Type := Nat × (Nat → Bool) × (Nat → Bool) × (Nat → Nat)
def cadd (H : Hou) (mnd : Bool) (S : Mud) (pre : List Nat) (st : Crs) : Crs := (st.1 + 1, (fun p => st.2.1 p && decide (p ∈ pre)), (fun p => st.2.2.1 p || decide (p ∈ pre)), (fun q => st.2.2.2 q + if mnd = true ∧ q / 8 < Hn H ∧ mi S (q / 8) = q % 8 then 1 else 0))
def frR (H : Hou) (sn : Sen) (mnd : Bool) : Nat → Mud → List Nat → Crs → Crs
  | 0, S, pre, st => if fits sn S = true then cadd H mnd S pre st else st
  | d + 1, S, pre, st => (opl H S).foldl (fun st p => frR H sn mnd d (trnC S p) (pre ++ [p]) st) st
def cRo (mnd : Bool) (st : Crs) (s : JH) : Prop := s.2.1 107 5 = nI st.1 ∧ s.2.2.1 107 6 = lN (msk st.2.1 64) ∧ s.2.2.1 107 7 = lN (msk st.2.2.1 64) ∧ (∀ q, q < 64 → s.2.1 109 q = nI (st.2.2.2 q)) ∧ s.2.1 107 8 = bI mnd
def PCr (b j : Nat) : Prop := b = 109 ∨ (b = 107 ∧ 5 ≤ j ∧ j ≤ 7)
theorem cRo_j {mnd : Bool} {st : Crs} {s t : JH} {P : Nat → Nat → Prop} (f : Fj P s t) (h1 : ∀ j, 5 ≤ j → j ≤ 8 → ¬ P 107 j) (h2 : ∀ j, ¬ P 109 j) (q : cRo mnd st s) : cRo mnd st t := ⟨(f.2.2.1 _ _ (h1 _ (by omega) (by omega))).trans q.1, (f.2.2.2 _ _ (h1 _ (by omega) (by omega))).trans q.2.1, (f.2.2.2 _ _ (h1 _ (by omega) (by omega))).trans q.2.2.1, fun p hp => (f.2.2.1 _ _ (h2 p)).trans (q.2.2.2.1 p hp), (f.2.2.1 _ _ (h1 _ (by omega) (by omega))).trans q.2.2.2.2⟩
section CU
variable {H : Hou} {S : Mud} {a h k e p d : Nat} {σ s : JH} {sn : Sen} {mnd : Bool}
set_option maxHeartbeats 1000000 in
theorem c_countRow {op as : Nat → Bool} {pre : List Nat} {st : Crs} (hl : Ly σ) (hh : IsHo h) (hW : WH H) (hS : ∀ k, k < Hn H → mi S k < Hn H) (hH : cH H h σ) (hM : cMx H S op as 110 h σ) (hN : cSn H sn 110 σ) (hT : cRo mnd st σ) : WM q_Ta_countRow [.ref 107, .long (lN (msk (fun p => decide (p ∈ pre)) 64))] σ (kV fun s => Ly s ∧ Fj PCr σ s ∧ cRo mnd (if fits sn S = true then cadd H mnd S pre st else st) s) := by
  have n8 := hW.1
  have hho := ho_lt hh
  refine w_Ta_countRow _ hl ?_
  refine WE_i (c_fitsSeen hl mu_110 hW hS hM hN) ?_
  cases hf : fits sn S
  · rw [if_pos (by decide), if_neg (by decide)]
    exact ⟨hl, Fj_r _ _, hT⟩
  · rw [if_neg (by decide), if_pos rfl]
    obtain ⟨t1, t2, t3, t4, t5⟩ := hT
    unfold lt
    have ea : ∀ f g : Nat → Bool, lN (msk f 64) &&& lN (msk g 64) = lN (msk (fun p => f p && g p) 64) := fun f g => by
      rw [lN_and]
      refine congrArg lN (Nat.eq_of_testBit_eq (fun i => ?_))
      rw [Nat.testBit_and, msk_tb, msk_tb, msk_tb]
      cases decide (i < 64) <;> cases f i <;> rfl
    have eo : ∀ f g : Nat → Bool, lN (msk f 64) ||| lN (msk g 64) = lN (msk (fun p => f p || g p) 64) := fun f g => by
      rw [lN_or]
      refine congrArg lN (Nat.eq_of_testBit_eq (fun i => ?_))
      rw [Nat.testBit_or, msk_tb, msk_tb, msk_tb]
      cases decide (i < 64) <;> cases f i <;> rfl
    have f0 : ∀ x y z, Fj PCr σ (jh_setJ (jh_setJ (jh_setI σ 107 5 x) 107 6 y) 107 7 z) := fun x y z => Fj_sJ (Fj_sJ (Fj_sI (Fj_r _ _) (by unfold PCr; omega)) (by unfold PCr; omega)) (by unfold PCr; omega)
    have w1 : ∀ x y z, (jh_setJ (jh_setJ (jh_setI σ 107 5 x) 107 6 y) 107 7 z).2.1 107 5 = x := fun x y z => by rw [rJ_1, rJ_1, rI_eq]
    have w2 : ∀ x y z, (jh_setJ (jh_setJ (jh_setI σ 107 5 x) 107 6 y) 107 7 z).2.2.1 107 6 = y := fun x y z => by rw [rJ_ne (by omega), rJ_eq]
    have w3 : ∀ x y z, (jh_setJ (jh_setJ (jh_setI σ 107 5 x) 107 6 y) 107 7 z).2.2.1 107 7 = z := fun x y z => rJ_eq
    have w4 : ∀ x y z q, (jh_setJ (jh_setJ (jh_setI σ 107 5 x) 107 6 y) 107 7 z).2.1 109 q = σ.2.1 109 q := fun x y z q => by rw [rJ_1, rJ_1, rI_ne (by omega)]
    refine Lp2_inv (I := fun m v s => ∃ i, i ≤ Hn H ∧ m = Hn H - i ∧ v = nI i ∧ Fj PCr σ s ∧ s.2.1 107 5 = nI (st.1 + 1) ∧ s.2.2.1 107 6 = lN (msk (fun p => st.2.1 p && decide (p ∈ pre)) 64) ∧ s.2.2.1 107 7 = lN (msk (fun p => st.2.2.1 p || decide (p ∈ pre)) 64) ∧ (mnd = false → i = 0) ∧ (∀ q, q < 64 → s.2.1 109 q = nI (st.2.2.2 q + if mnd = true ∧ q / 8 < i ∧ mi S (q / 8) = q % 8 then 1 else 0))) ?_ (m := Hn H) ⟨0, by omega, by omega, rfl, f0 _ _ _, ?_, ?_, ?_, fun _ => rfl, fun q hq => ?_⟩
    · rintro m v t ⟨i, hi, rfl, rfl, f, u1, u2, u3, u5, u4⟩ X hX
      refine ⟨Fj_ly f hl, ?_⟩
      have e8 : t.2.1 107 8 = bI mnd := (f.2.2.1 107 8 (by unfold PCr; omega)).trans t5
      rw [e8]
      cases mnd with
      | false =>
        rw [if_pos (by decide)]
        refine ⟨Fj_ly f hl, f, u1, u2, u3, fun q hq => ?_, e8⟩
        rw [u4 q hq]
        congr 2
      | true =>
        rw [if_neg (by decide)]
        have er : rf t 110 3 = h := by unfold rf; rw [f.2.1]; exact hM.1
        have en : t.2.1 h 8 = nI (Hn H) := (f.2.2.1 h 8 (by unfold PCr; omega)).trans hH.1
        rw [er, en]
        by_cases c : Hn H ≤ i
        · rw [if_pos (by rw [nI_leN (by omega) (by omega)]; exact c)]
          refine ⟨Fj_ly f hl, f, u1, u2, u3, fun q hq => ?_, e8⟩
          rw [u4 q hq, show i = Hn H by omega]
          rfl
        · rw [if_neg (by rw [nI_leN (by omega) (by omega)]; exact c)]
          have b1 := hS i (by omega)
          have e : t.2.1 (110 + 1) i = nI (mi S i) := (f.2.2.1 111 i (by unfold PCr; omega)).trans (hM.2.1 i (by omega))
          simp (disch := omega) only [lt, nI_mulN, nI_add, inb_nI, cl_nI, e]
          refine ⟨by omega, by omega, by omega, hX _ _ _ (by omega) ⟨i + 1, by omega, rfl, rfl, Fj_sI f (by unfold PCr; omega), ?_, u2, u3, fun q => (by cases q), fun q hq => ?_⟩⟩
          · rw [rI_ne (by omega)]; exact u1
          · rw [rI]
            by_cases z : q = 8 * i + mi S i
            · have z1 : q / 8 = i := by omega
              have z2 : q % 8 = mi S i := by omega
              rw [if_pos ⟨rfl, z⟩, u4 _ (by omega), nI_add, ← z, z1, z2, if_neg (by omega), if_pos ⟨rfl, by omega, rfl⟩]
            · rw [if_neg (by omega), u4 q hq]
              congr 2
              by_cases z1 : q / 8 = i
              · have z2 : ¬ mi S (q / 8) = q % 8 := by rw [z1]; omega
                rw [if_neg (fun h => z2 h.2.2), if_neg (fun h => z2 h.2.2)]
              · by_cases z2 : q / 8 < i ∧ mi S (q / 8) = q % 8
                · rw [if_pos ⟨rfl, z2⟩, if_pos ⟨rfl, by omega, z2.2⟩]
                · rw [if_neg (fun h => z2 h.2), if_neg (fun h => z2 ⟨by omega, h.2.2⟩)]
    · rw [w1, t1, nI_add]
    · rw [w2]
      show (jh_setI σ 107 5 _).2.2.1 107 6 &&& _ = _
      rw [rJ_I, t2, ea]
    · rw [w3]
      show (jh_setJ (jh_setI σ 107 5 _) 107 6 _).2.2.1 107 7 ||| _ = _
      rw [rJ_ne (by omega), rJ_I, t3, eo]
    · rw [w4, t4 q hq, if_neg (by omega)]; rfl
theorem taken_s {pre : List Nat} (hp : p < 64) : lN (msk (fun q => decide (q ∈ pre)) 64) ||| (1 <<< ((nI p).toInt64 &&& 63)) = lN (msk (fun q => decide (q ∈ pre ++ [p])) 64) := by
  have h1 : ∀ p, p < 64 → (1 : Int64) <<< ((nI p).toInt64 &&& 63) = lN (2 ^ p) := by decide +kernel
  rw [h1 p hp, ← msk_1 hp, lN_or]
  refine congrArg lN (Nat.eq_of_testBit_eq (fun i => ?_))
  rw [Nat.testBit_or, msk_tb, msk_tb, msk_tb]
  by_cases c : i < 64
  · by_cases d : i = p
    · subst d; simp [hp]
    · simp [c, d]
  · simp [c]
def PFo (b j : Nat) : Prop := PM 110 b j ∨ PCr b j
set_option maxHeartbeats 1000000 in
theorem c_followRows (hW : WH H) : ∀ (m d : Nat), d < m → ∀ (S : Mud) (pre : List Nat) (st : Crs) (σ : JH), 1 ≤ d → d ≤ 3 → WS H S → Cs H S 110 h σ → cSn H sn 110 σ → cRo mnd st σ → WM (g_Ta_followRows m 0) [.ref 107, .int (nI d), .long (lN (msk (fun q => decide (q ∈ pre)) 64))] σ (kV fun s => Cs H S 110 h s ∧ Fj PFo σ s ∧ cRo mnd (frR H sn mnd d S pre st) s) := by
  intro m
  induction m with
  | zero => intro d h; omega
  | succ m ih =>
    intro d hd S pre st σ hd1 hd3 hS hC hN hT
    have n8 := hW.1
    have hho := ho_lt hC.2.1
    refine w_Ta_followRows (g_Ta_followRows m) _ _ hC.1 ?_
    obtain ⟨d, rfl⟩ : ∃ d', d = d' + 1 := ⟨d - 1, by omega⟩
    obtain ⟨x, hx, hX⟩ := c_openX hC.1 mu_110 hW hS hC.2.2.1 hC.2.2.2
    refine WJ_i hx ?_
    refine WE_i (isX_bc hC.1 hX) ?_
    refine Lp4_inv (I := fun m v u _ t => ∃ l st', m = l.length ∧ isL v u l ∧ (∀ q ∈ l, q ∈ opl H S) ∧ Cs H S 110 h t ∧ Fj PFo σ t ∧ cRo mnd st' t ∧ l.foldl (fun st p => frR H sn mnd d (trnC S p) (pre ++ [p]) st) st' = frR H sn mnd (d + 1) S pre st) ?_ (m := (opl H S).length) ⟨opl H S, st, rfl, ⟨hX, rfl⟩, fun q h => h, hC, Fj_r _ _, hT, rfl⟩
    rintro m' v u o t ⟨l, st', rfl, hL, hs, hCt, hft, hTt, hfold⟩ X hX'
    refine ⟨hCt.1, ?_⟩
    cases l with
    | nil =>
      rw [if_pos (isL_nil hL).1, ← hfold]
      exact ⟨hCt, hft, hTt⟩
    | cons p l =>
      have hcn := isL_cons hL
      have hp := hs p (List.mem_cons_self ..)
      obtain ⟨p1, p2, p3, p4, p5⟩ := opl_mem hW.1 hp
      rw [if_neg hcn.2.1]
      rw [List.foldl_cons] at hfold
      refine WE_i ((isX_cons hL.1).2.2 t hCt.1) ?_
      have hNt : cSn H sn 110 t := cSn_j hft (by unfold PFo PM PCr; omega) (by unfold PFo PM PCr; omega) hN
      by_cases hd0 : d = 0
      · rw [if_pos (by rw [hd0]; decide)]
        subst hd0
        refine WE_i (c_lesser hCt.1 p4) ?_
        refine WE_i (c_greater hCt.1 p4) ?_
        refine WM_V (c_swapMinds hCt.1 mu_110 n8 hCt.2.2.2 p2 p3) fun t1 ⟨l1, f1, M1⟩ => ⟨l1, ?_⟩
        rw [taken_s p4]
        have H1 := cH_m mu_110 hCt.2.1 f1 hCt.2.2.1
        refine WM_V (c_countRow l1 hCt.2.1 hW (Pn_swp hS.1 p2 p3).1 H1 M1 (cSn_j (Fi_j f1) (by unfold PM; omega) (by unfold PM; omega) hNt) (cRo_j (Fi_j f1) (fun j _ _ => by unfold PM; omega) (fun j => by unfold PM; omega) hTt)) fun t2 ⟨l2, f2, T2⟩ => ⟨l2, ?_⟩
        refine WE_i (c_lesser l2 p4) ?_
        refine WE_i (c_greater l2 p4) ?_
        have M2 := cMx_j f2 (fun j _ => by unfold PCr; omega) (fun b j _ _ => by unfold PCr; omega) M1
        refine WM_V (c_swapMinds l2 mu_110 n8 M2 p2 p3) fun t3 ⟨l3, f3, M3⟩ => ⟨l3, ?_⟩
        rw [mswp_2] at M3
        have H3 : cH H h t3 := by
          have g : cH H h (t1.1, t2.2.1, t1.2.2) := cH_f (Fj_i f2) (fun b j _ _ => by unfold PCr; omega) H1
          exact cH_m mu_110 hCt.2.1 f3 g
        exact hX' l.length _ _ _ _ (by rw [List.length_cons]; omega) ⟨l, _, rfl, hcn.1, fun q hq => hs q (List.mem_cons_of_mem _ hq), ⟨l3, hCt.2.1, H3, M3⟩, Fj_t hft (Fj_t (Fj_m (Fi_j f1) (fun b j q => Or.inl q)) (Fj_t (Fj_m f2 (fun b j q => Or.inr q)) (Fj_m (Fi_j f3) (fun b j q => Or.inl q)))), cRo_j (Fi_j f3) (fun j _ _ => by unfold PM; omega) (fun j => by unfold PM; omega) T2, hfold⟩
      · rw [if_neg (by rw [nI_leN (by omega) (by omega)]; omega)]
        refine WE_i (c_lesser hCt.1 p4) ?_
        refine WE_i (c_greater hCt.1 p4) ?_
        refine c_chg mu_110 hW hS hCt p2 p3 (by omega) fun t1 hC1 hf1 => ⟨hC1.1, ?_⟩
        rw [nI_subN (by omega), Nat.add_sub_cancel, taken_s p4]
        refine WM_V (ih d (by omega) (trnC S p) (pre ++ [p]) st' t1 (by omega) (by omega) (WS_trnC hW hS hp) hC1 (cSn_j (Fi_j hf1) (by unfold PM; omega) (by unfold PM; omega) hNt) (cRo_j (Fi_j hf1) (fun j _ _ => by unfold PM; omega) (fun j => by unfold PM; omega) hTt)) fun t2 ⟨hC2, hf2, hT2⟩ => ⟨hC2.1, ?_⟩
        refine WE_i (c_lesser hC2.1 p4) ?_
        refine WE_i (c_greater hC2.1 p4) ?_
        refine c_unchg mu_110 hW hS hC2 p2 p3 (by omega) (may_th p5).2.2.2.1 fun t3 hC3 hf3 => ⟨hC3.1, ?_⟩
        exact hX' l.length _ _ _ _ (by rw [List.length_cons]; omega) ⟨l, _, rfl, hcn.1, fun q hq => hs q (List.mem_cons_of_mem _ hq), hC3, Fj_t hft (Fj_t (Fj_m (Fi_j hf1) (fun b j q => Or.inl q)) (Fj_t hf2 (Fj_m (Fi_j hf3) (fun b j q => Or.inl q)))), cRo_j (Fi_j hf3) (fun j _ _ => by unfold PM; omega) (fun j => by unfold PM; omega) hT2, hfold⟩
end CU

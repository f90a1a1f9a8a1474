section C2
variable {H : Hou} {L : Option Lws} {S : Mud} {a h k e p d : Nat} {σ s : JH}
theorem c_wrongBehind (ha : IsMu a) (hW : WH H) (hS : WS H S) (q : Cs H S a h σ) (hk : k < Hn H) (he : e < Hn H) (hne : k ≠ e) : q_Mu_wrongBehind [.ref a, .int (nI k), .int (nI e)] σ = some (some (.int (nI (wrs H (trn S k e)))), σ) := by
  have n8 := hW.1
  obtain ⟨hl, hh, hH, hM⟩ := q
  obtain ⟨m0, m1, m2, m3, m4, m5, m6, m7, m8⟩ := hM
  have b1 := hS.1.1 k hk
  have b2 := hS.1.1 e he
  refine WE_o (w_Mu_wrongBehind a _ _ hl ha ?_)
  simp only [JJ1]
  simp (disch := omega) only [cl_nI, inb_nI, m0, m6, hH.2.2.1, m1 k hk, m1 e he, sh_k n8 hk, sh_k n8 he]
  have z0 : nI 0 = nI (msk (fun _ => false) (Hn H)) := by rw [msk_0 (fun _ _ => rfl)]
  rw [z0]
  simp only [bk_or, bk_sub]
  have fin : ∀ (F : Nat → Bool), (∀ j, j < Hn H → F j = ast H (trn S k e) j) → WE q_In_bitCount [.int (nI (msk F (Hn H)))] σ (fun x => x = nI (wrs H (trn S k e))) := fun F hF => WE_i (j_bcm hl n8) (congrArg nI (cntB_ext hF))
  have hek : ¬ e = k := fun q => hne q.symm
  have vals : ∀ j, j < Hn H → ast H (trn S k e) j = if j = k then (!decide (mi S e = k) && !ctb H k) else if j = e then (!decide (mi S k = e) && !ctb H e) else ast H S j := by
    intro j hj
    by_cases c1 : j = k
    · rw [if_pos c1, c1]; unfold ast ctb; rw [mi_trn, swp_k]
    · rw [if_neg c1]
      by_cases c2 : j = e
      · rw [if_pos c2, c2]; unfold ast ctb; rw [mi_trn, swp_e]
      · rw [if_neg c2, ast_trn c1 c2]
  refine ⟨by omega, ?_⟩
  by_cases c1 : mi S e = k
  · rw [if_pos (by rw [c1])]
    refine ⟨by omega, ?_⟩
    by_cases c2 : mi S k = e
    · rw [if_pos (by rw [c2])]
      refine fin _ (fun j hj => ?_)
      rw [vals j hj]
      by_cases d1 : j = k
      · simp [d1, c1]
      · by_cases d2 : j = e
        · simp [d1, d2, c2, hek]
        · simp [d1, d2]
    · rw [if_neg (by rw [nI_eqN (by omega) (by omega)]; exact c2)]
      refine fin _ (fun j hj => ?_)
      rw [vals j hj]
      by_cases d1 : j = k
      · simp [d1, c1, hne]
      · by_cases d2 : j = e
        · simp [d1, d2, c2, hek]
        · simp [d1, d2]
  · rw [if_neg (by rw [nI_eqN (by omega) (by omega)]; exact c1)]
    refine ⟨by omega, ?_⟩
    by_cases c2 : mi S k = e
    · rw [if_pos (by rw [c2])]
      refine fin _ (fun j hj => ?_)
      rw [vals j hj]
      by_cases d1 : j = k
      · simp [d1, c1]
      · by_cases d2 : j = e
        · simp [d1, d2, c2, hek]
        · simp [d1, d2]
    · rw [if_neg (by rw [nI_eqN (by omega) (by omega)]; exact c2)]
      refine fin _ (fun j hj => ?_)
      rw [vals j hj]
      by_cases d1 : j = k
      · simp [d1, c1, hne]
      · by_cases d2 : j = e
        · simp [d1, d2, c2, hek]
        · simp [d1, d2]
def nocat (H : Hou) : Bool := decide (∀ k, k < Hn H → ctb H k = false)
theorem cat_0 (hW : WH H) : (nI (msk (ctb H) (Hn H)) = 0) = (nocat H = true) := by
  have n8 := hW.1
  unfold nocat
  rw [nI_eq0 (by have := msk_8 (f := ctb H) n8; omega), decide_eq_true_iff, eq_iff_iff]
  exact ⟨fun z k hk => msk_z z k hk, fun z => msk_0 z⟩
def cbh (H : Hou) (S : Mud) (d : Nat) : Bool := !nocat H || decide ((d + ned H S) % 2 = 0)
theorem par_1 : ∀ a, a < 6 → ∀ b, b < 65 → (nI a - nI b) &&& nI 1 = nI ((a + b) % 2) := by decide +kernel
theorem ned_64 (hW : WH H) : ned H S ≤ 64 := Nat.le_trans ned_le (Nat.mul_le_mul hW.1 hW.1)
theorem c_canBeHome (ha : IsMu a) (hW : WH H) (hS : WS H S) (q : Cs H S a h σ) (hd : d < 6) : q_Mu_canBeHomeBehindJust [.ref a, .int (nI d)] σ = some (some (.int (bI (cbh H S d))), σ) := by
  obtain ⟨hl, hh, hH, hM⟩ := q
  have h64 := ned_64 (S := S) hW
  refine WE_o (w_Mu_canBeHomeBehindJust a _ hl ha ?_)
  rw [hM.1, hH.2.2.1]
  unfold cbh
  by_cases c : nocat H = true
  · rw [if_pos (by rw [cat_0 hW]; exact c), c]
    refine WE_i (c_turnsNeeded hl ha hW hS hH hM) ?_
    show if (nI d - nI (ned H S)) &&& nI 1 = 0 then _ else _
    rw [par_1 d hd _ (by omega)]
    by_cases z : (d + ned H S) % 2 = 0
    · rw [if_pos (by rw [z]; decide), decide_eq_true z]; rfl
    · rw [if_neg (by rw [nI_eq0 (by omega)]; exact z), decide_eq_false z]; rfl
  · rw [if_neg (by rw [cat_0 hW]; exact c)]
    rw [Bool.not_eq_true] at c
    rw [c]; rfl
/-- no row of at most d turns leaves fewer wrong -/
def fww (H : Hou) (S : Mud) (d : Nat) : Nat := if ned H S ≤ d then max (cntB (stk H S) (Hn H)) (wrs H S - 2 * d) else max (max (cntB (stk H S) (Hn H)) (wrs H S - 2 * d)) (ned H S - d + if nocat H = true then 1 else 0)
theorem j_maxs {x y z : Nat} (hl : Ly σ) (hx : x < 1000) (hy : y < 1000) (hz : z < 1000) : q_Ma_max [.int (nI x), .int (nI y - nI z)] σ = some (some (.int (nI (max x (y - z)))), σ) := by
  by_cases c : z ≤ y
  · rw [nI_subN c]; exact j_max hl (by omega) (by omega)
  · refine WE_o (w_Ma_max _ _ hl ?_)
    have h1 : nI y - nI z < 0 := by
      rw [Int32.lt_iff_toInt_lt, Int32.toInt_sub, nI_toInt (by omega), nI_toInt (by omega), Int.bmod_eq_of_le (by omega) (by omega)]
      show _ < (0 : Int)
      omega
    have h2 : (0 : Int32) ≤ nI x := by rw [nI_0le (by omega)]; trivial
    rw [if_neg (fun q => Int32.lt_irrefl (Int32.lt_trans (Int32.lt_of_le_of_lt h2 q) h1)), show y - z = 0 by omega, Nat.max_zero]
theorem c_fewestWithin (ha : IsMu a) (hW : WH H) (hS : WS H S) (q : Cs H S a h σ) (hd : d < 10) : q_Mu_fewestWrongWithin [.ref a, .int (nI d)] σ = some (some (.int (nI (fww H S d))), σ) := by
  have n8 := hW.1
  obtain ⟨hl, hh, hH, hM⟩ := q
  have h64 := ned_64 (S := S) hW
  have hw := wrs_le S hW
  have hs := cntB_le (stk H S) (Hn H)
  refine WE_o (w_Mu_fewestWrongWithin a _ hl ha ?_)
  refine WE_i (c_stuck hl ha hW hS hH hM) ?_
  refine WE_i (j_bcm hl n8) ?_
  refine WE_i (c_wrongOnes hl ha hW hM) ?_
  rw [nI_mulN]
  refine WE_i (j_maxs hl (by omega) (by omega) (by omega)) ?_
  refine WE_i (c_turnsNeeded hl ha hW hS hH hM) ?_
  show if nI d < nI (ned H S) then _ else _
  unfold fww
  by_cases c : ned H S ≤ d
  · rw [if_neg (by rw [nI_ltN (by omega) (by omega)]; omega), if_pos c]
  · rw [if_pos (by rw [nI_ltN (by omega) (by omega)]; omega), if_neg c, hM.1, hH.2.2.1]
    show if _ then WE q_Ma_max [_, .int (nI (ned H S) - nI d + nI 1)] σ _ else WE q_Ma_max [_, .int (nI (ned H S) - nI d + nI 0)] σ _
    rw [nI_subN (by omega), nI_add, nI_add]
    by_cases z : nocat H = true
    · rw [if_pos (by rw [cat_0 hW]; exact z), if_pos z]
      exact WE_i (j_max hl (by omega) (by omega)) rfl
    · rw [if_neg (by rw [cat_0 hW]; exact z), if_neg z]
      exact WE_i (j_max hl (by omega) (by omega)) rfl
/-- LEAST, as the class looks for it -/
def lsR (H : Hou) : Nat → Mud → List Nat → Nat × List Nat → Nat × List Nat
  | 0, S, pre, b => if wrs H S < b.1 then (wrs H S, pre) else b
  | d + 1, S, pre, b => if fww H S (d + 1) < b.1 then (opl H S).foldl (fun b p => lsR H d (trnC S p) (pre ++ [p]) b) b else b
def cW (b : Nat × List Nat) (s : JH) : Prop := s.2.1 100 5 = nI b.1 ∧ b.1 ≤ 9 ∧ cK b.2 s
def PLs (b j : Nat) : Prop := PSe b j ∨ b = 102 ∨ (b = 100 ∧ (j = 4 ∨ j = 5))
theorem cW_f {b : Nat × List Nat} {t : JH} {P : Nat → Nat → Prop} (f : Fi P s t) (hP : ∀ j, ¬ P 102 j) (h1 : ¬ P 100 4) (h2 : ¬ P 100 5) (h : cW b s) : cW b t := ⟨(f.2.2 _ _ h2).trans h.1, h.2.1, cK_f f hP h1 h.2.2⟩
theorem fww_lt (hW : WH H) (hd : d < 10) : fww H S d < 1000 := by
  have n8 := hW.1
  have h64 := ned_64 (S := S) hW
  have hw := wrs_le S hW
  have hs := cntB_le (stk H S) (Hn H)
  unfold fww
  split
  · omega
  · split <;> omega
set_option maxHeartbeats 1000000 in
theorem c_lessen (hW : WH H) : ∀ (m d : Nat), d < m → ∀ (S : Mud) (pre : List Nat) (b : Nat × List Nat) (σ : JH), pre.length + d ≤ 5 → WS H S → Cs H S 103 h σ → cR pre σ → cW b σ → σ.2.1 100 3 = nI (pre.length + d) → WM (g_Se_lessen m 0) [.ref 100, .int (nI d)] σ (kV fun s => Cs H S 103 h s ∧ Fi PLs σ s ∧ cR pre s ∧ cW (lsR H d S pre b) s) := by
  intro m
  induction m with
  | zero => intro d h; omega
  | succ m ih =>
    intro d hd S pre b σ hlen hS hC hR hB hD
    have hw := wrs_le S hW
    have hb9 := hB.2.1
    refine w_Se_lessen (g_Se_lessen m) _ hC.1 ?_
    cases d with
    | zero =>
      rw [if_neg (by decide)]
      refine WE_i (c_wrongOnes hC.1 mu_103 hW hC.2.2.2) ?_
      rw [hB.1]
      by_cases c : wrs H S < b.1
      · have e : lsR H 0 S pre b = (wrs H S, pre) := by show (if _ then _ else _) = _; rw [if_pos c]
        rw [if_neg (by rw [nI_leN (by omega) (by omega)]; omega), e]
        refine WE_i (c_wrongOnes hC.1 mu_103 hW hC.2.2.2) ?_
        unfold lt
        have f1 : Fi (fun b j => b = 102 ∨ (b = 100 ∧ (j = 4 ∨ j = 5))) σ (jh_setI σ 100 5 (nI (wrs H S))) := Fi_s (Fi_r _ _) (by omega)
        refine WM_V (c_keepRow (pre := pre) (Fi_ly f1 hC.1) (by omega) ((f1.2.2 100 3 (by omega)).trans hD) (cR_f f1 (fun j => by omega) hR)) fun s ⟨l, f, q⟩ => ⟨l, ?_⟩
        have f2 : Fi (fun b j => b = 102 ∨ (b = 100 ∧ (j = 4 ∨ j = 5))) σ s := Fi_t f1 (Fi_m f (fun b j h => by omega))
        exact ⟨Cs_f hC f2 (fun j _ => by omega) (fun b j _ _ => by omega) (fun b j _ _ => by omega), Fi_m f2 (fun b j h => Or.inr h), cR_f f2 (fun j => by omega) hR, (f.2.2 100 5 (by omega)).trans rI_eq, by show wrs H S ≤ 9; omega, q⟩
      · have e : lsR H 0 S pre b = b := by show (if _ then _ else _) = _; rw [if_neg c]
        rw [if_pos (by rw [nI_leN (by omega) (by omega)]; omega), e]
        exact ⟨hC, Fi_r _ _, hR, hB⟩
    | succ d =>
      rw [if_pos (by rw [nI_0lt (by omega)]; omega)]
      refine WE_i (c_fewestWithin mu_103 hW hS hC (by omega)) ?_
      have hfl := fww_lt (S := S) (d := d + 1) hW (by omega)
      rw [hB.1]
      by_cases c : fww H S (d + 1) < b.1
      · have e0 : lsR H (d + 1) S pre b = (opl H S).foldl (fun b p => lsR H d (trnC S p) (pre ++ [p]) b) b := by show (if _ then _ else _) = _; rw [if_pos c]
        rw [if_pos (by rw [nI_ltN (by omega) (by omega)]; exact c), e0]
        obtain ⟨x, hx, hX⟩ := c_openX hC.1 mu_103 hW hS hC.2.2.1 hC.2.2.2
        refine WJ_i hx ?_
        refine WE_i (isX_bc hC.1 hX) ?_
        have hsub : ∀ q ∈ opl H S, q ∈ opl H S := fun q h => h
        refine Lp4_inv (I := fun m v u _ t => ∃ l b', m = l.length ∧ isL v u l ∧ (∀ q ∈ l, q ∈ opl H S) ∧ Cs H S 103 h t ∧ Fi PLs σ t ∧ cR pre t ∧ cW b' t ∧ l.foldl (fun b p => lsR H d (trnC S p) (pre ++ [p]) b) b' = (opl H S).foldl (fun b p => lsR H d (trnC S p) (pre ++ [p]) b) b) ?_ (m := (opl H S).length) ⟨opl H S, b, rfl, ⟨hX, rfl⟩, hsub, hC, Fi_r _ _, hR, hB, rfl⟩
        rintro m' v u o t ⟨l, b', rfl, hL, hs, hCt, hft, hRt, hBt, hfold⟩ X hX'
        refine ⟨hCt.1, ?_⟩
        cases l with
        | nil =>
          rw [if_pos (isL_nil hL).1, ← hfold]
          exact ⟨hCt, hft, hRt, hBt⟩
        | cons p l =>
          have hc := isL_cons hL
          have hp := hs p (List.mem_cons_self ..)
          obtain ⟨p1, p2, p3, p4, p5⟩ := opl_mem hW.1 hp
          rw [if_neg hc.2.1]
          simp only [JJ1]
          refine WE_i ((isX_cons hL.1).2.2 t hCt.1) ?_
          rw [List.foldl_cons] at hfold
          have go : WM q_Se_tryTurn [.ref 100, .int (nI (d + 1)), .int (nI p)] t (kV fun s11 => Ly s11 ∧ WM (g_Se_lessen m 0) [.ref 100, .int (nI (d + 1) - nI 1)] s11 (kV fun s12 => Ly s12 ∧ WE q_Ct_lesserOf [.int (nI p)] s12 (fun x13 => WE q_Ct_greaterOf [.int (nI p)] s12 (fun x14 => WM q_Mu_changeBack [.ref 103, .int x13, .int x14] s12 (kV fun s15 => Ly s15 ∧ X (v &&& (v - 1)) (u + mI 1) (some (.int (nI p))) s15))))) := by
            refine c_tryTurn hW hS hCt hRt (hft.2.2 100 3 (by unfold PLs PSe PM; omega) ▸ hD) (by omega) (by omega) hp fun t1 hC1 hf1 hR1 => ⟨hC1.1, ?_⟩
            rw [nI_subN (by omega), Nat.add_sub_cancel]
            refine WM_V (ih d (by omega) (trnC S p) (pre ++ [p]) b' t1 (by rw [len_app]; omega) (WS_trnC hW hS hp) hC1 hR1 (cW_f hf1 (fun j => by unfold PSe PM; omega) (by unfold PSe PM; omega) (by unfold PSe PM; omega) hBt) (by rw [len_app, hf1.2.2 100 3 (by unfold PSe PM; omega), hft.2.2 100 3 (by unfold PLs PSe PM; omega), hD]; congr 1; omega)) fun t2 ⟨hC2, hf2, hR2, hB2⟩ => ⟨hC2.1, ?_⟩
            refine c_backTurn hW hS hC2 hp fun t3 hC3 hf3 => ?_
            exact hX' l.length _ _ _ _ (by rw [List.length_cons]; omega) ⟨l, _, rfl, hc.1, fun q hq => hs q (List.mem_cons_of_mem _ hq), hC3, Fi_t hft (Fi_t (Fi_m hf1 (fun b j q => Or.inl q)) (Fi_t hf2 (Fi_m hf3 (fun b j q => Or.inl (Or.inl q))))), cR_f hf3 (fun j => by unfold PM; omega) (cR_pre hR2), cW_f hf3 (fun j => by unfold PM; omega) (by unfold PM; omega) (by unfold PM; omega) hB2, hfold⟩
          by_cases hd1 : 1 < d + 1
          · rw [if_pos (by rw [nI_ltN (by omega) (by omega)]; exact hd1)]
            exact go
          · rw [if_neg (by rw [nI_ltN (by omega) (by omega)]; exact hd1)]
            refine WE_i (c_lesser hCt.1 p4) ?_
            refine WE_i (c_greater hCt.1 p4) ?_
            refine WE_i (c_wrongBehind mu_103 hW hS hCt p2 p3 (by omega)) ?_
            rw [hBt.1]
            have hw2 := wrs_le (trnC S p) hW
            have hw3 : wrs H (trn S (p / 8) (p % 8)) ≤ 8 := hw2
            have hb2 := hBt.2.1
            by_cases z : b'.1 ≤ wrs H (trnC S p)
            · rw [if_pos (by rw [nI_leN (by omega) (by omega)]; exact z)]
              have hd0 : d = 0 := by omega
              subst hd0
              have e1 : lsR H 0 (trnC S p) (pre ++ [p]) b' = b' := by show (if _ then _ else _) = _; rw [if_neg (by omega)]
              rw [e1] at hfold
              exact hX' l.length _ _ _ _ (by rw [List.length_cons]; omega) ⟨l, b', rfl, hc.1, fun q hq => hs q (List.mem_cons_of_mem _ hq), hCt, hft, hRt, hBt, hfold⟩
            · rw [if_neg (by rw [nI_leN (by omega) (by omega)]; exact z)]
              exact go
      · have e0 : lsR H (d + 1) S pre b = b := by show (if _ then _ else _) = _; rw [if_neg c]
        rw [if_neg (by rw [nI_ltN (by omega) (by omega)]; exact c), e0]
        exact ⟨hC, Fi_r _ _, hR, hB⟩
/-- CHEAP, as the class looks for it -/
def dear (b : Bst) (sp : Nat) : Bool := match b with
  | none => false
  | some (c, _) => decide (c ≤ sp)
def chC (H : Hou) (L : Option Lws) : Nat → Mud → List Nat → Nat → Bst → Bst
  | 0, S, pre, sp, b => if dear b sp = true then b else if wrs H S = 0 then some (sp, pre) else b
  | d + 1, S, pre, sp, b => if dear b sp = true then b else (hop H S (d + 1)).foldl (fun b p => chC H L d (trnC S p) (pre ++ [p]) (sp + ctn H L S (p / 8) (p % 8)) b) b
def cC (b : Bst) (s : JH) : Prop := match b with
  | none => s.2.1 100 6 = nI 2147483647
  | some (c, r) => s.2.1 100 6 = nI c ∧ c < 100000 ∧ cK r s
def PCh (b j : Nat) : Prop := PSe b j ∨ b = 102 ∨ (b = 100 ∧ (j = 4 ∨ j = 6)) ∨ b = 79 ∨ b = 90
theorem cC_f {b : Bst} {t : JH} {P : Nat → Nat → Prop} (f : Fi P s t) (hP : ∀ j, ¬ P 102 j) (h1 : ¬ P 100 4) (h2 : ¬ P 100 6) (h : cC b s) : cC b t := by
  cases b with
  | none => exact (f.2.2 _ _ h2).trans h
  | some q => exact ⟨(f.2.2 _ _ h2).trans h.1, h.2.1, cK_f f hP h1 h.2.2⟩
theorem cL_f {M : Lws} {la : Nat} {t : JH} {P : Nat → Nat → Prop} (f : Fi P s t) (h1 : ¬ P la 2) (h2 : ∀ j, ¬ P (la + 1) j) (h : cL M la s) : cL M la t := ⟨h.1, h.2.1, (f.2.2 _ _ h1).trans h.2.2.1, fun i q e => (f.2.2 _ _ (h2 i)).trans (h.2.2.2 i q e)⟩
theorem ho_is {g : Nat} (q : IsHo g) : g = 69 ∨ g = 80 := q
set_option maxHeartbeats 1000000 in
theorem c_cheapen (hW : WH H) : ∀ (m d : Nat), d < m → ∀ (S : Mud) (pre : List Nat) (sp : Nat) (b : Bst) (σ : JH), pre.length + d ≤ 5 → sp + 1000 * d ≤ 10000 → WS H S → Cs H S 103 h σ → cL (lwl L) (h + 8) σ → cR pre σ → cC b σ → σ.2.1 100 3 = nI (pre.length + d) → WM (g_Se_cheapen m 0) [.ref 100, .int (nI d), .int (nI sp)] σ (kV fun s => Cs H S 103 h s ∧ Fi PCh σ s ∧ cR pre s ∧ cC (chC H L d S pre sp b) s) := by
  intro m
  induction m with
  | zero => intro d h; omega
  | succ m ih =>
    intro d hd S pre sp b σ hlen hsp hS hC hLw hR hB hD
    have hho := ho_is hC.2.1
    refine w_Se_cheapen (g_Se_cheapen m) _ _ hC.1 ?_
    by_cases c0 : dear b sp = true
    · have e0 : chC H L d S pre sp b = b := by
        cases d with
        | zero => show (if _ then _ else _) = _; rw [if_pos c0]
        | succ d => show (if _ then _ else _) = _; rw [if_pos c0]
      rw [e0]
      cases b with
      | none => cases c0
      | some q =>
        obtain ⟨w, r⟩ := q
        have c0 := of_decide_eq_true c0
        rw [if_neg (by rw [hB.1, nI_ltN (by omega) (by have := hB.2.1; omega)]; omega)]
        exact ⟨hC, Fi_r _ _, hR, hB⟩
    · have c1 : nI sp < σ.2.1 100 6 := by
        cases b with
        | none => rw [show σ.2.1 100 6 = nI 2147483647 from hB, nI_ltN (by omega) (by omega)]; omega
        | some q =>
          obtain ⟨w, r⟩ := q
          have c0 : ¬ w ≤ sp := fun q => c0 (decide_eq_true q)
          rw [hB.1, nI_ltN (by omega) (by have := hB.2.1; omega)]; omega
      rw [if_pos c1]
      cases d with
      | zero =>
        rw [if_neg (by decide)]
        simp only [ast_0 hW hC]
        by_cases c : wrs H S = 0
        · have e : chC H L 0 S pre sp b = some (sp, pre) := by show (if _ then _ else if _ then _ else _) = _; rw [if_neg c0, if_pos c]
          rw [if_pos c, e]
          unfold lt
          have f1 : Fi (fun b j => b = 102 ∨ (b = 100 ∧ (j = 4 ∨ j = 6))) σ (jh_setI σ 100 6 (nI sp)) := Fi_s (Fi_r _ _) (by omega)
          refine WM_V (c_keepRow (pre := pre) (Fi_ly f1 hC.1) (by omega) ((f1.2.2 100 3 (by omega)).trans hD) (cR_f f1 (fun j => by omega) hR)) fun s ⟨l, f, q⟩ => ⟨l, ?_⟩
          have f2 : Fi (fun b j => b = 102 ∨ (b = 100 ∧ (j = 4 ∨ j = 6))) σ s := Fi_t f1 (Fi_m f (fun b j h => by omega))
          exact ⟨Cs_f hC f2 (fun j _ => by omega) (fun b j _ _ => by omega) (fun b j _ _ => by omega), Fi_m f2 (fun b j h => by unfold PCh; omega), cR_f f2 (fun j => by omega) hR, (f.2.2 100 6 (by omega)).trans rI_eq, by omega, q⟩
        · have e : chC H L 0 S pre sp b = b := by show (if _ then _ else if _ then _ else _) = _; rw [if_neg c0, if_neg c]
          rw [if_neg c, e]
          exact ⟨hC, Fi_r _ _, hR, hB⟩
      | succ d =>
        rw [if_pos (by rw [nI_0lt (by omega)]; omega)]
        have e0 : chC H L (d + 1) S pre sp b = (hop H S (d + 1)).foldl (fun b p => chC H L d (trnC S p) (pre ++ [p]) (sp + ctn H L S (p / 8) (p % 8)) b) b := by show (if _ then _ else _) = _; rw [if_neg c0]
        rw [e0]
        obtain ⟨x, hx, hX⟩ := c_hopeful (d := d + 1) hC.1 mu_103 hW hS hC.2.2.1 hC.2.2.2 (by omega)
        refine WJ_i hx ?_
        refine WE_i (isX_bc hC.1 hX) ?_
        have hsub : ∀ q ∈ hop H S (d + 1), q ∈ opl H S := fun q => hop_sub
        generalize hop H S (d + 1) = l0 at hX hsub
        refine Lp5_inv (I := fun m v u _ _ t => ∃ l b', m = l.length ∧ isL v u l ∧ (∀ q ∈ l, q ∈ opl H S) ∧ Cs H S 103 h t ∧ Fi PCh σ t ∧ cR pre t ∧ cC b' t ∧ l.foldl (fun b p => chC H L d (trnC S p) (pre ++ [p]) (sp + ctn H L S (p / 8) (p % 8)) b) b' = l0.foldl (fun b p => chC H L d (trnC S p) (pre ++ [p]) (sp + ctn H L S (p / 8) (p % 8)) b) b) ?_ (m := l0.length) ⟨l0, b, rfl, ⟨hX, rfl⟩, hsub, hC, Fi_r _ _, hR, hB, rfl⟩
        rintro m' v u o1 o2 t ⟨l, b', rfl, hL, hs, hCt, hft, hRt, hBt, hfold⟩ X hX'
        refine ⟨hCt.1, ?_⟩
        cases l with
        | nil =>
          rw [if_pos (isL_nil hL).1, ← hfold]
          exact ⟨hCt, hft, hRt, hBt⟩
        | cons p l =>
          have hc := isL_cons hL
          have hp := hs p (List.mem_cons_self ..)
          obtain ⟨p1, p2, p3, p4, p5⟩ := opl_mem hW.1 hp
          rw [if_neg hc.2.1]
          refine WE_i ((isX_cons hL.1).2.2 t hCt.1) ?_
          rw [List.foldl_cons] at hfold
          refine c_tryTurn hW hS hCt hRt (hft.2.2 100 3 (by unfold PCh PSe PM; omega) ▸ hD) (by omega) (by omega) hp fun t1 hC1 hf1 hR1 => ⟨hC1.1, ?_⟩
          refine WE_i (c_wrongOnes hC1.1 mu_103 hW hC1.2.2.2) ?_
          obtain ⟨m0, m1, m2, m3, m4, m5, m6, m7, m8⟩ := hC1.2.2.2
          rw [m0, m7, m8, show tu (trnC S p) = tu S + 1 from rfl, show pa (trnC S p) = pa S + 1 from rfl, nI_subN (by omega), nI_subN (by omega), Nat.add_sub_cancel, Nat.add_sub_cancel, nI_subN (by omega), Nat.add_sub_cancel]
          have hL1 : cL (lwl L) (h + 8) t1 := cL_f hf1 (by unfold PSe PM; omega) (fun j => by unfold PSe PM; omega) (cL_f hft (by unfold PCh PSe PM; omega) (fun j => by unfold PCh PSe PM; omega) hLw)
          refine WM_I (c_costOf (L := L) hC1.1 (la_Ho hC.2.1) hL1) fun y t2 ⟨hy, l2, hf2⟩ => ⟨l2, ?_⟩
          have hct := ctn_lt H L S (p / 8) (p % 8)
          have hy : y = nI (ctn H L S (p / 8) (p % 8)) := hy
          rw [hy, nI_add]
          have hC2 : Cs H (trnC S p) 103 h t2 := Cs_f hC1 hf2 (fun j _ => by omega) (fun b j _ _ => by omega) (fun b j g1 g2 => by omega)
          refine WM_V (ih d (by omega) (trnC S p) (pre ++ [p]) (sp + ctn H L S (p / 8) (p % 8)) b' t2 (by rw [len_app]; omega) (by omega) (WS_trnC hW hS hp) hC2 (cL_f hf2 (by omega) (fun j => by omega) hL1) (cR_f hf2 (fun j => by omega) hR1) (cC_f hf2 (fun j => by omega) (by omega) (by omega) (cC_f hf1 (fun j => by unfold PSe PM; omega) (by unfold PSe PM; omega) (by unfold PSe PM; omega) hBt)) (by rw [len_app, hf2.2.2 100 3 (by omega), hf1.2.2 100 3 (by unfold PSe PM; omega), hft.2.2 100 3 (by unfold PCh PSe PM; omega), hD]; congr 1; omega)) fun t3 ⟨hC3, hf3, hR3, hB3⟩ => ⟨hC3.1, ?_⟩
          refine c_backTurn hW hS hC3 hp fun t4 hC4 hf4 => ?_
          exact hX' l.length _ _ _ _ _ (by rw [List.length_cons]; omega) ⟨l, _, rfl, hc.1, fun q hq => hs q (List.mem_cons_of_mem _ hq), hC4, Fi_t hft (Fi_t (Fi_m hf1 (fun b j q => Or.inl q)) (Fi_t (Fi_m hf2 (fun b j q => by unfold PCh; omega)) (Fi_t hf3 (Fi_m hf4 (fun b j q => Or.inl (Or.inl q)))))), cR_f hf4 (fun j => by unfold PM; omega) (cR_pre hR3), cC_f hf4 (fun j => by unfold PM; omega) (by unfold PM; omega) (by unfold PM; omega) hB3, hfold⟩
end C2

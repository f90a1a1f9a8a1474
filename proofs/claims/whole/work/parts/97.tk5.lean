section TK5
variable {s t σ : JH} {ts : List Nat} {i c k p : Nat}
/-! what the class's constants hold -/
def sgl : List Nat := [40, 41, 60, 61, 43, 45, 42, 59]
def swm : List Nat := [1, 2, 0, 3, 4, 5, 6, 7, 12, 13, 14, 8, 9, 10, 11, 0, 0, 0, 15, 16, 17, 0]
def Wd (σ : JH) : Prop := (∀ j w, wdl[j]? = some w → σ.2.2.1 j 1 = lN (wrd 27 w)) ∧ σ.2.2.1 21 1 = 0 ∧ (∀ j, j < 22 → σ.2.1 j 0 = nI j) ∧ (∀ j, j < 22 → σ.2.1 j 2 = bI (decide (j < 18))) ∧ (∀ j x, swm[j]? = some x → σ.2.1 22 j = nI x) ∧ σ.2.1 25 0 = nI 0 ∧ ∀ j x, sgl[j]? = some x → σ.2.1 28 j = nI x
theorem Wd_g {P : Nat → Nat → Prop} (f : Fg P s t) (hP : ∀ b j, b < 64 → ¬ P b j) (w : Wd s) : Wd t := by
  obtain ⟨w1, w2, w3, w4, w5, w6, w7⟩ := w
  have hw : ∀ j w, wdl[j]? = some w → j < 64 := fun j w e => by
    have h : j < 21 := (List.getElem?_eq_some_iff.mp e).1
    omega
  exact ⟨fun j w e => (f.2.2.1 _ _ (hP _ _ (hw j w e))).trans (w1 j w e), (f.2.2.1 _ _ (hP _ _ (by omega))).trans w2, fun j h => (f.2.1 _ _ (hP _ _ (by omega))).trans (w3 j h), fun j h => (f.2.1 _ _ (hP _ _ (by omega))).trans (w4 j h), fun j x e => (f.2.1 _ _ (hP _ _ (by omega))).trans (w5 j x e), (f.2.1 _ _ (hP _ _ (by omega))).trans w6, fun j x e => (f.2.1 _ _ (hP _ _ (by omega))).trans (w7 j x e)⟩
theorem isSn_iff (c : Nat) : isSn c = true ↔ c ∈ sgl := by
  unfold isSn sgl
  simp
  omega
theorem sgl_get {j : Nat} (h : j < 8) : ∃ x, sgl[j]? = some x ∧ x < 127 := by
  have h' : j < sgl.length := h
  have hx : ∀ x ∈ sgl, x < 127 := by decide
  exact ⟨sgl[j], List.getElem?_eq_getElem h', hx _ (List.getElem_mem h')⟩
set_option maxRecDepth 20000 in
theorem w_Sg_indexOf2 (p1 p2 : Int32) {σ : JH} (hl : Ly σ) {K : Int32 → Prop} (H : WE q_Sg_isLatin1 [.ref 25] σ (fun x1 => ¬ x1 = 0 ∧ WE q_Sg_length [.ref 25] σ (fun x2 => WE q_S1_indexOf [.ref 28, .int p1, .int p2, .int x2] σ (fun x3 => K x3)))) : WE (jf_of qp_Sg_indexOf2 3) [.ref 25, .int p1, .int p2] σ K := wm_E [some (.ref 25), some (.int p1), some (.int p2)] (Nat.le_of_ble_eq_true rfl) rfl (wp_sq (wp_sq (wp_sq (wp_if (wn_jn (wo_aload rfl (wn_nil (wc_vE [.ref 25] (ls_25 hl) rfl rfl rfl H fun x1 H => (ti_0 (A := False) (B := WE q_Sg_length [.ref 25] σ (fun x2 => WE q_S1_indexOf [.ref 28, .int p1, .int p2, .int x2] σ (fun x3 => K x3))) ((if_neg H.1).symm ▸ H.2) (fun h => h.elim) (fun H => (kk_hit (wp_go (wn_jn (wo_aload rfl (wo_getR (k := 1) (ls_25 hl) rfl (lr_25_1 hl) (wo_iload rfl (wo_iload rfl (wo_aload rfl (wn_nil (wn_jn (wc_vE [.ref 25] (ls_25 hl) rfl rfl rfl H fun x2 H => (wc_sE [.int x2, .int p2, .int p1, .ref 28] rfl rfl rfl H fun x3 H => (kk_mis rfl (kk_hit (wp_rt (wn_nil ⟨rfl, (e_I ⟨rfl, H⟩)⟩))))))))))))))))))))))))))
theorem byt_c : ∀ c, c < 127 → (nI c).toInt8.toInt32 = nI c := by decide +kernel
theorem chr_c : ∀ c, c < 127 → ((nI c).toUInt32 % 65536).toInt32 = nI c := by decide +kernel
theorem j_idx (hl : Ly σ) (W : Wd σ) (hc : c < 127) : ∃ x, q_Sg_indexOf1 [.ref 25, .int (nI c)] σ = some (some (.int x), σ) ∧ ((x < 0) ↔ isSn c = false) := by
  have hw : WE q_Sg_indexOf1 [.ref 25, .int (nI c)] σ (fun x => ((x < 0) ↔ isSn c = false)) := by
    refine w_Sg_indexOf1 _ hl (w_Sg_indexOf2 _ _ hl (w_Sg_isLatin1 hl ?_))
    rw [W.2.2.2.2.2.1, if_pos (by decide)]
    refine ⟨by decide, w_Sg_length hl (w_Sg_coder hl ⟨by rw [W.2.2.2.2.2.1]; rfl, ?_⟩)⟩
    rw [W.2.2.2.2.2.1, show (nI 8) >>> (nI 0 &&& 31) = nI 8 by decide]
    refine w_S1_indexOf _ _ _ hl (w_S1_canEncode _ hl ?_)
    rw [if_neg (by rw [nI_lt0 (by omega)]; exact id), if_neg (by rw [nI_ltN (by omega) (by omega)]; omega), if_neg (by decide)]
    refine WE_i (j_max hl (by omega) (by omega)) (WE_i (j_min hl (by omega) (by omega)) ?_)
    rw [if_pos (by decide)]
    refine w_S1_indexOfChar _ _ _ hl ?_
    rw [byt_c c hc]
    refine Lp1_inv (I := fun m v => ∃ i, i ≤ 8 ∧ m = 8 - i ∧ v = nI i ∧ ∀ j, j < i → sgl[j]? ≠ some c) ?_ (m := 8) ⟨0, by omega, rfl, rfl, fun j h => absurd h (Nat.not_lt_zero _)⟩
    rintro m v ⟨i, hi, rfl, rfl, hno⟩ X hX
    rw [show nI (min 8 8) = nI 8 from rfl]
    by_cases c8 : i = 8
    · rw [if_pos (by rw [c8, nI_leN (by omega) (by omega)]; exact Nat.le_refl _)]
      refine ⟨fun _ => ?_, fun _ => by decide⟩
      cases q : isSn c
      · rfl
      · obtain ⟨j, hj, e⟩ := List.getElem_of_mem ((isSn_iff c).mp q)
        have hj8 : j < 8 := hj
        exact absurd (by rw [List.getElem?_eq_getElem hj, e]) (hno j (by omega))
    · rw [if_neg (by rw [nI_leN (by omega) (by omega)]; omega)]
      refine ⟨by rw [inb_nI (by omega) (by omega)]; omega, ?_⟩
      obtain ⟨x, ex, hx⟩ := sgl_get (j := i) (by omega)
      rw [cl_nI (by omega), W.2.2.2.2.2.2 i x ex]
      by_cases cx : x = c
      · rw [if_pos (by rw [cx])]
        refine ⟨fun h => absurd h (by rw [nI_lt0 (by omega)]; exact id), fun h => ?_⟩
        rw [(isSn_iff c).mpr (by rw [← cx]; exact List.mem_of_getElem? ex)] at h
        cases h
      · rw [if_neg (by rw [nI_eqN (by omega) (by omega)]; exact cx), nI_add]
        refine hX (8 - (i + 1)) _ (by omega) ⟨i + 1, by omega, rfl, rfl, fun j hj => ?_⟩
        by_cases q : j = i
        · rw [q, ex]; exact fun h => cx (Option.some.inj h)
        · exact hno j (by omega)
  exact hw
/-! the class's token -/
def wo (T : Tok) : Nat := if Tk T = 1 then wix (Tl T) else 21
def nbr (T : Tok) : Int32 := if Tk T = 2 then nI (Tv T) else mI 1
def sgn (T : Tok) : Nat := if Tk T = 3 then Tv T else 0
def cTo (T : Tok) (q : Nat) (σ : JH) : Prop := σ.2.1 65 2 = nI q ∧ σ.2.1 65 3 = nI (Tp T) ∧ rf σ 65 4 = wo T ∧ σ.2.2.1 65 5 = lN (wrd 27 (Tl T)) ∧ σ.2.1 65 6 = nbr T ∧ σ.2.1 65 7 = nI (sgn T)
def PT7 (b j : Nat) : Prop := b = 65 ∧ 2 ≤ j ∧ j ≤ 7
theorem c_spelt {l : List Nat} (hl : Ly σ) (W : Wd σ) (h1 : okL l) (h2 : l.length ≤ 8) (h3 : l ≠ []) : WA q_Wo_spelt [.long (lN (wrd 27 l))] σ (fun x => x = wix l) := by
  refine w_Wo_spelt _ hl ?_
  have hle := wix_le l
  refine Lp2_inv (I := fun m v _ => ∃ i, i ≤ 22 ∧ m = 22 - i ∧ v = nI i ∧ ∀ j, j < i → j < 21 → wix l ≠ j) ?_ (m := 22) ⟨0, by omega, rfl, rfl, fun j h => absurd h (Nat.not_lt_zero _)⟩
  rintro m v o ⟨i, hi, rfl, rfl, hno⟩ X hX
  by_cases c22 : i = 22
  · rw [if_pos (by rw [c22, nI_leN (by omega) (by omega)]; exact Nat.le_refl _)]
    refine Classical.byContradiction (fun q => ?_)
    exact hno (wix l) (by omega) (by omega) rfl
  · rw [if_neg (by rw [nI_leN (by omega) (by omega)]; omega)]
    refine ⟨by rw [inb_nI (by omega) (by omega)]; omega, ?_⟩
    rw [cl_nI (by omega)]
    have go : ¬ (i < 21 ∧ wix l = i) → X (nI i + nI 1) (some (.ref i)) := fun q => by
      rw [nI_add]
      refine hX (22 - (i + 1)) _ _ (by omega) ⟨i + 1, by omega, rfl, rfl, fun j hj h21 => ?_⟩
      by_cases e : j = i
      · rw [e]; exact fun h => q ⟨by omega, h⟩
      · exact hno j (by omega) h21
    by_cases c21 : i < 21
    · obtain ⟨w, ew, ok1, ok2⟩ := wdl_get c21
      rw [W.1 i w ew]
      by_cases q : w = l
      · rw [if_pos (by rw [lg_cmp_eq, q])]
        exact ((wix_iff c21).mp (by rw [ew, q])).symm
      · rw [if_neg (by rw [lg_cmp_eq, wrd_eq27 ok1 h1 ok2 h2]; exact q)]
        exact go (fun h => q (by have := (wix_iff c21).mpr h.2; rw [ew] at this; exact Option.some.inj this))
    · have : i = 21 := by omega
      subst this
      rw [W.2.1, if_neg (by
        rw [lg_cmp_eq, show (0 : Int64) = lN (wrd 27 []) from rfl, wrd_eq27 (fun c hc => by cases hc) h1 (by decide) h2]
        exact fun q => h3 q.symm)]
      exact go (fun q => by omega)
theorem cTp_2 (f : Fi (fun b j => b = 65 ∧ j = 2) s t) (T : cTp ts s) : cTp ts t := cTp_g (Fi_g f) (by omega) (fun j => by omega) T
theorem cTp_7 (f : Fg PT7 s t) (T : cTp ts s) : cTp ts t := cTp_g f (by unfold PT7; omega) (fun j => by unfold PT7; omega) T
theorem Wd_7 (f : Fg PT7 s t) (w : Wd s) : Wd t := Wd_g f (fun b j h => by unfold PT7; omega) w
theorem c_takeSign {K : JH → Prop} (hl : Ly σ) (W : Wd σ) (T : cTp ts σ) (ok : okTp ts) (h2 : σ.2.1 65 2 = nI i) (e : ts[i]? = some c) (hK : ∀ s, Ly s → Fg PT7 σ s → s.2.1 65 2 = nI (i + 1) → (∀ j, j ≠ 2 → j ≠ 7 → s.2.1 65 j = σ.2.1 65 j) → s.2.2 = σ.2.2 → s.2.1 65 7 = (if isSn c = true then nI c else σ.2.1 65 7) → K s) : WM q_Tp_takeSign [.ref 65] σ (kV K) := by
  obtain ⟨hi, hc⟩ := tp_i ok e
  refine w_Tp_takeSign hl ?_
  rw [h2, cl_nI (by omega), T.2 i c e, chr_c c hc]
  refine ⟨by rw [inb_nI (by omega) (by omega)]; exact hi, ?_⟩
  obtain ⟨x, hx, hn⟩ := j_idx hl W hc
  refine WE_i hx ?_
  simp only [lt]
  rw [nI_add]
  by_cases q : isSn c = true
  · rw [if_neg (fun h => by rw [hn.mp h] at q; cases q)]
    refine ⟨by clear q hn hx hK e; revert c; decide +kernel, ?_⟩
    rw [show (jh_setI σ 65 7 (nI c)).2.1 65 2 = nI i from (rI_ne (by omega)).trans h2, nI_add]
    have f : Fi (fun b j => b = 65 ∧ (j = 2 ∨ j = 7)) σ (jh_setI (jh_setI σ 65 7 (nI c)) 65 2 (nI (i + 1))) := Fi_s (Fi_s (Fi_r _ _) (by omega)) (by omega)
    exact hK _ (Fi_ly f hl) (Fi_g (Fi_m f (fun b j h => by unfold PT7; omega))) rI_eq (fun j h1 h2 => f.2.2 65 j (by omega)) f.2.1 (by rw [if_pos q, rI_ne (by omega), rI_eq])
  · rw [Bool.not_eq_true] at q
    rw [if_pos (hn.mpr q)]
    have f : Fi (fun b j => b = 65 ∧ (j = 2 ∨ j = 7)) σ (jh_setI σ 65 2 (nI (i + 1))) := Fi_s (Fi_r _ _) (by omega)
    exact hK _ (Fi_ly f hl) (Fi_g (Fi_m f (fun b j h => by unfold PT7; omega))) rI_eq (fun j h1 h2 => f.2.2 65 j (by omega)) f.2.1 (by rw [q, if_neg (by decide), rI_ne (by omega)])
theorem c_takeNumber {K : JH → Prop} (hl : Ly σ) (T : cTp ts σ) (ok : okTp ts) (h2 : σ.2.1 65 2 = nI i) (h3 : σ.2.1 65 3 = nI i) (hi : i ≤ ts.length) (hK : ∀ s, Ly s → Fg PT7 σ s → s.2.1 65 2 = nI (i + spn isDg ts i) → (∀ j, j ≠ 2 → j ≠ 6 → s.2.1 65 j = σ.2.1 65 j) → s.2.2 = σ.2.2 → s.2.1 65 6 = (if spn isDg ts i ≤ 4 then nI (dgv ts i) else σ.2.1 65 6) → K s) : WM q_Tp_takeNumber [.ref 65] σ (kV K) := by
  have ok1 := ok.1
  have s2 := spn_le isDg ts i hi
  refine w_Tp_takeNumber hl ?_
  have fin : ∀ v s, Ly s → Fi (fun b j => b = 65 ∧ j = 2) σ s → s.2.1 65 2 = nI (i + spn isDg ts i) → v = nI (dgv ts i) → (if nI 4 < s.2.1 65 2 - s.2.1 65 3 then K s else lt (jh_setI s 65 6 v) (fun s4 => K s4)) := by
    intro v s l f e2 hv
    rw [e2, f.2.2 65 3 (by omega), h3, nI_subN (by omega), show i + spn isDg ts i - i = spn isDg ts i by omega]
    by_cases c4 : spn isDg ts i ≤ 4
    · rw [if_neg (by rw [nI_ltN (by omega) (by omega)]; omega)]
      have f2 : Fi (fun b j => b = 65 ∧ (j = 2 ∨ j = 6)) σ (jh_setI s 65 6 v) := Fi_s (Fi_m f (fun b j h => by omega)) (by omega)
      exact hK _ (Fi_ly f2 hl) (Fi_g (Fi_m f2 (fun b j h => by unfold PT7; omega))) ((rI_ne (by omega)).trans e2) (fun j h1 h2 => f2.2.2 65 j (by omega)) f2.2.1 (by rw [if_pos c4, rI_eq, hv])
    · rw [if_pos (by rw [nI_ltN (by omega) (by omega)]; omega)]
      exact hK _ l (Fi_g (Fi_m f (fun b j h => by unfold PT7; omega))) e2 (fun j h1 h2 => f.2.2 65 j (by omega)) f.2.1 (by rw [if_neg c4]; exact f.2.2 65 6 (by omega))
  refine Lp2_inv (I := fun m v s => ∃ j u, i ≤ j ∧ j ≤ ts.length ∧ m = ts.length - j ∧ v = nI u ∧ s.2.1 65 2 = nI j ∧ Ly s ∧ Fi (fun b j => b = 65 ∧ j = 2) σ s ∧ fld ts j u = dgv ts i ∧ j + spn isDg ts j = i + spn isDg ts i) ?_ (m := ts.length - i) ⟨i, 0, by omega, hi, rfl, rfl, h2, hl, Fi_r _ _, rfl, rfl⟩
  rintro m v s ⟨j, u, hij, hjn, rfl, rfl, e2, l, f, hf, hs⟩ X hX
  have T' := cTp_2 f T
  refine ⟨l, ?_⟩
  by_cases cj : ts.length ≤ j
  · rw [if_pos (by rw [T'.1, e2, nI_leN (by omega) (by omega)]; exact cj)]
    rw [spn_end cj] at hs
    rw [fld_end cj] at hf
    exact fin _ _ l f (by rw [e2, ← hs]; rfl) (by rw [hf])
  · rw [if_neg (by rw [T'.1, e2, nI_leN (by omega) (by omega)]; exact cj)]
    have ed : ts[j]? = some ts[j] := List.getElem?_eq_getElem (by omega)
    generalize ts[j] = d at ed
    obtain ⟨hj, hd⟩ := tp_i ok ed
    rw [e2]
    refine WE_i (c_isDigit l T' ok ed) ?_
    by_cases cd : isDg d = true
    · have db := isDg_b cd
      rw [cd, if_neg (by decide), cl_nI (by omega), T'.2 j d ed]
      refine ⟨by rw [inb_nI (by omega) (by omega)]; exact hj, ?_⟩
      simp only [lt]
      rw [nI_add, nI_subN (by omega), nI_mulN, nI_add]
      have f2 : Fi (fun b j => b = 65 ∧ j = 2) σ (jh_setI s 65 2 (nI (j + 1))) := Fi_s f ⟨rfl, rfl⟩
      refine hX (ts.length - (j + 1)) _ _ (by omega) ⟨j + 1, u * 10 + (d - 48), by omega, by omega, rfl, rfl, rI_eq, Fi_ly f2 hl, f2, ?_, ?_⟩
      · rw [← hf, fld_yes ed cd, Nat.mul_comm]
      · rw [← hs, spn_yes ed cd]; omega
    · rw [Bool.not_eq_true] at cd
      rw [cd, if_pos (by decide), ← e2]
      rw [spn_no ed cd] at hs
      rw [fld_no ed cd] at hf
      exact fin _ _ l f (by rw [e2, ← hs]; rfl) (by rw [hf])
theorem let_v {d : Nat} (h : 97 ≤ d) (h2 : d ≤ 122) (u : Nat) : (lN u * 27) + (((nI d - nI 97) + nI 1).toInt64) = lN (27 * u + (d - 96)) := by
  rw [nI_subN h, nI_add, nI_l (by omega), show (27 : Int64) = lN 27 from rfl, lN_mul, lN_add, Nat.mul_comm, show d - 97 + 1 = d - 96 by omega]
theorem c_takeWord {K : JH → Prop} (hl : Ly σ) (W : Wd σ) (T : cTp ts σ) (ok : okTp ts) (h2 : σ.2.1 65 2 = nI i) (h3 : σ.2.1 65 3 = nI i) (e : ts[i]? = some c) (hc : isLt c = true) (hK : ∀ s, Ly s → Fg PT7 σ s → s.2.1 65 2 = nI (i + spn isLt ts i) → (∀ j, j ≠ 2 → s.2.1 65 j = σ.2.1 65 j) → rf s 65 4 = (if spn isLt ts i ≤ 8 then wix (ltr ts i) else rf σ 65 4) → s.2.2.1 65 5 = (if spn isLt ts i ≤ 8 then lN (wrd 27 (ltr ts i)) else σ.2.2.1 65 5) → K s) : WM q_Tp_takeWord [.ref 65] σ (kV K) := by
  have ok1 := ok.1
  obtain ⟨hi, -⟩ := tp_i ok e
  have hin := (List.getElem?_eq_some_iff.mp e).1
  have s2 := spn_le isLt ts i (by omega)
  have s1 := spn_yes e hc
  refine w_Tp_takeWord hl ?_
  have fin : ∀ v s, Ly s → Fi (fun b j => b = 65 ∧ j = 2) σ s → s.2.1 65 2 = nI (i + spn isLt ts i) → v = lN (wrd 27 (ltr ts i)) → (if nI 8 < s.2.1 65 2 - s.2.1 65 3 then K s else lt (jh_setJ s 65 5 v) (fun s4 => WA q_Wo_spelt [.long v] s4 (fun x5 => lt (jh_setR s4 65 4 (some x5)) (fun s6 => K s6)))) := by
    intro v s l f e2 hv
    subst hv
    have fg : Fg PT7 σ s := Fi_g (Fi_m f (fun b j h => by unfold PT7; omega))
    rw [e2, f.2.2 65 3 (by omega), h3, nI_subN (by omega), show i + spn isLt ts i - i = spn isLt ts i by omega]
    by_cases c4 : spn isLt ts i ≤ 8
    · rw [if_neg (by rw [nI_ltN (by omega) (by omega)]; omega)]
      simp only [lt]
      have f4 : Fg PT7 σ (jh_setJ s 65 5 (lN (wrd 27 (ltr ts i)))) := Fg_sJ fg (by unfold PT7; omega)
      have l4 : Ly (jh_setJ s 65 5 (lN (wrd 27 (ltr ts i)))) := ly_setJ l
      obtain ⟨x, hx, hx2, hx3⟩ := c_spelt l4 (Wd_7 f4 W) (ltr_ok ts i) (by rw [ltr_len]; exact c4) (fun h => by have := ltr_len ts i; rw [h] at this; have this : 0 = spn isLt ts i := this; omega)
      subst hx3
      refine ⟨_, hx, hx2, ?_⟩
      refine hK _ (ly_put_65_4 l4 hx2) (Fg_sR f4 (by unfold PT7; omega)) e2 (fun j h1 => f.2.2 65 j (by omega)) ?_ ?_
      · rw [if_pos c4, rR_f, if_pos ⟨rfl, rfl⟩]
      · rw [if_pos c4]
        show ju s.2.2.1 65 5 (lN (wrd 27 (ltr ts i))) 65 5 = _
        unfold ju
        exact if_pos ⟨rfl, rfl⟩
    · rw [if_pos (by rw [nI_ltN (by omega) (by omega)]; omega)]
      exact hK _ l fg e2 (fun j h1 => f.2.2 65 j (by omega)) (by rw [if_neg c4]; exact Fi_rf f 65 4) (by rw [if_neg c4, f.2.1])
  simp only [JJ2]
  refine Lp2_inv (I := fun m v s => ∃ j u, i ≤ j ∧ j ≤ ts.length ∧ m = ts.length - j ∧ v = lN u ∧ s.2.1 65 2 = nI j ∧ Ly s ∧ Fi (fun b j => b = 65 ∧ j = 2) σ s ∧ flw 27 ts j u = wrd 27 (ltr ts i) ∧ j + spn isLt ts j = i + spn isLt ts i) ?_ (m := ts.length - i) ⟨i, 0, by omega, by omega, rfl, rfl, h2, hl, Fi_r _ _, flw_wrd 27 ts i, rfl⟩
  rintro m v s ⟨j, u, hij, hjn, rfl, rfl, e2, l, f, hf, hs⟩ X hX
  have T' := cTp_2 f T
  refine ⟨l, ?_⟩
  by_cases cj : ts.length ≤ j
  · rw [if_pos (by rw [T'.1, e2, nI_leN (by omega) (by omega)]; exact cj)]
    rw [spn_end cj] at hs
    rw [flw_end cj] at hf
    exact fin _ _ l f (by rw [e2, ← hs]; rfl) (by rw [hf])
  · rw [if_neg (by rw [T'.1, e2, nI_leN (by omega) (by omega)]; exact cj)]
    have ed : ts[j]? = some ts[j] := List.getElem?_eq_getElem (by omega)
    generalize ts[j] = d at ed
    obtain ⟨hj, hd⟩ := tp_i ok ed
    have w1 : q_Tp_isLetter [.ref 65, .int (s.2.1 65 2)] s = some (some (.int (bI (isLt d))), s) := by rw [e2]; exact c_isLetter l T' ok ed
    refine WE_i w1 ?_
    by_cases cd : isLt d = true
    · have db := isLt_b cd
      rw [cd, if_neg (by decide), e2, cl_nI (by omega), T'.2 j d ed, let_v db.1 db.2]
      refine ⟨by rw [inb_nI (by omega) (by omega)]; exact hj, ?_⟩
      simp only [lt]
      rw [nI_add]
      have f2 : Fi (fun b j => b = 65 ∧ j = 2) σ (jh_setI s 65 2 (nI (j + 1))) := Fi_s f ⟨rfl, rfl⟩
      refine hX (ts.length - (j + 1)) _ _ (by omega) ⟨j + 1, 27 * u + (d - 96), by omega, by omega, rfl, rfl, rI_eq, Fi_ly f2 hl, f2, ?_, ?_⟩
      · rw [← hf, flw_yes ed cd]
      · rw [← hs, spn_yes ed cd]; omega
    · rw [Bool.not_eq_true] at cd
      rw [cd, if_pos (by decide)]
      rw [spn_no ed cd] at hs
      rw [flw_no ed cd] at hf
      exact fin _ _ l f (by rw [e2, ← hs]; rfl) (by rw [hf])
end TK5

section EV2
variable {s t σ : JH} {ts : List Nat} {n k h pl : Nat} {H : Hou} {nm : Nat → List Nat} {ps : List Lin} {T : Tok} {Z : Ste}
def tkm (xs : List Nat) : Nat → Bool := fun i => decide (i ∈ xs)
theorem tkm_s {xs : List Nat} {p : Nat} : up1 (tkm xs) p true = tkm (xs ++ [p]) := by
  funext i
  unfold up1 tkm
  by_cases c : i = p
  · rw [if_pos c, c]; simp
  · rw [if_neg c]
    simp [c]
theorem getD_app {xs : List Nat} {i : Nat} {x : Nat} (e : xs[i]? = some x) : xs.getD i 0 = x := by rw [List.getD_eq_getElem?_getD, e]; rfl
theorem KE_f {e : Nat} (f0 : Fg (PPn pl) σ s) (l : Ly t) (f : Fg PT8 s t) (h8 : t.2.1 65 8 = nI e) : KE ts pl σ (.inl e) (nI 0) t := ⟨l, Or.inl rfl, Fg_t f0 (Fg_8p f), rfl, h8⟩
theorem c_ke {f : Nat} (q : cRd ts k s) (f0 : Fg (PPn pl) σ s) : WM q_Tp_faulty [.ref 65, .int (nI f)] s (kI fun y t => Ly t ∧ (y = 0 ∨ y = 1) ∧ KE ts pl σ (.inl (flt f (tok ts k))) y t) := c_flt q (fun t l g e => ⟨l, Or.inl rfl, KE_f f0 l g e⟩)
set_option maxHeartbeats 2000000 in
theorem c_planLine (q : cRd ts k σ) (ok : okTp ts) (hn : Tk (tok ts n) = 0) (hk : k ≤ n) (hh : IsHo h) (hp : IsPl pl) (hW : WH H) (hnm : ∀ k, k < Hn H → okN (nm k)) (z : cEh H nm h σ) (h30 : ps.length ≤ 30) (zp : cPn ps pl σ) : WM q_Re_planLine [.ref 67, .ref h, .ref pl] σ (kI (KE ts pl σ (smE ts (plE ts nm H k ps)))) := by
  have n8 := hW.1
  have hpl := pl_is hp
  have hho := ho_lt hh
  refine w_Re_planLine h pl q.1 hh hp (WE_i (c_namesOf q) ?_)
  have h3 := wts_3 (T := tok ts k)
  unfold plE
  by_cases c : wts (tok ts k) = 0
  · rw [if_pos (by rw [c]; rfl), if_pos c]
    exact c_ke q (Fg_r _ _)
  · rw [if_neg (by rw [nI_eq0 (by omega)]; exact c), if_neg c, zp.1]
    have h0 := tk_lt hn hk (wts_k c)
    by_cases d : 30 ≤ ps.length
    · rw [if_neg (by rw [nI_ltN (by omega) (by omega)]; omega), if_pos d]
      exact c_ke q (Fg_r _ _)
    · rw [if_pos (by rw [nI_ltN (by omega) (by omega)]; omega), if_neg d]
      have hb := bdR_ok (H := H) (nm := nm) (m := wts (tok ts k)) ok hn (wts (tok ts k)) (k + 1) [] h0 (fun p h => by cases h)
      generalize hm : wts (tok ts k) = m at *
      generalize hR : bdR ts nm H m m (k + 1) [] = R
      refine JJ1w (fun v4 => v4 = nI (msk (evF H m) (Hn H))) ?_ (fun fin => c_evb q.1 hh hW z.1 c (fin _ rfl) h3)
      rintro v4 rfl
      refine Lp4_inv (I := fun r v6 v7 _ s => ∃ xs : List Nat, xs.length ≤ m ∧ r = m - xs.length ∧ v6 = nI (msk (tkm xs) 8) ∧ v7 = nI xs.length ∧ cRd ts (k + xs.length) s ∧ Fg (PPn pl) σ s ∧ cPn ps pl s ∧ (∀ i x, xs[i]? = some x → s.2.1 (pl + 2) (3 * ps.length + i) = nI x) ∧ bdR ts nm H m (m - xs.length) (k + 1 + xs.length) xs = R) ?_ (m := m) ⟨[], Nat.zero_le _, rfl, by rw [msk_0 (f := tkm []) (fun k _ => by unfold tkm; simp)], rfl, q, Fg_r _ _, zp, fun i x e => (by cases e), hR⟩
      rintro r v6 v7 o8 s ⟨xs, hx, rfl, rfl, rfl, qs, F, zs, hc, hr⟩ X hX
      refine ⟨qs.1, ?_⟩
      by_cases cx : m ≤ xs.length
      · rw [if_pos (by rw [nI_leN (by omega) (by omega)]; exact cx)]
        have ex : xs.length = m := by omega
        rw [show m - xs.length = 0 by omega] at hr
        have hr : R = .inr xs := hr.symm
        rw [hr]
        refine w_Pl_closeLine pl _ qs.1 hp ?_
        rw [zs.1, if_neg (by rw [nI_leN (by omega) (by omega)]; exact d), cl_nI (by omega)]
        refine ⟨by rw [inb_nI (by omega) (by omega)]; omega, ?_⟩
        simp only [lt]
        rw [rI_ne (by omega), zs.1, nI_add]
        have f2 : Fi (PPo pl) s (jh_setI (jh_setI s (pl + 1) ps.length (nI m)) pl 2 (nI (ps.length + 1))) := Fi_s (Fi_s (Fi_r _ _) (by unfold PPo; omega)) (by unfold PPo; omega)
        have l2 := Fi_ly f2 qs.1
        refine ⟨l2, ?_⟩
        have z2 : cPn (ps ++ [lnE m xs]) pl (jh_setI (jh_setI s (pl + 1) ps.length (nI m)) pl 2 (nI (ps.length + 1))) := by
          have gx : ∀ i, i < m → s.2.1 (pl + 2) (3 * ps.length + i) = nI (xs.getD i 0) := fun i hi => by
            have hi' : i < xs.length := by omega
            rw [getD_app (List.getElem?_eq_getElem hi')]
            exact hc i _ (List.getElem?_eq_getElem hi')
          refine ⟨by rw [rI_eq, List.length_append]; rfl, fun i p e => ?_⟩
          rcases app_get e with ⟨g1, g2⟩ | ⟨g1, g2⟩
          · obtain ⟨w1, w2, w3, w4⟩ := zs.2 i p g2
            exact ⟨(rI_ne (by omega)).trans ((rI_ne (by omega)).trans w1), (rI_ne (by omega)).trans ((rI_ne (by omega)).trans w2), fun g => (rI_ne (by omega)).trans ((rI_ne (by omega)).trans (w3 g)), fun g => (rI_ne (by omega)).trans ((rI_ne (by omega)).trans (w4 g))⟩
          · subst g1; subst g2
            refine ⟨(rI_ne (by omega)).trans rI_eq, (rI_ne (by omega)).trans ((rI_ne (by omega)).trans (gx 0 (by omega))), fun g => (rI_ne (by omega)).trans ((rI_ne (by omega)).trans (gx 1 ?_)), fun g => (rI_ne (by omega)).trans ((rI_ne (by omega)).trans (gx 2 ?_))⟩
            · have g : 2 ≤ m := g; omega
            · have g : 3 ≤ m := g; omega
        generalize jh_setI (jh_setI s (pl + 1) ps.length (nI m)) pl 2 (nI (ps.length + 1)) = s2 at f2 l2 z2 ⊢
        refine c_adv (cRd_p hp (Fi_g f2) l2 qs) ok (fun s3 q3 f3 => ?_)
        have F3 : Fg (PPn pl) σ s3 := Fg_t F (Fg_t (Fg_op (Fi_g f2)) (Fg_7p f3))
        have z3 := cPn_8 hp (Fg_78' f3) z2
        rw [show k + xs.length + 1 = k + 1 + m by omega] at q3
        have er : smE ts (match (Sum.inr xs : Nat ⊕ List Nat) with
          | .inl e => .inl e
          | .inr xs => .inr (k + 1 + m, ps ++ [lnE m xs])) = if isS 59 (tok ts (k + 1 + m)) = true then .inr (k + 1 + m + 1, ps ++ [lnE m xs]) else .inl (flt 1 (tok ts (k + 1 + m))) := rfl
        rw [er]
        refine c_pass q3 ok (by omega) (by omega) (fun c5 t qt ft => ⟨qt.1, Or.inr rfl, ?_⟩) (fun c5 t lt' ft et => ⟨lt', Or.inl rfl, ?_⟩)
        · rw [if_pos c5]
          exact ⟨qt.1, Or.inr rfl, Fg_t F3 (Fg_8p ft), rfl, qt, cPn_8 hp ft z3⟩
        · rw [c5, if_neg (by decide)]
          exact KE_f F3 lt' ft et
      · rw [if_neg (by rw [nI_leN (by omega) (by omega)]; exact cx)]
        refine c_adv qs ok (fun s3 q3 f3 => ?_)
        have F3 : Fg (PPn pl) σ s3 := Fg_t F (Fg_7p f3)
        have z3 := cPn_8 hp (Fg_78' f3) zs
        have E3 := cEh_p hh hp F3 z
        rw [show k + xs.length + 1 = k + 1 + xs.length by omega] at q3
        obtain ⟨g, hg⟩ : ∃ g, m - xs.length = g + 1 := ⟨m - xs.length - 1, by omega⟩
        rw [hg] at hr
        unfold bdR at hr
        refine c_told q3 ok hh n8 E3.1.1 E3.2 hnm (fun p hp' => ⟨q3.1, ?_⟩) (fun e t he l f e8 => ⟨l, ?_⟩)
        · have pb := (tld_ok (nm := nm) (m := Hn H) (F := evF H m) (k := k + 1 + xs.length) ok).2 p hp'
          rw [hp'] at hr
          have hr : (if p ∈ xs then Sum.inl (flt 3 (tok ts (k + 1 + xs.length))) else bdR ts nm H m g (k + 1 + xs.length + 1) (xs ++ [p])) = R := hr
          rw [if_neg (by rw [nI_m1 (by omega)]; exact id), bk_get (by omega) (show p < 8 by omega), bk_set (by omega) (show p < 8 by omega), tkm_s]
          by_cases cp : p ∈ xs
          · rw [if_pos cp] at hr
            rw [if_pos (by unfold tkm; rw [decide_eq_true cp]; rfl), ← hr]
            exact c_ke q3 F3
          · rw [if_neg cp] at hr
            rw [if_neg (by unfold tkm; rw [decide_eq_false cp]; decide)]
            refine w_Pl_put pl _ _ q3.1 hp ?_
            rw [z3.1, if_neg (by rw [nI_leN (by omega) (by omega)]; exact d), if_neg (by rw [nI_lt0 (by omega)]; exact id), if_neg (by rw [nI_leN (by omega) (by omega)]; omega), nI_mulN, nI_add, cl_nI (by omega), nI_add]
            refine ⟨by rw [inb_nI (by omega) (by omega)]; omega, ?_⟩
            simp only [lt]
            have f4 : Fi (fun b j => b = pl + 2 ∧ j = ps.length * 3 + xs.length) s3 (jh_setI s3 (pl + 2) (ps.length * 3 + xs.length) (nI p)) := Fi_s (Fi_r _ _) ⟨rfl, rfl⟩
            have e4 : (jh_setI s3 (pl + 2) (ps.length * 3 + xs.length) (nI p)).2.1 (pl + 2) (ps.length * 3 + xs.length) = nI p := rI_eq
            have l4 := Fi_ly f4 q3.1
            have fo4 : Fg (PPo pl) s3 (jh_setI s3 (pl + 2) (ps.length * 3 + xs.length) (nI p)) := Fi_g (Fi_m f4 (fun b j g => by unfold PPo; omega))
            generalize jh_setI s3 (pl + 2) (ps.length * 3 + xs.length) (nI p) = s4 at f4 e4 l4 fo4 ⊢
            refine ⟨l4, ?_⟩
            have z4 : cPn ps pl s4 := by
              refine ⟨(f4.2.2 _ _ (by omega)).trans z3.1, fun i p e => ?_⟩
              have hi := (List.getElem?_eq_some_iff.mp e).1
              obtain ⟨w1, w2, w3, w4⟩ := z3.2 i p e
              exact ⟨(f4.2.2 _ _ (by omega)).trans w1, (f4.2.2 _ _ (by omega)).trans w2, fun g => (f4.2.2 _ _ (by omega)).trans (w3 g), fun g => (f4.2.2 _ _ (by omega)).trans (w4 g)⟩
            have ln : (xs ++ [p]).length = xs.length + 1 := by rw [List.length_append]; rfl
            refine hX (m - (xs.length + 1)) _ _ _ _ (by omega) ⟨xs ++ [p], by omega, by rw [ln], rfl, by rw [ln], ?_, Fg_t F3 (Fg_op fo4), z4, fun i x e => ?_, ?_⟩
            · rw [ln, show k + (xs.length + 1) = k + 1 + xs.length by omega]
              exact cRd_p hp fo4 l4 q3
            · rcases app_get e with ⟨g1, g2⟩ | ⟨g1, g2⟩
              · rw [f4.2.2 _ _ (by omega), f3.2.1 _ _ (by unfold PT7; omega)]; exact hc i x g2
              · rw [g1, g2, show 3 * ps.length + xs.length = ps.length * 3 + xs.length by omega]; exact e4
            · rw [ln, show m - (xs.length + 1) = g by omega]; exact hr
        · rw [he] at hr
          rw [if_pos rfl, ← hr]
          exact KE_f F3 l f e8
def PRp (pl b j : Nat) : Prop := (b = 65 ∧ 1 ≤ j) ∨ (pl ≤ b ∧ b < pl + 3)
def CEz (pl : Nat) (r : Nat ⊕ List Lin) (y : Int32) (s : JH) : Prop := match r with
  | .inl e => y = nI e
  | .inr ps => y = nI 0 ∧ cPn ps pl s
theorem c_readPlan (hl : Ly σ) (W : Wd σ) (hT : cTp ts σ) (ok : okTp ts) (hh : IsHo h) (hp : IsPl pl) (hW : WH H) (hnm : ∀ k, k < Hn H → okN (nm k)) (z : cEh H nm h σ) : WM q_Re_readPlan [.ref 67, .ref h, .ref pl] σ (kI fun y s => Ly s ∧ Fg (PRp pl) σ s ∧ s.2.1 65 1 = nI 0 ∧ CEz pl (evTo ts nm H 1000 0 []) y s) := by
  have hpl := pl_is hp
  have hho := ho_lt hh
  obtain ⟨n, hn1, hn⟩ := tok_n ok
  refine w_Re_readPlan h pl hl hh hp ?_
  refine w_Pl_clear pl hl hp ?_
  simp only [lt]
  have f1 : Fi (PPo pl) σ (jh_setI σ pl 2 (nI 0)) := Fi_s (Fi_r _ _) (by unfold PPo; omega)
  have e1 : (jh_setI σ pl 2 (nI 0)).2.1 pl 2 = nI 0 := rI_eq
  have l1 := Fi_ly f1 hl
  generalize jh_setI σ pl 2 (nI 0) = s1 at f1 e1 l1
  have g1 := Fi_g f1
  have W1 : Wd s1 := Wd_g g1 (fun b j h => by unfold PPo; omega) W
  have T1 : cTp ts s1 := cTp_g g1 (by unfold PPo; omega) (fun j => by unfold PPo; omega) hT
  refine ⟨l1, ?_⟩
  refine WM_V (c_rewind l1 W1 T1 ok) (fun s2 v2 => ?_)
  obtain ⟨l2, f2, q2, e2⟩ := v2
  refine ⟨l2, ?_⟩
  have Q2 : cRd ts 0 s2 := ⟨l2, Wd_g f2 (fun b j h => by unfold PT8; omega) W1, cTp_g f2 (by unfold PT8; omega) (fun j => by unfold PT8; omega) T1, q2, e2⟩
  have F2 : Fg (PPn pl) σ s2 := Fg_t (Fg_op g1) (Fg_8p f2)
  have Z2 : cPn [] pl s2 := ⟨(f2.2.1 _ _ (by unfold PT8; omega)).trans e1, fun i q e => by cases e⟩
  have PnR : ∀ {b j : Nat}, PPn pl b j → PRp pl b j := fun q => by unfold PPn at q; unfold PRp; omega
  refine Lp3_inv (I := fun m v3 v4 s => Ly s ∧ Fg (PPn pl) σ s ∧ ((∃ e, v3 = nI 0 ∧ evTo ts nm H 1000 0 [] = .inl e ∧ s.2.1 65 8 = nI e) ∨ (∃ i k ps, v3 = nI 1 ∧ v4 = nI i ∧ i ≤ 1000 ∧ m = 1000 - i ∧ cRd ts k s ∧ k ≤ n ∧ ps.length ≤ 30 ∧ (∀ l ∈ ps, okP H l) ∧ cPn ps pl s ∧ evTo ts nm H (1000 - i) k ps = evTo ts nm H 1000 0 []))) ?_ (m := 1000) ⟨l2, F2, Or.inr ⟨0, 0, [], rfl, rfl, by omega, rfl, Q2, Nat.zero_le _, Nat.zero_le _, fun l h => (by cases h), Z2, rfl⟩⟩
  rintro m v3 v4 s ⟨l, F, v⟩ X hX
  refine ⟨l, ?_⟩
  rcases v with ⟨e, rfl, he, h8⟩ | ⟨i, k, ps, rfl, rfl, hi, rfl, qs, hk, hps, hop, zs, hr⟩
  · rw [if_pos (by decide)]
    refine c_finish l (fun u lu fu eu => ⟨lu, lu, Fg_t (Fg_m F (fun b j => PnR)) (Fi_g (Fi_m fu (fun b j q => by unfold PRp; omega))), eu, ?_⟩)
    rw [he]
    exact h8
  · have good : evTo ts nm H 1000 0 [] = .inr ps → WM q_Tp_finish [.ref 65] s (kI fun x8 s9 => Ly s9 ∧ (fun y s => Ly s ∧ Fg (PRp pl) σ s ∧ s.2.1 65 1 = nI 0 ∧ CEz pl (evTo ts nm H 1000 0 []) y s) x8 s9) := by
      intro he
      refine c_finish l (fun u lu fu eu => ⟨lu, lu, Fg_t (Fg_m F (fun b j => PnR)) (Fi_g (Fi_m fu (fun b j q => by unfold PRp; omega))), eu, ?_⟩)
      rw [he]
      exact ⟨qs.2.2.2.2, cPn_g (Fi_g fu) (fun b j h1 h2 => by omega) zs⟩
    rw [if_neg (by decide)]
    by_cases ci : 1000 ≤ i
    · rw [if_pos (by rw [nI_leN (by omega) (by omega)]; exact ci)]
      rw [show 1000 - i = 0 by omega] at hr
      exact good hr.symm
    · rw [if_neg (by rw [nI_leN (by omega) (by omega)]; exact ci)]
      obtain ⟨g, hg⟩ : ∃ g, 1000 - i = g + 1 := ⟨1000 - i - 1, by omega⟩
      rw [hg] at hr
      unfold evTo at hr
      refine WE_i (c_atEnd l qs.2.2.1 ok qs.2.2.2.1) ?_
      by_cases c0 : Tk (tok ts k) = 0
      · rw [if_pos c0] at hr
        rw [decide_eq_true c0, if_neg (by decide)]
        exact good hr.symm
      · rw [if_neg c0] at hr
        rw [decide_eq_false c0, if_pos (by decide)]
        have hok := smE_ok ok hn (plE_ok (nm := nm) ok hn hk hps hop)
        refine WM_I (c_planLine qs ok hn hk hh hp hW hnm (cEh_p hh hp F z) hps zs) (fun y t w => ?_)
        obtain ⟨w1, w2, w3, w4⟩ := w
        refine ⟨w1, ?_⟩
        rw [nI_add]
        have Ft := Fg_t F w3
        cases e : smE ts (plE ts nm H k ps) with
        | inl x =>
          rw [e] at w4 hr
          exact hX (1000 - (i + 1)) _ _ _ (by omega) ⟨w1, Ft, Or.inl ⟨x, w4.1, hr.symm, w4.2⟩⟩
        | inr p =>
          rw [e] at w4 hr hok
          exact hX (1000 - (i + 1)) _ _ _ (by omega) ⟨w1, Ft, Or.inr ⟨i + 1, p.1, p.2, w4.1, rfl, by omega, rfl, w4.2.1, hok.2.1, hok.2.2.1, hok.2.2.2, w4.2.2, by rw [show 1000 - (i + 1) = g by omega]; exact hr⟩⟩
/-- the state behind an evening that was told -/
def zE (Z : Ste) (ps : List Lin) : Ste := (tH Z, tL Z, tN Z, ps, tF Z, tU Z, tK Z, [])
theorem WZ_E (hZ : WZ Z) (h1 : ps.length ≤ 30) (h2 : ∀ l ∈ ps, okP (tH Z) l) : WZ (zE Z ps) := by
  obtain ⟨w1, w2, w3, w4, w5, w6, w7, w8, w9, w10⟩ := hZ
  exact ⟨w1, w2, w3, w4, w5, h1, h2, w8, Nat.zero_le _, fun c h => by cases h⟩
theorem pl_sp (hp : IsPl pl) : IsPl (185 - pl) := by rcases hp with rfl | rfl <;> unfold IsPl <;> omega
theorem c_evening (hZ : WZ Z) (W : Wd σ) (z : Rc Z h pl σ) : WM q_Ct_evening [.ref 64] σ (kI fun y s => (match evTo (tT Z) (tN Z) (tH Z) 1000 0 [] with
    | .inl e => y = nI e ∧ ∃ h' pl', Rc (zT Z []) h' pl' s
    | .inr ps => y = nI 0 ∧ ∃ h' pl', Rc (zE Z ps) h' pl' s) ∧ Fg (fun b _ => 64 ≤ b ∧ b < 204) σ s) := by
  have ok := WZ_tp hZ
  obtain ⟨n, hn1, hn⟩ := tok_n ok
  have hok := evTo_ok (H := tH Z) (nm := tN Z) ok hn 1000 0 [] (Nat.zero_le _) (Nat.zero_le _) (fun l h => by cases h)
  obtain ⟨⟨l0, l1, l2, l3, l4, l5, l6⟩, z1, z2, z3, z4, z5, z6, z7, z8⟩ := id z
  have hh := ho_is l1
  have hp := pl_is l2
  have hs := pl_sp l2
  refine w_Ct_evening l0 ?_
  rw [l3, l6]
  refine WM_I (c_readPlan l0 W z8 ok l1 hs hZ.1 (fun k hk => (hZ.2.2.2.2.1 k hk).1) ⟨z1, z3⟩) (fun y s2 v => ?_)
  obtain ⟨k1, k2, k3, k4⟩ := v
  refine ⟨k1, ?_⟩
  have F2 : Fg (fun b _ => 64 ≤ b ∧ b < 204) σ s2 := Fg_m k2 (fun b j q => by unfold PRp at q; omega)
  have hT2 : cTp [] s2 := ⟨k3, fun i c e => by cases e⟩
  have Z2 : Rc (zT Z []) h pl s2 := Rc_x z k2 k1 (fun b j _ _ q => by unfold PRp at q; unfold PcX; omega) hT2
  cases e : evTo (tT Z) (tN Z) (tH Z) 1000 0 [] with
  | inl x =>
    rw [e] at k4 hok
    have k4 : y = nI x := k4
    have hok : 1 ≤ x ∧ x < 20000 := hok
    rw [if_neg (by rw [k4, nI_eq0 (by omega)]; omega)]
    exact ⟨⟨k4, h, pl, Z2⟩, F2⟩
  | inr ps =>
    rw [e] at k4
    obtain ⟨y0, y1⟩ := k4
    rw [if_pos (by rw [y0]; rfl)]
    obtain ⟨⟨m0, m1, m2, m3, m4, m5, m6⟩, c1, c2, c3, c4, c5, c6, c7, c8⟩ := Z2
    show lt (jh_setR s2 64 12 (some (rf s2 64 11))) _
    show (fun y s => (y = nI 0 ∧ ∃ h' pl', Rc (zE Z ps) h' pl' s) ∧ Fg (fun b _ => 64 ≤ b ∧ b < 204) σ s) (nI 0) (jh_setR (jh_setR s2 64 12 (some (rf s2 64 11))) 64 11 (some (rf s2 64 12)))
    rw [m5, m6]
    have l4' : Ly (jh_setR (jh_setR s2 64 12 (some pl)) 64 11 (some (185 - pl))) := ly_put_64_11 (ly_put_64_12 k1 l2) hs
    have f4 : Fg (fun b j => b = 64 ∧ (j = 11 ∨ j = 12)) s2 (jh_setR (jh_setR s2 64 12 (some pl)) 64 11 (some (185 - pl))) := Fg_sR (Fg_sR (Fg_r _ _) (by omega)) (by omega)
    have q11 : rf (jh_setR (jh_setR s2 64 12 (some pl)) 64 11 (some (185 - pl))) 64 11 = 185 - pl := by rw [rR_f, if_pos ⟨rfl, rfl⟩]
    have q12 : rf (jh_setR (jh_setR s2 64 12 (some pl)) 64 11 (some (185 - pl))) 64 12 = pl := by rw [rR_f, if_neg (by omega), rR_f, if_pos ⟨rfl, rfl⟩]
    have q9 : rf (jh_setR (jh_setR s2 64 12 (some pl)) 64 11 (some (185 - pl))) 64 9 = h := by rw [rR_f, if_neg (by omega), rR_f, if_neg (by omega)]; exact m3
    have q10 : rf (jh_setR (jh_setR s2 64 12 (some pl)) 64 11 (some (185 - pl))) 64 10 = 149 - h := by rw [rR_f, if_neg (by omega), rR_f, if_neg (by omega)]; exact m4
    have i4 : ∀ b j, (jh_setR (jh_setR s2 64 12 (some pl)) 64 11 (some (185 - pl))).2.1 b j = s2.2.1 b j := fun b j => rfl
    generalize jh_setR (jh_setR s2 64 12 (some pl)) 64 11 (some (185 - pl)) = s4 at l4' f4 q11 q12 q9 q10 i4
    refine ⟨⟨rfl, h, 185 - pl, ⟨l4', l1, hs, q9, q10, q11, by rw [q12]; omega⟩, cH_g f4 (fun b j g1 g2 => by omega) c1, cL_g f4 (by omega) (fun j => by omega) c2, cNm_g f4 (fun j => by omega) c3, cFu_g f4 (fun b j g1 g2 => by omega) c4, ?_, ?_, cPn_g f4 (fun b j g1 g2 => by omega) y1, cTp_g f4 (by omega) (fun j => by omega) c8⟩, Fg_t F2 (Fg_m f4 (fun b j q => by omega))⟩
    · exact cPa_g f4 ⟨by omega, by omega⟩ (fun b j g1 g2 => by omega) c5
    · exact cMk_g f4 (by omega) (fun b j g1 g2 => by omega) c6
end EV2

/-! ===== cellar ===== -/
section EC
variable {Z : Ste} {h pl : Nat} {s t σ : JH} {P : Nat → Nat → Prop} {ts : List Nat} {n k : Nat} {Q : Qs}
def PcX (h pl b j : Nat) : Prop := PcT b j ∨ (65 ≤ b ∧ b ≤ 67) ∨ (149 - h ≤ b ∧ b < 149 - h + 11) ∨ (185 - pl ≤ b ∧ b < 185 - pl + 3)
theorem Rc_x {ts : List Nat} (z : Rc Z h pl s) (f : Fg P s t) (hl : Ly t) (hP : ∀ b j, 64 ≤ b → b < 204 → P b j → PcX h pl b j) (hT : cTp ts t) : Rc (zT Z ts) h pl t := by
  obtain ⟨⟨l0, l1, l2, l3, l4, l5, l6⟩, z1, z2, z3, z4, z5, z6, z7, z8⟩ := z
  have hh := ho_is l1
  have hp := pl_is l2
  have no : ∀ b j, 64 ≤ b → b < 204 → ¬ PcX h pl b j → ¬ P b j := fun b j g1 g2 g3 g4 => g3 (hP b j g1 g2 g4)
  have r : ∀ j, rf t 64 j = rf s 64 j := fun j => by
    show (t.2.2.2 64 j).getD 0 = (s.2.2.2 64 j).getD 0
    rw [f.2.2.2 64 j (no _ _ (by omega) (by omega) (by unfold PcX PcT; omega))]
  exact ⟨⟨hl, l1, l2, (r 9).trans l3, (r 10).trans l4, (r 11).trans l5, (r 12).trans l6⟩, cH_g f (fun b j g1 g2 => no b j (by omega) (by omega) (by unfold PcX PcT; omega)) z1, cL_g f (no _ _ (by omega) (by omega) (by unfold PcX PcT; omega)) (fun j => no _ _ (by omega) (by omega) (by unfold PcX PcT; omega)) z2, cNm_g f (fun j => no _ _ (by omega) (by omega) (by unfold PcX PcT; omega)) z3, cFu_g f (fun b j g1 g2 => no b j (by omega) (by omega) (by unfold PcX PcT; omega)) z4, cPa_g f ⟨no _ _ (by omega) (by omega) (by unfold PcX PcT; omega), no _ _ (by omega) (by omega) (by unfold PcX PcT; omega)⟩ (fun b j g1 g2 => no b j (by omega) (by omega) (by unfold PcX PcT; omega)) z5, cMk_g f (no _ _ (by omega) (by omega) (by unfold PcX PcT; omega)) (fun b j g1 g2 => no b j (by omega) (by omega) (by unfold PcX PcT; omega)) z6, cPn_g f (fun b j g1 g2 => no b j (by omega) (by omega) (by unfold PcX PcT; omega)) z7, hT⟩
def PmX (b j : Nat) : Prop := PmT b j ∨ (b = 204 ∧ j = 2) ∨ (b = 210 ∧ 180 ≤ j) ∨ (b = 211 ∧ 1100 ≤ j) ∨ (b = 212 ∧ 1100 ≤ j) ∨ (b = 215 ∧ 125 ≤ j)
theorem mL_x {L : Option Lws} (f : Fg P s t) (hP : ∀ b j, 210 ≤ b → b ≤ 212 → (b = 210 → j < 180) → (b ≠ 210 → j < 1100) → ¬ P b j) (q : mL L s) : mL L t := by
  have e : ∀ b j, 210 ≤ b → b ≤ 212 → (b = 210 → j < 180) → (b ≠ 210 → j < 1100) → t.2.1 b j = s.2.1 b j := fun b j h1 h2 h3 h4 => f.2.1 b j (hP b j h1 h2 h3 h4)
  rcases q with ⟨q1, q2⟩ | ⟨M, q1, q2, q3, q4, q5, q6⟩
  · exact Or.inl ⟨q1, (e _ _ (by omega) (by omega) (by omega) (by omega)).trans q2⟩
  · refine Or.inr ⟨M, q1, (e _ _ (by omega) (by omega) (by omega) (by omega)).trans q2, q3, q4, fun i q h => ?_, (e _ _ (by omega) (by omega) (by omega) (by omega)).trans q6⟩
    have hi := (List.getElem?_eq_some_iff.mp h).1
    exact ⟨(e _ _ (by omega) (by omega) (by omega) (by omega)).trans (q5 i q h).1, (e _ _ (by omega) (by omega) (by omega) (by omega)).trans (q5 i q h).2⟩
theorem mH_x {H : Hou} (n8 : Hn H ≤ 8) (f : Fg P s t) (hP : ∀ j, j < 180 → ¬ P 210 j) (q : mH H s) : mH H t := by
  obtain ⟨q1, q2, q3, q4, q5, q6, q7, q8⟩ := q
  have e : ∀ j, j < 180 → t.2.1 210 j = s.2.1 210 j := fun j hj => f.2.1 210 j (hP j hj)
  exact ⟨(e _ (by omega)).trans q1, (e _ (by omega)).trans q2, fun k hk => (e _ (by omega)).trans (q3 k hk), fun k hk => (e _ (by omega)).trans (q4 k hk), fun k hk => (e _ (by omega)).trans (q5 k hk), fun k hk => (e _ (by omega)).trans (q6 k hk), fun k hk i hi => (e _ (by omega)).trans (q7 k hk i hi), fun k hk i hi => (e _ (by omega)).trans (q8 k hk i hi)⟩
theorem Rm_x {ts : List Nat} (hZ : WZ Z) (z : Rm Z s) (f : Fg P s t) (hl : Ly t) (hP : ∀ b j, 204 ≤ b → b < 229 → P b j → PmX b j) (hT : mTp ts t) : Rm (zT Z ts) t := by
  obtain ⟨z0, z1, z2, z3, z4, z5, z6, z7, z8⟩ := z
  obtain ⟨w1, w2, w3, w4, w5, w6, w7, w8, w9, w10⟩ := hZ
  have n8 := w1.1
  have no : ∀ b j, 204 ≤ b → b < 229 → ¬ PmX b j → ¬ P b j := fun b j g1 g2 g3 g4 => g3 (hP b j g1 g2 g4)
  exact ⟨hl, ⟨mH_x n8 f (fun j hj => no _ _ (by omega) (by omega) (by unfold PmX PmT; omega)) z1.1, mL_x f (fun b j h1 h2 h3 h4 => no _ _ (by omega) (by omega) (by unfold PmX PmT; omega)) z1.2⟩, ⟨(f.2.1 _ _ (no _ _ (by omega) (by omega) (by unfold PmX PmT; omega))).trans z2.1, (f.2.1 _ _ (no _ _ (by omega) (by omega) (by unfold PmX PmT; omega))).trans z2.2.1, fun j w e => (f.2.2.1 _ _ (no _ _ (by omega) (by omega) (by unfold PmX PmT; omega))).trans (z2.2.2 j w e)⟩, ⟨(f.2.1 _ _ (no _ _ (by omega) (by omega) (by unfold PmX PmT; omega))).trans z3.1, fun k hk => (f.2.2.1 _ _ (no _ _ (by omega) (by omega) (by unfold PmX PmT; omega))).trans (z3.2 k hk)⟩, mFu_g n8 f (fun j _ _ => no _ _ (by omega) (by omega) (by unfold PmX PmT; omega)) z4, mPa_g n8 w8 f (no _ _ (by omega) (by omega) (by unfold PmX PmT; omega)) (fun j _ _ => no _ _ (by omega) (by omega) (by unfold PmX PmT; omega)) z5, mMk_g n8 f (fun j => no _ _ (by omega) (by omega) (by unfold PmX PmT; omega)) (fun j _ _ => no _ _ (by omega) (by omega) (by unfold PmX PmT; omega)) z6, mPn_g w6 f (fun j _ => no _ _ (by omega) (by omega) (by unfold PmX PmT; omega)) z7, hT⟩
/-- the state behind a cellar that was told -/
def zC (Q : Qs) : Ste := (qH Q, qL Q, qN Q, [], (S0 (qH Q), nI 0, []), [], (fun _ => none), [])
theorem WZ_C (hQ : WQ Q) : WZ (zC Q) := ⟨hQ.1, WS_0 hQ.1, fun q h => (by cases h), fun i q h => (by cases h), hQ.2.2.2.1, Nat.zero_le _, fun q h => (by cases h), Nat.zero_le _, Nat.zero_le _, fun c h => (by cases h)⟩
theorem WZ_T0 (hZ : WZ Z) : WZ (zT Z []) := by
  obtain ⟨w1, w2, w3, w4, w5, w6, w7, w8, w9, w10⟩ := hZ
  exact ⟨w1, w2, w3, w4, w5, w6, w7, w8, Nat.zero_le _, fun c h => by cases h⟩
theorem WZ_tp (hZ : WZ Z) : okTp (tT Z) := ⟨hZ.2.2.2.2.2.2.2.2.1, hZ.2.2.2.2.2.2.2.2.2⟩
/-- agreement of a call that needs the class's words -/
def Agw (fC : JF) (vC : List Value) (fM : JF) (vM : List Value) (Z : Ste) : Prop := ∃ x Z', WZ Z' ∧ (∀ h pl σ, Wd σ → Rc Z h pl σ → WM fC vC σ (kI fun y s => y = x ∧ (∃ h' pl', Rc Z' h' pl' s) ∧ Fg (fun b _ => 64 ≤ b ∧ b < 204) σ s)) ∧ (∀ σ, Rm Z σ → WM fM vM σ (kI fun y s => y = x ∧ Rm Z' s ∧ Fg (fun b _ => 204 ≤ b ∧ b < 229) σ s))
theorem Agr_w {fC fM : JF} {vC vM : List Value} (a : Agr fC vC fM vM Z) : Agw fC vC fM vM Z := by
  obtain ⟨x, Z', h1, h2, h3⟩ := a
  exact ⟨x, Z', h1, fun h pl σ _ z => h2 h pl σ z, h3⟩
theorem ho_sp (hh : IsHo h) : IsHo (149 - h) := by rcases hh with rfl | rfl <;> unfold IsHo <;> omega
set_option maxHeartbeats 1000000 in
theorem c_cellar (hZ : WZ Z) (W : Wd σ) (z : Rc Z h pl σ) : WM q_Ct_cellar [.ref 64] σ (kI fun y s => (match hsR (tT Z) 1000 0 Q00 with
    | .inl e => y = nI e ∧ ∃ h' pl', Rc (zT Z []) h' pl' s
    | .inr Q => y = nI 0 ∧ ∃ h' pl', Rc (zC Q) h' pl' s) ∧ Fg (fun b _ => 64 ≤ b ∧ b < 204) σ s) := by
  have ok := WZ_tp hZ
  obtain ⟨n, hn1, hn⟩ := tok_n ok
  have hok := hsR_ok ok hn hn1 1000 0 Q00 (Nat.zero_le _) WQ_00
  obtain ⟨⟨l0, l1, l2, l3, l4, l5, l6⟩, z1, z2, z3, z4, z5, z6, z7, z8⟩ := id z
  have hh := ho_is l1
  have hp := pl_is l2
  have hs := ho_sp l1
  refine w_Ct_cellar l0 ?_
  rw [l4]
  refine WM_I (c_readHouse l0 W z8 ok hs) (fun y s2 v => ?_)
  obtain ⟨k1, k2, k3, k4⟩ := v
  refine ⟨k1, ?_⟩
  have F2 : Fg (fun b _ => 64 ≤ b ∧ b < 204) σ s2 := Fg_m k2 (fun b j q => by unfold PRh at q; omega)
  have hT2 : cTp [] s2 := ⟨k3, fun i c e => by cases e⟩
  cases e : hsR (tT Z) 1000 0 Q00 with
  | inl x =>
    rw [e] at k4 hok
    have k4 : y = nI x := k4
    have hok : 1 ≤ x ∧ x < 20000 := hok
    rw [if_neg (by rw [k4, nI_eq0 (by omega)]; omega)]
    exact ⟨⟨k4, h, pl, Rc_x z k2 k1 (fun b j _ _ q => by unfold PRh at q; unfold PcX; omega) hT2⟩, F2⟩
  | inr Q =>
    rw [e] at k4 hok
    have hQ : WQ Q := hok
    obtain ⟨y0, y1, y2, y3⟩ := k4
    rw [if_pos (by rw [y0]; rfl)]
    simp only [lt]
    have r2 : ∀ j, rf s2 64 j = rf σ 64 j := fun j => by
      show (s2.2.2.2 64 j).getD 0 = (σ.2.2.2 64 j).getD 0
      rw [k2.2.2.2 64 j (by unfold PRh; omega)]
    have r9 : rf s2 64 9 = h := (r2 9).trans l3
    have r10 : rf s2 64 10 = 149 - h := (r2 10).trans l4
    rw [r9, r10]
    have l4' : Ly (jh_setR (jh_setR s2 64 10 (some h)) 64 9 (some (149 - h))) := ly_put_64_9 (ly_put_64_10 k1 l1) hs
    have f4 : Fg (fun b j => b = 64 ∧ (j = 9 ∨ j = 10)) s2 (jh_setR (jh_setR s2 64 10 (some h)) 64 9 (some (149 - h))) := Fg_sR (Fg_sR (Fg_r _ _) (by omega)) (by omega)
    have q9 : rf (jh_setR (jh_setR s2 64 10 (some h)) 64 9 (some (149 - h))) 64 9 = 149 - h := by rw [rR_f, if_pos ⟨rfl, rfl⟩]
    have q10 : rf (jh_setR (jh_setR s2 64 10 (some h)) 64 9 (some (149 - h))) 64 10 = h := by rw [rR_f, if_neg (by omega), rR_f, if_pos ⟨rfl, rfl⟩]
    have i4 : ∀ b j, (jh_setR (jh_setR s2 64 10 (some h)) 64 9 (some (149 - h))).2.1 b j = s2.2.1 b j := fun b j => rfl
    generalize jh_setR (jh_setR s2 64 10 (some h)) 64 9 (some (149 - h)) = s4 at l4' f4 q9 q10 i4 ⊢
    rw [q9]
    have H4 := cH_g f4 (fun b j g1 g2 => by omega) y1
    have L4 := cL_g f4 (by omega) (fun j => by omega) y2
    have N4 := cNm_g f4 (fun j => by omega) y3
    refine WM_V (c_begin mu_114 hs hQ.1 l4' H4) (fun s5 v5 => ?_)
    obtain ⟨C5, f5, e59, sn5⟩ := v5
    refine ⟨C5.1, ?_⟩
    have r5 : ∀ j, rf s5 64 j = rf s4 64 j := fun j => by
      show (s5.2.2.2 64 j).getD 0 = (s4.2.2.2 64 j).getD 0
      rw [f5.2.2.2 64 j (by unfold PMb; omega)]
    have p11 : rf s5 64 11 = pl := by
      rw [r5 11]
      show (s4.2.2.2 64 11).getD 0 = pl
      rw [f4.2.2.2 64 11 (by omega)]
      exact (r2 11).trans l5
    have p12 : rf s5 64 12 = 185 - pl := by
      rw [r5 12]
      show (s4.2.2.2 64 12).getD 0 = _
      rw [f4.2.2.2 64 12 (by omega)]
      exact (r2 12).trans l6
    rw [p11]
    refine w_Pl_clear pl C5.1 l2 ?_
    simp only [lt]
    have f6 : Fi (fun b j => (b = pl ∧ j = 2) ∨ (b = 64 ∧ (j = 14 ∨ j = 15))) s5 (jh_setI (jh_setI (jh_setI s5 pl 2 (nI 0)) 64 14 (nI 0)) 64 15 (nI 0)) := Fi_s (Fi_s (Fi_s (Fi_r _ _) (by omega)) (by omega)) (by omega)
    have e62 : (jh_setI (jh_setI (jh_setI s5 pl 2 (nI 0)) 64 14 (nI 0)) 64 15 (nI 0)).2.1 pl 2 = nI 0 := (rI_ne (by omega)).trans ((rI_ne (by omega)).trans rI_eq)
    have e614 : (jh_setI (jh_setI (jh_setI s5 pl 2 (nI 0)) 64 14 (nI 0)) 64 15 (nI 0)).2.1 64 14 = nI 0 := (rI_ne (by omega)).trans rI_eq
    have e615 : (jh_setI (jh_setI (jh_setI s5 pl 2 (nI 0)) 64 14 (nI 0)) 64 15 (nI 0)).2.1 64 15 = nI 0 := rI_eq
    refine ⟨ly_setI C5.1, ?_⟩
    generalize jh_setI (jh_setI (jh_setI s5 pl 2 (nI 0)) 64 14 (nI 0)) 64 15 (nI 0) = s6 at f6 e62 e614 e615 ⊢
    have l6' := Fi_ly f6 C5.1
    have g6 := Fi_g f6
    refine ⟨⟨trivial, 149 - h, pl, ?_⟩, Fg_t F2 (Fg_t (Fg_m f4 (fun b j q => by omega)) (Fg_t (Fg_m f5 (fun b j q => by unfold PMb at q; omega)) (Fg_m g6 (fun b j q => by omega))))⟩
    obtain ⟨pe, w1, w2, w3, w4⟩ := z5
    refine ⟨⟨l6', hs, l2, ?_, ?_, ?_, ?_⟩, cH_g g6 (fun b j g1 g2 => by omega) C5.2.2.1, cL_g g6 (by omega) (fun j => by omega) (cL_g f5 (by unfold PMb; omega) (fun j => by unfold PMb; omega) L4), cNm_g g6 (fun j => by omega) (cNm_g f5 (fun j => by unfold PMb; omega) N4), cFu_g g6 (fun b j g1 g2 => by omega) ⟨C5.2.2.2, e59, sn5⟩, ⟨pe, w1, ?_, e614, fun i q e => by cases e⟩, ⟨?_, fun i q hi e => by cases e⟩, ⟨e62, fun i q e => by cases e⟩, ?_, fun i c e => by cases e⟩
    · rw [Fi_rf f6, r5 9]; exact q9
    · rw [Fi_rf f6, r5 10, q10]; omega
    · rw [Fi_rf f6]; exact p11
    · rw [Fi_rf f6]; exact p12
    · rw [f6.2.2 _ _ (by omega), f5.2.1 _ _ (by unfold PMb; omega), i4, k2.2.1 _ _ (by unfold PRh; omega)]; exact w2
    · show s6.2.1 64 15 = nI (msk (fun _ => false) 4)
      rw [e615, msk_0 (fun k _ => rfl)]
    · rw [f6.2.2 _ _ (by omega), f5.2.1 _ _ (by unfold PMb; omega), i4]; exact k3
end EC

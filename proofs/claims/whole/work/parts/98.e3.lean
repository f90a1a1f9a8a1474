section EM2
variable {Z : Ste} {s t σ : JH} {ts : List Nat} {n k : Nat} {Q : Qs} {H : Hou}
theorem JJ1w {α : Type} {B : α → Prop} {A : (α → Prop) → Prop} (C : α → Prop) (hB : ∀ a, C a → B a) (hA : (∀ a, C a → B a) → A B) : JJ1 B A := hA hB
theorem PMr_x {b j : Nat} (h : PMr b j) : PmX b j := by unfold PMr at h; unfold PmX PmT; omega
theorem PCu_x {b j : Nat} (h : PCu b j) : PmX b j := by unfold PCu at h; unfold PmX PmT; omega
theorem PmX_b {b j : Nat} (h : PmX b j) : 204 ≤ b ∧ b < 229 := by unfold PmX PmT at h; omega
theorem msk_f8 : msk (fun _ => false) 8 = 0 := msk_0 (fun k _ => rfl)
/-- copying what was read, then beginning -/
def mBk (K : Int32 → JH → Prop) (s8 : JH) : Prop := Lp2 (fun (v10 : Int32) (s11 : JH) X12 => Ly s11 ∧ (if nI 180 ≤ v10 then Lp2 (fun (v13 : Int32) (s14 : JH) X15 => Ly s14 ∧ (if s14.2.1 204 13 ≤ v13 then Lp2 (fun (v16 : Int32) (s17 : JH) X18 => Ly s17 ∧ (if s17.2.1 204 17 ≤ v16 then lt (jh_setI s17 204 16 (s17.2.1 204 17)) (fun s19 => WM q_Md_begins [.ref 204] s19 (kV fun s20 => Ly s20 ∧ K (nI 0) s20)) else inb v16 8 ∧ inb v16 8 ∧ lt (jh_setJ s17 213 (cl v16) (s17.2.2.1 214 (cl v16))) (fun s21 => X18 (v16 + nI 1) s21))) (nI 0) s14 else inb (nI 1100 + v13) 2200 ∧ inb v13 2200 ∧ lt (jh_setI s14 211 (cl v13) (s14.2.1 211 (cl (nI 1100 + v13)))) (fun s22 => inb (nI 1100 + v13) 2200 ∧ inb v13 2200 ∧ lt (jh_setI s22 212 (cl v13) (s22.2.1 212 (cl (nI 1100 + v13)))) (fun s23 => X15 (v13 + nI 1) s23)))) (nI 0) s11 else inb (nI 180 + v10) 360 ∧ inb v10 360 ∧ lt (jh_setI s11 210 (cl v10) (s11.2.1 210 (cl (nI 180 + v10)))) (fun s24 => X12 (v10 + nI 1) s24))) (nI 0) s8
def PCp (b j : Nat) : Prop := (b = 210 ∧ j < 180) ∨ ((b = 211 ∨ b = 212) ∧ j < 1100) ∨ b = 213 ∨ (b = 204 ∧ j = 16) ∨ PBe b j
set_option maxHeartbeats 1000000 in
theorem m_bk {K : Int32 → JH → Prop} (hl : Ly s) (hQ : WQ Q) (z : mHr Q s) (hK : ∀ u, Ly u → Fg PCp s u → mCp Q u → mM (qH Q) (S0 (qH Q)) 0 u → u.2.1 218 1 = nI 0 → u.2.1 218 91 = nI 0 → u.2.1 215 0 = nI 0 → u.2.1 204 24 = nI 0 → (∀ i, i < 4 → u.2.1 219 i = bI false) → K (nI 0) u) : mBk K s := by
  have n8 := WQ_8 hQ
  have hlc := lwc_len hQ
  have lw := (mHr_lw z).1
  have e17 := z.1.2.2.2.2.2.1
  unfold mBk
  refine Lp2_inv (I := fun m v t => ∃ i, i ≤ 180 ∧ m = 180 - i ∧ v = nI i ∧ Fi (fun b j => b = 210 ∧ j < 180) s t ∧ ∀ j, j < i → t.2.1 210 j = s.2.1 210 (180 + j)) ?_ (m := 180) ⟨0, by omega, rfl, rfl, Fi_r _ _, fun j hj => absurd hj (Nat.not_lt_zero _)⟩
  rintro m v t ⟨i, hi, rfl, rfl, f, hr⟩ X hX
  refine ⟨Fi_ly f hl, ?_⟩
  by_cases c : 180 ≤ i
  · rw [if_pos (by rw [nI_leN (by omega) (by omega)]; exact c)]
    have hr : ∀ j, j < 180 → t.2.1 210 j = s.2.1 210 (180 + j) := fun j hj => hr j (by omega)
    clear X hX
    refine Lp2_inv (I := fun m v u => ∃ i, i ≤ (lwc Q).length ∧ m = (lwc Q).length - i ∧ v = nI i ∧ Fi (fun b j => (b = 210 ∧ j < 180) ∨ ((b = 211 ∨ b = 212) ∧ j < 1100)) s u ∧ (∀ j, j < 180 → u.2.1 210 j = s.2.1 210 (180 + j)) ∧ ∀ j, j < i → u.2.1 211 j = s.2.1 211 (1100 + j) ∧ u.2.1 212 j = s.2.1 212 (1100 + j)) ?_ (m := (lwc Q).length) ⟨0, by omega, rfl, rfl, Fi_m f (fun b j h => by omega), hr, fun j hj => absurd hj (Nat.not_lt_zero _)⟩
    rintro m v u ⟨i, hi, rfl, rfl, f, hr, hs⟩ X hX
    refine ⟨Fi_ly f hl, ?_⟩
    have e13 : u.2.1 204 13 = nI (lwc Q).length := (f.2.2 _ _ (by omega)).trans lw.1
    by_cases c : (lwc Q).length ≤ i
    · rw [if_pos (by rw [e13, nI_leN (by omega) (by omega)]; exact c)]
      have hs : ∀ j, j < (lwc Q).length → u.2.1 211 j = s.2.1 211 (1100 + j) ∧ u.2.1 212 j = s.2.1 212 (1100 + j) := fun j hj => hs j (by omega)
      clear X hX
      refine Lp2_inv (I := fun m v w => ∃ i, i ≤ Hn (qH Q) ∧ m = Hn (qH Q) - i ∧ v = nI i ∧ Ly w ∧ w.2.1 = u.2.1 ∧ Fg (fun b j => b = 213) u w ∧ ∀ j, j < i → w.2.2.1 213 j = s.2.2.1 214 j) ?_ (m := Hn (qH Q)) ⟨0, by omega, rfl, rfl, Fi_ly f hl, rfl, Fg_r _ _, fun j hj => absurd hj (Nat.not_lt_zero _)⟩
      rintro m v w ⟨i, hi, rfl, rfl, lw', ew, g, hg⟩ X hX
      refine ⟨lw', ?_⟩
      have e17w : w.2.1 204 17 = nI (Hn (qH Q)) := by rw [ew]; exact (f.2.2 _ _ (by omega)).trans e17
      by_cases c : Hn (qH Q) ≤ i
      · rw [if_pos (by rw [e17w, nI_leN (by omega) (by omega)]; exact c)]
        simp only [lt]
        rw [e17w]
        have f3 : Fi (fun b j => b = 204 ∧ j = 16) w (jh_setI w 204 16 (nI (Hn (qH Q)))) := Fi_s (Fi_r _ _) ⟨rfl, rfl⟩
        have e16 : (jh_setI w 204 16 (nI (Hn (qH Q)))).2.1 204 16 = nI (Hn (qH Q)) := rI_eq
        have l3 := Fi_ly f3 lw'
        generalize jh_setI w 204 16 (nI (Hn (qH Q))) = w3 at f3 e16 l3
        have E3 : ∀ b j, ¬ (b = 204 ∧ j = 16) → w3.2.1 b j = u.2.1 b j := fun b j h => (f3.2.2 b j h).trans (by rw [ew])
        have J3 : ∀ b j, w3.2.2.1 b j = w.2.2.1 b j := fun b j => by rw [f3.2.1]
        have cp : mCp Q w3 := mCp_i hQ z (fun j hj => (E3 _ _ (by omega)).trans (hr j hj)) (fun j hj => ⟨(E3 _ _ (by omega)).trans (hs j hj).1, (E3 _ _ (by omega)).trans (hs j hj).2⟩) (fun j hj => (J3 _ _).trans (hg j (by omega))) e16
        refine WM_V (m_begins l3 hQ.1 cp.1.1) (fun x v => ?_)
        obtain ⟨lx, fx, Mx, x1, x2, x3, x4, x5⟩ := v
        have fx' := Fi_g fx
        refine ⟨lx, hK x lx ?_ ?_ Mx x1 x2 x3 x4 x5⟩
        · exact Fg_t (Fg_m (Fi_g f) (fun b j h => by unfold PCp; omega)) (Fg_t (Fg_m g (fun b j h => by unfold PCp; omega)) (Fg_t (Fg_m (Fi_g f3) (fun b j h => by unfold PCp; omega)) (Fg_m fx' (fun b j h => by unfold PCp; exact Or.inr (Or.inr (Or.inr (Or.inr h)))))))
        · exact ⟨⟨mH_x n8 fx' (fun j hj => by unfold PBe; omega) cp.1.1, mL_x fx' (fun b j h1 h2 h3 h4 => by unfold PBe; omega) cp.1.2⟩, ⟨(fx.2.2 _ _ (by unfold PBe; omega)).trans cp.2.1.1, (fx.2.2 _ _ (by unfold PBe; omega)).trans cp.2.1.2⟩, (fx.2.2 _ _ (by unfold PBe; omega)).trans cp.2.2.1, fun k hk => by rw [fx.2.1]; exact cp.2.2.2 k hk⟩
      · rw [if_neg (by rw [e17w, nI_leN (by omega) (by omega)]; exact c), cl_nI (by omega), nI_add]
        have hin : inb (nI i) 8 := by rw [inb_nI (by omega) (by omega)]; omega
        refine ⟨hin, hin, ?_⟩
        simp only [lt]
        refine hX (Hn (qH Q) - (i + 1)) _ _ (by omega) ⟨i + 1, by omega, rfl, rfl, ly_setJ lw', ew, Fg_sJ g rfl, fun j hj => ?_⟩
        by_cases d : j = i
        · rw [d, rJ_eq, g.2.2.1 _ _ (by omega), f.2.1]
        · rw [rJ_ne (by omega)]; exact hg j (by omega)
    · rw [if_neg (by rw [e13, nI_leN (by omega) (by omega)]; exact c), nI_add, nI_add, cl_nI (by omega), cl_nI (by omega)]
      have h1 : inb (nI (1100 + i)) 2200 := by rw [inb_nI (by omega) (by omega)]; omega
      have h2 : inb (nI i) 2200 := by rw [inb_nI (by omega) (by omega)]; omega
      simp only [lt]
      refine ⟨h1, h2, h1, h2, ?_⟩
      have g : Fi (fun b j => (b = 210 ∧ j < 180) ∨ ((b = 211 ∨ b = 212) ∧ j < 1100)) s (jh_setI (jh_setI u 211 i (u.2.1 211 (1100 + i))) 212 i ((jh_setI u 211 i (u.2.1 211 (1100 + i))).2.1 212 (1100 + i))) := Fi_s (Fi_s f (by omega)) (by omega)
      refine hX ((lwc Q).length - (i + 1)) _ _ (by omega) ⟨i + 1, by omega, rfl, rfl, g, fun j hj => ?_, fun j hj => ?_⟩
      · rw [rI_ne (by omega), rI_ne (by omega)]; exact hr j hj
      · by_cases d : j = i
        · subst d
          refine ⟨?_, ?_⟩
          · rw [rI_ne (by omega), rI_eq]; exact f.2.2 _ _ (by omega)
          · rw [rI_eq, rI_ne (by omega)]; exact f.2.2 _ _ (by omega)
        · have := hs j (by omega)
          refine ⟨?_, ?_⟩
          · rw [rI_ne (by omega), rI_ne (by omega)]; exact this.1
          · rw [rI_ne (by omega), rI_ne (by omega)]; exact this.2
  · rw [if_neg (by rw [nI_leN (by omega) (by omega)]; exact c), nI_add, nI_add, cl_nI (by omega), cl_nI (by omega)]
    simp only [lt]
    refine ⟨by rw [inb_nI (by omega) (by omega)]; omega, by rw [inb_nI (by omega) (by omega)]; omega, ?_⟩
    have g : Fi (fun b j => b = 210 ∧ j < 180) s (jh_setI t 210 i (t.2.1 210 (180 + i))) := Fi_s f (by omega)
    refine hX (180 - (i + 1)) _ _ (by omega) ⟨i + 1, by omega, rfl, rfl, g, fun j hj => ?_⟩
    by_cases d : j = i
    · rw [d, rI_eq]; exact f.2.2 _ _ (by omega)
    · rw [rI_ne (by omega)]; exact hr j (by omega)
set_option maxHeartbeats 1000000 in
theorem m_cellar (hZ : WZ Z) (z : Rm Z σ) : WM q_Md_cellar [.ref 204] σ (kI fun y s => (match hsR (tT Z) 1000 0 Q00 with
    | .inl e => y = nI e ∧ Rm (zT Z []) s
    | .inr Q => y = nI 0 ∧ Rm (zC Q) s) ∧ Fg (fun b _ => 204 ≤ b ∧ b < 229) σ s) := by
  have ok := WZ_tp hZ
  refine w_Md_cellar z.1 ?_
  have f1 : Fi (fun b j => b = 204 ∧ j = 0) σ (jh_setI σ 204 0 (nI 0)) := Fi_s (Fi_r _ _) ⟨rfl, rfl⟩
  show lt (jh_setI σ 204 0 (nI 0)) _
  have z1 := (Rm_thr (x := nI 0) hZ z).1
  generalize jh_setI σ 204 0 (nI 0) = s1 at f1 z1
  show WM q_Md_cutAll [.ref 204] s1 _
  refine WM_V (m_cutAll z1.1 z1.2.2.2.2.2.2.2.2 ok) (fun s2 v => ?_)
  obtain ⟨l2, f2, ⟨n, T2⟩, e7, e8, e2⟩ := v
  refine ⟨l2, ?_⟩
  show WM q_Md_standsAsAlways [.ref 204, .int (nI 180)] (jh_setI (jh_setI (jh_setI (jh_setI s2 204 13 (nI 0)) 204 17 (nI 0)) 204 18 (nI 0)) 204 19 (nI 0)) _
  have f6 : Fi (fun b j => b = 204 ∧ (j = 13 ∨ j = 17 ∨ j = 18 ∨ j = 19)) s2 (jh_setI (jh_setI (jh_setI (jh_setI s2 204 13 (nI 0)) 204 17 (nI 0)) 204 18 (nI 0)) 204 19 (nI 0)) := Fi_s (Fi_s (Fi_s (Fi_s (Fi_r _ _) (by omega)) (by omega)) (by omega)) (by omega)
  have a13 : (jh_setI (jh_setI (jh_setI (jh_setI s2 204 13 (nI 0)) 204 17 (nI 0)) 204 18 (nI 0)) 204 19 (nI 0)).2.1 204 13 = nI 0 := (rI_ne (by omega)).trans ((rI_ne (by omega)).trans ((rI_ne (by omega)).trans rI_eq))
  have a17 : (jh_setI (jh_setI (jh_setI (jh_setI s2 204 13 (nI 0)) 204 17 (nI 0)) 204 18 (nI 0)) 204 19 (nI 0)).2.1 204 17 = nI 0 := (rI_ne (by omega)).trans ((rI_ne (by omega)).trans rI_eq)
  have a18 : (jh_setI (jh_setI (jh_setI (jh_setI s2 204 13 (nI 0)) 204 17 (nI 0)) 204 18 (nI 0)) 204 19 (nI 0)).2.1 204 18 = nI 0 := (rI_ne (by omega)).trans rI_eq
  have a19 : (jh_setI (jh_setI (jh_setI (jh_setI s2 204 13 (nI 0)) 204 17 (nI 0)) 204 18 (nI 0)) 204 19 (nI 0)).2.1 204 19 = nI 0 := rI_eq
  generalize jh_setI (jh_setI (jh_setI (jh_setI s2 204 13 (nI 0)) 204 17 (nI 0)) 204 18 (nI 0)) 204 19 (nI 0) = s6 at f6 a13 a17 a18 a19
  refine WM_V (m_stands (base := 180) (by omega) (Fi_ly f6 l2)) (fun s7 v => ?_)
  obtain ⟨l7, f7, h7⟩ := v
  refine ⟨l7, ?_⟩
  have F7 : Fg PmX σ s7 := Fg_t (Fg_m (Fi_g f1) (fun b j h => by unfold PmX PmT; omega)) (Fg_t (Fg_m f2 (fun b j => PCu_x)) (Fg_t (Fg_m (Fi_g f6) (fun b j h => by unfold PmX PmT; omega)) (Fg_m (Fi_g f7) (fun b j h => by unfold PmX; omega))))
  have E7 : ∀ b j, b ≠ 210 → ¬ (b = 204 ∧ (j = 13 ∨ j = 17 ∨ j = 18 ∨ j = 19)) → s7.2.1 b j = s2.2.1 b j := fun b j g1 g2 => (f7.2.2 b j (by omega)).trans (f6.2.2 b j g2)
  have S7 : Fg (fun b j => b = 210 ∨ (b = 204 ∧ (j = 13 ∨ j = 17 ∨ j = 18 ∨ j = 19))) s2 s7 := Fg_t (Fg_m (Fi_g f6) (fun b j h => Or.inr h)) (Fg_m (Fi_g f7) (fun b j h => Or.inl h.1))
  have w2 : mWd s2 := fun j w e => (f2.2.2.1 _ _ (by unfold PCu; omega)).trans (z1.2.2.1.2.2 j w e)
  have q7 : mRd (tT Z) n 0 s7 := ⟨l7, mSt_g S7 (fun b j g1 g2 => by omega) ⟨T2, w2⟩, (E7 _ _ (by omega) (by omega)).trans e7, (E7 _ _ (by omega) (by omega)).trans e8, Nat.zero_le _⟩
  have t7 : s7.2.1 204 2 = nI 0 := (E7 _ _ (by omega) (by omega)).trans e2
  have m7 : mHr Q00 s7 := by
    have c0 : ∀ j, j < 180 → j ≠ 4 → j ≠ 5 → s7.2.1 210 (180 + j) = nI 0 := fun j g1 g2 g3 => by rw [h7 j g1, if_neg g2, if_neg g3]
    refine ⟨⟨c0 0 (by omega) (by omega) (by omega), c0 1 (by omega) (by omega) (by omega), c0 2 (by omega) (by omega) (by omega), c0 3 (by omega) (by omega) (by omega), h7 4 (by omega), (f7.2.2 _ _ (by omega)).trans a17, (f7.2.2 _ _ (by omega)).trans a18, ?_⟩, fun k hk => absurd hk (Nat.not_lt_zero _), fun k hk => absurd hk (Nat.not_lt_zero _), fun k hk => absurd hk (Nat.not_lt_zero _), fun k hk => absurd hk (Nat.not_lt_zero _), fun k g1 g2 => ⟨?_, ?_⟩, fun k hk e he => ?_, fun k hk e he => ?_, fun k hk => absurd hk (Nat.not_lt_zero _), fun _ => ⟨h7 5 (by omega), (f7.2.2 _ _ (by omega)).trans a13, fun i q e => by cases e⟩, fun M h => by cases h⟩
    · show s7.2.1 204 19 = nI (msk (fun _ => false) 8)
      rw [msk_f8]; exact (f7.2.2 _ _ (by omega)).trans a19
    · rw [show 188 + 4 * k = 180 + (8 + 4 * k) by omega]; exact c0 _ (by omega) (by omega) (by omega)
    · rw [show 188 + 4 * k + 2 = 180 + (8 + 4 * k + 2) by omega]; exact c0 _ (by omega) (by omega) (by omega)
    · rw [show 220 + 8 * k + e = 180 + (40 + 8 * k + e) by omega]; exact c0 _ (by omega) (by omega) (by omega)
    · rw [show 284 + 8 * k + e = 180 + (104 + 8 * k + e) by omega]; exact c0 _ (by omega) (by omega) (by omega)
  have hn := T2.2.1
  have hn1 := T2.1
  have hok := hsR_ok ok hn hn1 1000 0 Q00 (Nat.zero_le _) WQ_00
  refine JJ1w (fun s8 => Ly s8 ∧ Fg PmX σ s8 ∧ s8.2.1 204 2 = nI 0 ∧ ((∃ e, hsR (tT Z) 1000 0 Q00 = .inl e ∧ mFt e s8) ∨ (∃ Q, hsR (tT Z) 1000 0 Q00 = .inr Q ∧ WQ Q ∧ mHr Q s8 ∧ s8.2.1 204 8 = nI 0))) ?_ (fun fin => ?_)
  · rintro s8 ⟨l8, F8, t8, ⟨e, he, zf⟩ | ⟨Q, he, hQ, m8, g8⟩⟩
    · rw [if_neg (mFt_le zf)]
      refine ⟨?_, Fg_m F8 (fun b j => PmX_b)⟩
      rw [he]
      exact ⟨zf.2.1, Rm_x hZ z F8 l8 (fun b j _ _ h => h) ⟨t8, fun i c e => by cases e⟩⟩
    · rw [if_pos (by rw [g8]; decide)]
      refine m_bk (K := fun y s => (match hsR (tT Z) 1000 0 Q00 with
        | .inl e => y = nI e ∧ Rm (zT Z []) s
        | .inr Q => y = nI 0 ∧ Rm (zC Q) s) ∧ Fg (fun b _ => 204 ≤ b ∧ b < 229) σ s) l8 hQ m8 (fun u lu fu cp Mu u1 u2 u3 u4 u5 => ⟨?_, Fg_t (Fg_m F8 (fun b j => PmX_b)) (Fg_m fu (fun b j h => by unfold PCp PBe at h; omega))⟩)
      rw [he]
      refine ⟨rfl, lu, cp.1, ⟨cp.2.1.1, cp.2.1.2, fun j w e => ?_⟩, ⟨cp.2.2.1, cp.2.2.2⟩, ⟨Mu, u1, u2, Nat.zero_le _, fun i q e => by cases e⟩, ⟨u4, fun i q e => by cases e⟩, ⟨u5, fun i q hi e => by cases e⟩, ⟨u3, fun i q e => by cases e⟩, ?_, fun i c e => by cases e⟩
      · rw [fu.2.2.1 _ _ (by unfold PCp PBe; omega), F8.2.2.1 _ _ (by unfold PmX PmT; omega)]
        exact z.2.2.1.2.2 j w e
      · exact (fu.2.1 _ _ (by unfold PCp PBe; omega)).trans t8
  · refine Lp1_inv (I := fun m s => Ly s ∧ Fg PmX σ s ∧ s.2.1 204 2 = nI 0 ∧ ((∃ e, hsR (tT Z) 1000 0 Q00 = .inl e ∧ mFt e s) ∨ (∃ g k Q, m = g + 1 ∧ mRd (tT Z) n k s ∧ WQ Q ∧ mHr Q s ∧ n ≤ k + g ∧ hsR (tT Z) g k Q = hsR (tT Z) 1000 0 Q00))) ?_ (m := 1001) ⟨l7, F7, t7, Or.inr ⟨1000, 0, Q00, rfl, q7, WQ_00, m7, by omega, rfl⟩⟩
    rintro m s ⟨l, F, t2, ⟨e, he, zf⟩ | ⟨g, k, Q, rfl, qs, hQ, mq, hg, hr⟩⟩ X hX
    · refine ⟨l, ?_⟩
      rw [if_neg (mFt_0 zf)]
      exact fin s ⟨l, F, t2, Or.inl ⟨e, he, zf⟩⟩
    · refine ⟨l, ?_⟩
      obtain ⟨hin, hcl, ⟨a1, -⟩, hk⟩ := mRd_in qs
      have h4 := (tok_ok ok k).1.2.2.2.2.2.2
      rw [if_pos (mRd_0 qs), hcl, a1]
      refine ⟨hin, ?_⟩
      by_cases c0 : Tk (tok (tT Z) k) = 0
      · rw [if_pos (by rw [c0]; rfl)]
        have : hsR (tT Z) g k Q = .inr Q := by
          cases g with
          | zero => rfl
          | succ g => unfold hsR; rw [if_pos c0]
        exact fin s ⟨l, F, t2, Or.inr ⟨Q, hr.symm.trans this, hQ, mq, qs.2.2.2.1⟩⟩
      · rw [if_neg (by rw [nI_eq0 (by omega)]; exact c0)]
        have hk1 := tk_lt hn qs.2.2.2.2 c0
        obtain ⟨g, rfl⟩ : ∃ g', g = g' + 1 := ⟨g - 1, by omega⟩
        unfold hsR at hr
        rw [if_neg c0] at hr
        have hp := plL_ok ok hn hn1 qs.2.2.2.2 c0 hQ
        refine WM_V (m_readLine qs c0 ok hQ mq) (fun t v => ?_)
        obtain ⟨lt', ft, v⟩ := v
        refine ⟨lt', ?_⟩
        have Ft : Fg PmX σ t := Fg_t F (Fg_m ft (fun b j => PMr_x))
        have tt : t.2.1 204 2 = nI 0 := (ft.2.1 _ _ (by unfold PMr; omega)).trans t2
        cases e : plL (tT Z) k Q with
        | inl x =>
          rw [e] at v hr
          exact m_takeSign_f v (hX 0 _ (by omega) ⟨lt', Ft, tt, Or.inl ⟨x, hr.symm, v⟩⟩)
        | inr p =>
          rw [e] at v hr hp
          have hr : (match (if isS 59 (tok (tT Z) p.1) = true then (Sum.inr (p.1 + 1, p.2) : PQ) else .inl (flt 1 (tok (tT Z) p.1))) with
            | .inl e => .inl e
            | .inr q => hsR (tT Z) g q.1 q.2) = hsR (tT Z) 1000 0 Q00 := hr
          refine m_takeSign v.1 ok (by omega) (fun c3 o qo fo => ?_) (fun c3 o zo fo => ?_)
          · rw [if_pos c3] at hr
            have hp1 : k < p.1 := hp.1
            exact hX (g + 1) _ (by omega) ⟨qo.1, Fg_t Ft (Fg_m fo (fun b j h => PMr_x (P78_m h))), (fo.2.1 _ _ (by unfold P78; omega)).trans tt, Or.inr ⟨g, p.1 + 1, p.2, rfl, qo, hp.2.2, mHx_78 fo v.2, by omega, hr⟩⟩
          · rw [c3, if_neg (by decide)] at hr
            exact hX 0 _ (by omega) ⟨zo.1, Fg_t Ft (Fg_m fo (fun b j h => PMr_x (P78_m h))), (fo.2.1 _ _ (by unfold P78; omega)).trans tt, Or.inl ⟨_, hr.symm, zo⟩⟩
theorem a_cellar (hZ : WZ Z) : Agw q_Ct_cellar [.ref 64] q_Md_cellar [.ref 204] Z := by
  have ok := WZ_tp hZ
  obtain ⟨n, hn1, hn⟩ := tok_n ok
  have hok := hsR_ok ok hn hn1 1000 0 Q00 (Nat.zero_le _) WQ_00
  cases e : hsR (tT Z) 1000 0 Q00 with
  | inl x =>
    refine ⟨nI x, zT Z [], WZ_T0 hZ, fun h pl σ W z => WM_I (c_cellar hZ W z) (fun y s v => ?_), fun σ z => WM_I (m_cellar hZ z) (fun y s v => ?_)⟩
    · rw [e] at v; exact ⟨v.1.1, v.1.2, v.2⟩
    · rw [e] at v; exact ⟨v.1.1, v.1.2, v.2⟩
  | inr Q =>
    rw [e] at hok
    refine ⟨nI 0, zC Q, WZ_C hok, fun h pl σ W z => WM_I (c_cellar hZ W z) (fun y s v => ?_), fun σ z => WM_I (m_cellar hZ z) (fun y s v => ?_)⟩
    · rw [e] at v; exact ⟨v.1.1, v.1.2, v.2⟩
    · rw [e] at v; exact ⟨v.1.1, v.1.2, v.2⟩
end EM2

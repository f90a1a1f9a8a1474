section CC5
variable {s t σ : JH} {ts : List Nat} {n k h : Nat} {Q : Qs} {mm : Nat → Nat} {T : Tok}
theorem c_clear (hl : Ly σ) (hh : IsHo h) : WM q_Ho_clear [.ref h] σ (kV fun s => Ly s ∧ Fg (PHo h) σ s ∧ cHr Q00 h s) := by
  refine w_Ho_clear h hl hh ?_
  refine Lp2_inv (I := fun m v s => ∃ i, i ≤ 8 ∧ m = 8 - i ∧ v = nI i ∧ Ly s ∧ Fi (PHo h) σ s ∧ ∀ j, j < i → s.2.1 (h + 4) j = nI j ∧ s.2.1 (h + 5) j = nI 0 ∧ s.2.1 (h + 6) j = nI 0) ?_ (m := 8) ⟨0, by omega, rfl, rfl, hl, Fi_r _ _, fun j hj => absurd hj (Nat.not_lt_zero _)⟩
  rintro m v s ⟨i, hi, rfl, rfl, l, f, hr⟩ X hX
  refine ⟨l, ?_⟩
  by_cases c : i = 8
  · rw [if_pos (by rw [c, nI_leN (by omega) (by omega)]; exact Nat.le_refl _)]
    refine w_La_clear (h + 8) l (la_Ho hh) ?_
    simp only [lt]
    have f1 : Fi (PHo h) s (jh_setI s (h + 8) 2 (nI 0)) := Fi_s (Fi_r _ _) (by unfold PHo; omega)
    refine ⟨Fi_ly f1 l, ?_⟩
    have g : Fi (fun b j => (b = h + 8 ∧ j = 2) ∨ (b = h ∧ 8 ≤ j)) s (jh_setI (jh_setI (jh_setI (jh_setI (jh_setI (jh_setI (jh_setI (jh_setI s (h + 8) 2 (nI 0)) h 8 (nI 0)) h 9 (nI 0)) h 10 (nI 0)) h 11 (nI 0)) h 12 (nI 9)) h 13 (nI 0)) h 14 (nI 0)) := Fi_s (Fi_s (Fi_s (Fi_s (Fi_s (Fi_s (Fi_s (Fi_s (Fi_r _ _) (by omega)) (by omega)) (by omega)) (by omega)) (by omega)) (by omega)) (by omega)) (by omega)
    have hz : msk (fun _ => false) 8 = 0 := msk_0 (fun k _ => rfl)
    have hz2 : msk (ctb (qH Q00)) 8 = 0 := msk_0 (fun k _ => rfl)
    refine ⟨Fi_ly g l, Fi_g (Fi_t f (Fi_m g (fun b j q => by unfold PHo; omega))), ?_, ⟨?_, ?_, ?_, ?_, ?_, ?_⟩, fun k hk => absurd hk (Nat.not_lt_zero _), fun k hk => absurd hk (Nat.not_lt_zero _), fun k hk => absurd hk (Nat.not_lt_zero _), fun k hk => (g.2.2 _ _ (by omega)).trans (hr k (by omega)).1, fun k hk => ?_, fun k hk => ?_, ?_, fun i q e => by cases e⟩
    · show _ = nI (msk (fun _ => false) 8)
      rw [hz]
      simp (disch := omega) only [rI_eq, rI_ne]
    · show _ = nI 0
      simp (disch := omega) only [rI_eq, rI_ne]
    · rw [hz2]
      simp (disch := omega) only [rI_eq, rI_ne]
    · show _ = nI (msk (fun _ => false) 8)
      rw [hz]
      simp (disch := omega) only [rI_eq, rI_ne]
    · show _ = nI 9
      simp (disch := omega) only [rI_eq, rI_ne]
    · show _ = nI 0
      simp (disch := omega) only [rI_eq, rI_ne]
    · show _ = nI 0
      simp (disch := omega) only [rI_eq]
    · show _ = nI (msk (fun _ => false) 8)
      rw [hz]
      exact (g.2.2 _ _ (by omega)).trans (hr k (by omega)).2.1
    · show _ = nI (msk (fun _ => false) 8)
      rw [hz]
      exact (g.2.2 _ _ (by omega)).trans (hr k (by omega)).2.2
    · show _ = nI 0
      simp (disch := omega) only [rI_eq, rI_ne]
  · rw [if_neg (by rw [nI_leN (by omega) (by omega)]; omega), cl_nI (by omega), nI_add]
    have hin : inb (nI i) 8 := by rw [inb_nI (by omega) (by omega)]; omega
    simp only [lt]
    refine ⟨hin, hin, hin, ?_⟩
    have g : Fi (fun b j => (b = h + 4 ∨ b = h + 5 ∨ b = h + 6) ∧ j = i) s (jh_setI (jh_setI (jh_setI s (h + 4) i (nI i)) (h + 5) i (nI 0)) (h + 6) i (nI 0)) := Fi_s (Fi_s (Fi_s (Fi_r _ _) (by omega)) (by omega)) (by omega)
    refine hX (8 - (i + 1)) _ _ (by omega) ⟨i + 1, by omega, rfl, rfl, Fi_ly g l, Fi_t f (Fi_m g (fun b j q => by unfold PHo; omega)), fun j hj => ?_⟩
    by_cases d : j = i
    · subst d
      refine ⟨?_, ?_, ?_⟩
      · rw [rI_ne (by omega), rI_ne (by omega), rI_eq]
      · rw [rI_ne (by omega), rI_eq]
      · exact rI_eq
    · have := hr j (by omega)
      exact ⟨(g.2.2 _ _ (by omega)).trans this.1, (g.2.2 _ _ (by omega)).trans this.2.1, (g.2.2 _ _ (by omega)).trans this.2.2⟩
theorem c_limitOf {x y : Int32} (hl : Ly σ) (hh : IsHo h) : ∃ y, q_Ho_limitOf [.ref h, .int x] σ = some (some (.int y), σ) := by
  have w : WE q_Ho_limitOf [.ref h, .int x] σ (fun _ => True) := by
    refine w_Ho_limitOf h x hl hh ?_
    by_cases c : x = nI 1
    · rw [if_pos c]; trivial
    · rw [if_neg c]
      by_cases d : x = nI 2
      · rw [if_pos d]
        refine w_Ma_min _ _ hl ?_
        split <;> trivial
      · rw [if_neg d]; trivial
  obtain ⟨y, e, -⟩ := w
  exact ⟨y, e⟩
theorem c_limitOf' {H : Hou} {i : Nat} (hl : Ly σ) (hh : IsHo h) (h12 : σ.2.1 h 12 = nI (Ho H)) (ho : Ho H < 10) (hk : Hk H i < 4) : q_Ho_limitOf [.ref h, .int (nI (Hk H i))] σ = some (some (.int (nI (lim H i))), σ) := by
  refine WE_o (w_Ho_limitOf h _ hl hh ?_)
  unfold lim
  by_cases c : Hk H i = 1
  · rw [if_pos (by rw [c]), if_pos c]
  · rw [if_neg (by rw [nI_eqN (by omega) (by omega)]; exact c), if_neg c]
    by_cases d : Hk H i = 2
    · rw [if_pos (by rw [d]), if_pos d, h12]
      exact WE_i (j_min hl (by omega) (by omega)) rfl
    · rw [if_neg (by rw [nI_eqN (by omega) (by omega)]; exact d), if_neg d, h12]
/-- closing what was read with a fault -/
theorem c_close_f {e : Nat} (hh : IsHo h) (z : cHf h e σ) : WM q_Ho_close [.ref h] σ (kV fun s => Ly s ∧ Fg (PHo h) σ s) := by
  obtain ⟨hl, h8, ⟨m, hm, em⟩, hc⟩ := z
  have hhl := ho_lt hh
  refine w_Ho_close h hl hh ?_
  refine Lp2_inv (I := fun r v s => ∃ i, i ≤ m ∧ r = m - i ∧ v = nI i ∧ Ly s ∧ Fi (fun b _ => b = h + 7) σ s) ?_ (m := m) ⟨0, by omega, rfl, rfl, hl, Fi_r _ _⟩
  rintro r v s ⟨i, hi, rfl, rfl, l, f⟩ X hX
  have e8 : s.2.1 h 8 = nI m := (f.2.2 _ _ (by omega)).trans em
  have fo : Fg (PHo h) σ s := Fi_g (Fi_m f (fun b j q => by unfold PHo; omega))
  refine ⟨l, ?_⟩
  by_cases c : m ≤ i
  · rw [if_pos (by rw [e8, nI_leN (by omega) (by omega)]; exact c)]
    by_cases d : s.2.1 h 14 = 0
    · rw [if_pos d]
      obtain ⟨cc, hc1, hc2⟩ := hc
      exact c_add_f l (la_Ho hh) ⟨cc, hc1, (f.2.2 _ _ (by omega)).trans hc2⟩ (fun t lt' ft _ => ⟨lt', lt', Fg_t fo (Fg_m ft (fun b j q => by unfold PLa at q; unfold PHo; omega))⟩)
    · rw [if_neg d]
      exact ⟨l, fo⟩
  · rw [if_neg (by rw [e8, nI_leN (by omega) (by omega)]; exact c)]
    have hin : inb (nI i) 8 := by rw [inb_nI (by omega) (by omega)]; omega
    refine ⟨hin, ?_⟩
    obtain ⟨y, ey⟩ := c_limitOf (x := s.2.1 (h + 2) (cl (nI i))) (y := 0) l hh
    refine WE_i ey ⟨hin, ?_⟩
    simp only [lt]
    rw [nI_add]
    have f2 : Fi (fun b _ => b = h + 7) σ (jh_setI s (h + 7) (cl (nI i)) y) := Fi_s f rfl
    exact hX (m - (i + 1)) _ _ (by omega) ⟨i + 1, by omega, rfl, rfl, Fi_ly f2 hl, f2⟩
theorem c_close (hl : Ly σ) (hh : IsHo h) (hQ : WQ Q) (z : cHr Q h σ) : WM q_Ho_close [.ref h] σ (kV fun s => Ly s ∧ Fg (PHo h) σ s ∧ cH (qH Q) h s ∧ cL (lwl (qL Q)) (h + 8) s ∧ cNm (qH Q) (qN Q) h s) := by
  have hhl := ho_lt hh
  have n8 := WQ_8 hQ
  obtain ⟨z0, ⟨a1, a2, a3, a4, a5, a6⟩, b1, b2, b3, b4, b5, b6, b7⟩ := z
  refine w_Ho_close h hl hh ?_
  refine Lp2_inv (I := fun r v s => ∃ i, i ≤ Hn (qH Q) ∧ r = Hn (qH Q) - i ∧ v = nI i ∧ Ly s ∧ Fi (fun b _ => b = h + 7) σ s ∧ ∀ j, j < i → s.2.1 (h + 7) j = nI (lim (qH Q) j)) ?_ (m := Hn (qH Q)) ⟨0, by omega, rfl, rfl, hl, Fi_r _ _, fun j hj => absurd hj (Nat.not_lt_zero _)⟩
  rintro r v s ⟨i, hi, rfl, rfl, l, f, hr⟩ X hX
  have e8 : s.2.1 h 8 = nI (Hn (qH Q)) := (f.2.2 _ _ (by omega)).trans a1
  have fo : Fg (PHo h) σ s := Fi_g (Fi_m f (fun b j q => by unfold PHo; omega))
  refine ⟨l, ?_⟩
  by_cases c : Hn (qH Q) ≤ i
  · rw [if_pos (by rw [e8, nI_leN (by omega) (by omega)]; exact c), show s.2.1 h 14 = bI (qL Q).isSome from (f.2.2 _ _ (by omega)).trans a6]
    have hH : cH (qH Q) h s := by
      have e : ∀ b j, b ≠ h + 7 → s.2.1 b j = σ.2.1 b j := fun b j q => f.2.2 b j q
      refine ⟨e8, ?_, ?_, (e _ _ (by omega)).trans a4, fun k hk => (e _ _ (by omega)).trans (b2 k hk), fun k hk => (e _ _ (by omega)).trans (b3 k hk), fun k hk => (e _ _ (by omega)).trans (b4 k (by omega)), fun k hk => ?_, fun k hk => ?_, fun k hk => hr k (by omega)⟩
      · rw [e _ _ (by omega), z0, msk_pad n8 (fun k hk => (hQ.2.2.2.2.1 k hk).1)]
      · rw [e _ _ (by omega), a2, msk_pad n8 (fun k hk => by unfold ctb; rw [(hQ.2.2.2.2.1 k hk).2.1]; rfl)]
      · rw [e _ _ (by omega), b5 k (by omega), msk_pad n8 (fun j hj => by
          cases q : Hb (qH Q) k j
          · rfl
          · have := (hQ.2.2.2.2.2.1 k j q).2; omega)]
      · rw [e _ _ (by omega), b6 k (by omega), msk_pad n8 (fun j hj => by
          cases q : Hx (qH Q) k j
          · rfl
          · have := (hQ.2.2.2.2.2.2.1 k j q).2; omega)]
    have hN : cNm (qH Q) (qN Q) h s := fun k hk => by rw [f.2.1]; exact b1 k hk
    have w7 : cLw ((qL Q).getD []) (h + 8) s := ⟨(f.2.2 _ _ (by omega)).trans b7.1, fun i p e => (f.2.2 _ _ (by omega)).trans (b7.2 i p e)⟩
    cases eL : qL Q with
    | none =>
      rw [eL] at w7
      rw [if_pos (by decide)]
      refine c_add (q := (2, nI 0)) (a := []) l (la_Ho hh) (by decide) (by decide) w7 (fun t lt' ft wt => ⟨lt', lt', Fg_t fo (Fg_m ft (fun b j q => by unfold PLa at q; unfold PHo; omega)), cH_g ft (fun b j h1 h2 => by unfold PLa; omega) hH, ⟨by decide, ⟨Or.inr (Or.inl ⟨rfl, by omega, 0, by omega, rfl⟩), rfl⟩, wt.1, wt.2⟩, cNm_g ft (fun j => by unfold PLa; omega) hN⟩)
    | some M =>
      rw [eL] at w7
      rw [if_neg (show ¬ bI (some M).isSome = 0 from (by decide : ¬ bI true = 0))]
      obtain ⟨m1, m2⟩ := hQ.2.2.2.2.2.2.2.2.2 M eL
      exact ⟨l, fo, hH, ⟨m1, m2, w7.1, w7.2⟩, hN⟩
  · rw [if_neg (by rw [e8, nI_leN (by omega) (by omega)]; exact c)]
    have hin : inb (nI i) 8 := by rw [inb_nI (by omega) (by omega)]; omega
    refine ⟨hin, ?_⟩
    rw [cl_nI (by omega), show s.2.1 (h + 2) i = nI (Hk (qH Q) i) from (f.2.2 _ _ (by omega)).trans (b2 i (by omega))]
    refine WE_i (c_limitOf' l hh ((f.2.2 _ _ (by omega)).trans a4) hQ.1.2.1 (hQ.1.2.2.2.1 i (by omega))) ⟨hin, ?_⟩
    simp only [lt]
    rw [nI_add]
    have f2 : Fi (fun b _ => b = h + 7) σ (jh_setI s (h + 7) i (nI (lim (qH Q) i))) := Fi_s f rfl
    refine hX (Hn (qH Q) - (i + 1)) _ _ (by omega) ⟨i + 1, by omega, rfl, rfl, Fi_ly f2 hl, f2, fun j hj => ?_⟩
    by_cases d : j = i
    · rw [d, rI_eq]
    · rw [rI_ne (by omega)]; exact hr j (by omega)
def PRh (h b j : Nat) : Prop := (b = 65 ∧ 1 ≤ j) ∨ (h ≤ b ∧ b < h + 11)
def CHz (h : Nat) (r : Nat ⊕ Qs) (y : Int32) (s : JH) : Prop := match r with
  | .inl e => y = nI e
  | .inr Q => y = nI 0 ∧ cH (qH Q) h s ∧ cL (lwl (qL Q)) (h + 8) s ∧ cNm (qH Q) (qN Q) h s
theorem c_finish {K : Int32 → JH → Prop} (hl : Ly σ) (hK : ∀ s, Ly s → Fi (fun b j => b = 65 ∧ j = 1) σ s → s.2.1 65 1 = nI 0 → K (σ.2.1 65 8) s) : WM q_Tp_finish [.ref 65] σ (kI K) := by
  refine w_Tp_finish hl ?_
  simp only [lt]
  have f : Fi (fun b j => b = 65 ∧ j = 1) σ (jh_setI σ 65 1 (nI 0)) := Fi_s (Fi_r _ _) ⟨rfl, rfl⟩
  rw [rI_ne (by omega)]
  exact hK _ (Fi_ly f hl) f rI_eq
set_option maxHeartbeats 1000000 in
theorem c_readHouse (hl : Ly σ) (W : Wd σ) (hT : cTp ts σ) (ok : okTp ts) (hh : IsHo h) : WM q_Re_readHouse [.ref 67, .ref h] σ (kI fun y s => Ly s ∧ Fg (PRh h) σ s ∧ s.2.1 65 1 = nI 0 ∧ CHz h (hsR ts 1000 0 Q00) y s) := by
  have hhl := ho_lt hh
  obtain ⟨n, hn1, hn⟩ := tok_n ok
  refine w_Re_readHouse h hl hh ?_
  refine WM_V (c_clear hl hh) (fun s1 v1 => ?_)
  obtain ⟨l1, f1, z1⟩ := v1
  refine ⟨l1, ?_⟩
  refine WM_V (c_rewind l1 (Wd_g f1 (fun b j h => by unfold PHo; omega) W) (cTp_g f1 (by unfold PHo; omega) (fun j => by unfold PHo; omega) hT) ok) (fun s2 v2 => ?_)
  obtain ⟨l2, f2, q2, e2⟩ := v2
  refine ⟨l2, ?_⟩
  have hT1 : cTp ts s1 := cTp_g f1 (by unfold PHo; omega) (fun j => by unfold PHo; omega) hT
  have Q2 : cRd ts 0 s2 := ⟨l2, Wd_g f2 (fun b j h => by unfold PT8; omega) (Wd_g f1 (fun b j h => by unfold PHo; omega) W), cTp_g f2 (by unfold PT8; omega) (fun j => by unfold PT8; omega) hT1, q2, e2⟩
  have F2 : Fg (PRh h) σ s2 := Fg_t (Fg_m f1 (fun b j q => Or.inr q)) (Fg_m f2 (fun b j q => by unfold PT8 at q; unfold PRh; omega))
  have Z2 := cHr_8 hh f2 z1
  refine Lp3_inv (I := fun m v3 v4 s => Ly s ∧ Fg (PRh h) σ s ∧ ((∃ e, v3 = nI 0 ∧ hsR ts 1000 0 Q00 = .inl e ∧ cHf h e s) ∨ (∃ i k Q, v3 = nI 1 ∧ v4 = nI i ∧ i ≤ 1000 ∧ m = 1000 - i ∧ cRd ts k s ∧ k ≤ n ∧ WQ Q ∧ cHr Q h s ∧ hsR ts (1000 - i) k Q = hsR ts 1000 0 Q00))) ?_ (m := 1000) ⟨l2, F2, Or.inr ⟨0, 0, Q00, rfl, rfl, by omega, rfl, Q2, Nat.zero_le _, WQ_00, Z2, rfl⟩⟩
  rintro m v3 v4 s ⟨l, F, v⟩ X hX
  refine ⟨l, ?_⟩
  have PoR : ∀ {b j : Nat}, PHo h b j → PRh h b j := fun q => Or.inr q
  rcases v with ⟨e, rfl, he, zf⟩ | ⟨i, k, Q, rfl, rfl, hi, rfl, qs, hk, hQ, z, hr⟩
  · rw [if_pos (by decide)]
    refine WM_V (c_close_f hh zf) (fun t w => ⟨w.1, ?_⟩)
    refine c_finish w.1 (fun u lu fu eu => ⟨lu, lu, Fg_t F (Fg_t (Fg_m w.2 (fun b j => PoR)) (Fi_g (Fi_m fu (fun b j q => by unfold PRh; omega)))), eu, ?_⟩)
    rw [he]
    exact (w.2.2.1 _ _ (by unfold PHo; omega)).trans zf.2.1
  · have good : hsR ts 1000 0 Q00 = .inr Q → WM q_Ho_close [.ref h] s (kV fun s7 => Ly s7 ∧ WM q_Tp_finish [.ref 65] s7 (kI fun x8 s9 => Ly s9 ∧ (fun y s => Ly s ∧ Fg (PRh h) σ s ∧ s.2.1 65 1 = nI 0 ∧ CHz h (hsR ts 1000 0 Q00) y s) x8 s9)) := by
      intro he
      refine WM_V (c_close l hh hQ z) (fun t w => ⟨w.1, ?_⟩)
      obtain ⟨w1, w2, w3, w4, w5⟩ := w
      refine c_finish w1 (fun u lu fu eu => ⟨lu, lu, Fg_t F (Fg_t (Fg_m w2 (fun b j => PoR)) (Fi_g (Fi_m fu (fun b j q => by unfold PRh; omega)))), eu, ?_⟩)
      rw [he]
      exact ⟨(w2.2.1 _ _ (by unfold PHo; omega)).trans qs.2.2.2.2, cH_g (Fi_g fu) (fun b j h1 h2 => by omega) w3, cL_g (Fi_g fu) (by omega) (fun j => by omega) w4, cNm_g (Fi_g fu) (fun j => by omega) w5⟩
    rw [if_neg (by decide)]
    by_cases ci : 1000 ≤ i
    · rw [if_pos (by rw [nI_leN (by omega) (by omega)]; exact ci)]
      rw [show 1000 - i = 0 by omega] at hr
      exact good hr.symm
    · rw [if_neg (by rw [nI_leN (by omega) (by omega)]; exact ci)]
      obtain ⟨g, hg⟩ : ∃ g, 1000 - i = g + 1 := ⟨1000 - i - 1, by omega⟩
      rw [hg] at hr
      unfold hsR at hr
      refine WE_i (c_atEnd l qs.2.2.1 ok qs.2.2.2.1) ?_
      by_cases c0 : Tk (tok ts k) = 0
      · rw [if_pos c0] at hr
        rw [decide_eq_true c0, if_neg (by decide)]
        exact good hr.symm
      · rw [if_neg c0] at hr
        rw [decide_eq_false c0, if_pos (by decide)]
        have hk1 := tk_lt hn hk c0
        have hok := smi_ok ok hn (plL_ok ok hn hn1 hk c0 hQ)
        refine WM_I (c_houseLine qs ok hn hn1 hk1 hh hQ z) (fun y t w => ?_)
        obtain ⟨w1, w2, w3, w4⟩ := w
        refine ⟨w1, ?_⟩
        rw [nI_add]
        have Ft : Fg (PRh h) σ t := Fg_t F (Fg_m w3 (fun b j q => by unfold PHr at q; unfold PRh; omega))
        cases e : smi ts (plL ts k Q) with
        | inl x =>
          rw [e] at w4 hr
          exact hX (1000 - (i + 1)) _ _ _ (by omega) ⟨w1, Ft, Or.inl ⟨x, w4.1, hr.symm, w4.2⟩⟩
        | inr p =>
          rw [e] at w4 hr hok
          exact hX (1000 - (i + 1)) _ _ _ (by omega) ⟨w1, Ft, Or.inr ⟨i + 1, p.1, p.2, w4.1, rfl, by omega, rfl, w4.2.1, hok.2.1, hok.2.2, w4.2.2, by rw [show 1000 - (i + 1) = g by omega]; exact hr⟩⟩
end CC5

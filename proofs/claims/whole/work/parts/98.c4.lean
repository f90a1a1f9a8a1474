section CC4
variable {s t σ : JH} {ts : List Nat} {n k h : Nat} {Q : Qs} {mm : Nat → Nat} {T : Tok}
theorem nam_sg {d : Nat} (h : isS d T = true) : nam T = false := by
  unfold isS at h
  simp at h
  unfold nam
  rw [decide_eq_false (by omega)]
  rfl
theorem up1_id {α : Type} {f : Nat → α} {i : Nat} : up1 f i (f i) = f := by
  funext j
  unfold up1
  by_cases c : j = i
  · rw [if_pos c, c]
  · rw [if_neg c]
theorem cHx_mm {mm' : Nat → Nat} {i : Nat} {x : Int32} (hi : i < 8) (hx : x = nI (mm' i)) (hm : ∀ j, j < 8 → j ≠ i → mm' j = mm j) (z : cHx Q mm h s) : cHx Q mm' h (jh_setI s (h + 4) i x) := by
  obtain ⟨⟨a1, a2, a3, a4, a5, a6⟩, b1, b2, b3, b4, b5, b6, b7, b8⟩ := z
  refine ⟨⟨(rI_ne (by omega)).trans a1, (rI_ne (by omega)).trans a2, (rI_ne (by omega)).trans a3, (rI_ne (by omega)).trans a4, (rI_ne (by omega)).trans a5, (rI_ne (by omega)).trans a6⟩, b1, fun k hk => (rI_ne (by omega)).trans (b2 k hk), fun k hk => (rI_ne (by omega)).trans (b3 k hk), fun k hk => ?_, fun k hk => (rI_ne (by omega)).trans (b5 k hk), fun k hk => (rI_ne (by omega)).trans (b6 k hk), (rI_ne (by omega)).trans b7, fun j p e => (rI_ne (by omega)).trans (b8 j p e)⟩
  by_cases c : k = i
  · rw [c, rI_eq, hx]
  · rw [rI_ne (by omega), hm k hk c]; exact b4 k hk
theorem cHx_rb {R : Nat → Bool} {Hm' : Nat → Nat} {x : Int32} (hx : x = nI (msk R 8)) (z : cHx Q mm h s) : cHx ((Hn (qH Q), Hk (qH Q), Hw (qH Q), Hp (qH Q), Hm', Hb (qH Q), Hx (qH Q), Ho (qH Q)), qN Q, R, qO Q, qL Q) mm h (jh_setI s h 11 x) := by
  obtain ⟨⟨a1, a2, a3, a4, a5, a6⟩, b1, b2, b3, b4, b5, b6, b7, b8⟩ := z
  exact ⟨⟨(rI_ne (by omega)).trans a1, (rI_ne (by omega)).trans a2, rI_eq.trans hx, (rI_ne (by omega)).trans a4, (rI_ne (by omega)).trans a5, (rI_ne (by omega)).trans a6⟩, b1, fun k hk => (rI_ne (by omega)).trans (b2 k hk), fun k hk => (rI_ne (by omega)).trans (b3 k hk), fun k hk => (rI_ne (by omega)).trans (b4 k hk), fun k hk => (rI_ne (by omega)).trans (b5 k hk), fun k hk => (rI_ne (by omega)).trans (b6 k hk), (rI_ne (by omega)).trans b7, fun j p e => (rI_ne (by omega)).trans (b8 j p e)⟩
/-- while a ring is read: its first still has its own mind -/
def rgM (Q : Qs) (sz fi : Nat) : Nat → Nat := if sz = 0 then Hm (qH Q) else up1 (Hm (qH Q)) fi fi
set_option maxHeartbeats 2000000 in
theorem c_ringLine (q : cRd ts k σ) (ok : okTp ts) (hh : IsHo h) (hQ : WQ Q) (z : cHr Q h σ) : WM q_Re_ringLine [.ref 67, .ref h] σ (kI (KH ts h σ (smi ts (plR ts k Q)))) := by
  refine w_Re_ringLine h q.1 hh ?_
  refine c_adv q ok (fun s1 q1 f1 => ?_)
  have z1 := cHr_8 hh (Fg_78' f1) z
  refine Lp5_inv (I := fun m v2 v3 v4 _ s => ∃ k1 Q1 sz fi la, cRd ts k1 s ∧ v4 = nI sz ∧ sz ≤ 6 ∧ m = 7 - sz ∧ (sz = 0 → v2 = mI 1) ∧ (sz ≠ 0 → v2 = nI fi ∧ v3 = nI la ∧ fi < Hn (qH Q1) ∧ qR Q1 fi = true ∧ Hm (qH Q1) fi = la ∧ la < 8) ∧ WQ Q1 ∧ s.2.1 h 9 = nI (msk (Hw (qH Q1)) 8) ∧ cHx Q1 (rgM Q1 sz fi) h s ∧ Fg (PHr h) σ s ∧ rgR ts (7 - sz) k1 Q1 sz fi = plR ts k Q) ?_ (m := 7) ⟨k + 1, Q, 0, 0, 0, q1, rfl, by omega, rfl, fun _ => rfl, fun g => absurd rfl g, hQ, z1.1, z1.2, Fg_7h f1, rfl⟩
  rintro m v2 v3 v4 o5 s ⟨k1, Q1, sz, fi, la, qs, rfl, hsz, rfl, hv0, hv1, hQ1, h9, zx, F, hr⟩ X hX
  have n8 := WQ_8 hQ1
  refine ⟨qs.1, ?_⟩
  rw [if_neg (by rw [nI_ltN (by omega) (by omega)]; omega)]
  simp only [JJ1]
  obtain ⟨g, hg⟩ : ∃ g, 7 - sz = g + 1 := ⟨6 - sz, by omega⟩
  rw [hg] at hr
  unfold rgR at hr
  -- the next one
  have more : ¬ (2 ≤ sz ∧ isS 59 (tok ts k1) = true) → WE q_Ho_peopleBits [.ref h] s (fun x15 => WM q_Re_toldBody [.ref 67, .ref h, .int x15] s (kI fun x16 s17 => Ly s17 ∧ (if x16 = mI 1 then (KH ts h σ (smi ts (plR ts k Q))) (nI 0) s17 else (if ((s17.2.1 h 11) >>> (x16 &&& 31)) &&& nI 1 = nI 1 then WM q_Tp_faulty [.ref 65, .int (nI 3)] s17 (kI fun x18 s19 => Ly s19 ∧ (x18 = 0 ∨ x18 = 1) ∧ (KH ts h σ (smi ts (plR ts k Q))) x18 s19) else (if nI sz = nI 6 then WM q_Tp_faulty [.ref 65, .int (nI 5)] s17 (kI fun x20 s21 => Ly s21 ∧ (x20 = 0 ∨ x20 = 1) ∧ (KH ts h σ (smi ts (plR ts k Q))) x20 s21) else lt (jh_setI s17 h 11 ((s17.2.1 h 11) ||| ((nI 1) <<< (x16 &&& 31)))) (fun s22 => (if v2 = mI 1 then WM q_Tp_advance [.ref 65] s22 (kV fun s23 => Ly s23 ∧ X x16 x16 (nI sz + nI 1) (some (.int x16)) s23) else inb x16 8 ∧ lt (jh_setI s22 (h + 4) (cl x16) v3) (fun s24 => WM q_Tp_advance [.ref 65] s24 (kV fun s25 => Ly s25 ∧ X v2 x16 (nI sz + nI 1) (some (.int x16)) s25))))))))) := by
    intro hno
    by_cases cn : 2 ≤ sz ∧ nam (tok ts k1) = false
    · rw [if_pos cn] at hr
      have e1 : psn ts Q1 k1 = .inl (flt 1 (tok ts k1)) := if_pos cn.2
      refine c_person qs ok hh hQ1 h9 zx (fun p hp => ?_) (fun e t he l f e8 => ⟨l, ?_⟩)
      · rw [e1] at hp; cases hp
      · rw [e1] at he
        cases he
        rw [if_pos rfl]
        have e2 : smi ts (plR ts k Q) = .inl (flt 1 (tok ts k1)) := by
          rw [← hr]
          show (if isS 59 (tok ts k1) = true then (Sum.inr (k1 + 1, Q1) : PQ) else .inl (flt 1 (tok ts k1))) = _
          rw [if_neg (fun q => hno ⟨cn.1, q⟩)]
        rw [e2]
        exact KH_f hh hQ1 zx F l f e8
    · rw [if_neg cn] at hr
      refine c_person qs ok hh hQ1 h9 zx (fun p hp => ⟨qs.1, ?_⟩) (fun e t he l f e8 => ⟨l, ?_⟩)
      · obtain ⟨u1, u2, u3, u4⟩ := (psn_ok (Q := Q1) (k := k1) ok).2 p hp
        rw [hp] at hr
        have hr : (if qR Q1 p = true then .inl (flt 3 (tok ts k1)) else if sz = 6 then .inl (flt 5 (tok ts k1)) else rgR ts g (k1 + 1) (rgQ Q1 sz fi p) (sz + 1) (if sz = 0 then p else fi)) = plR ts k Q := hr
        rw [if_neg (by rw [nI_m1 (by omega)]; exact id), zx.1.2.2.1, bk_get (by omega) (show p < 8 by omega)]
        by_cases c3 : qR Q1 p = true
        · rw [if_pos c3] at hr
          rw [if_pos (by rw [c3]; rfl), ← hr]
          exact c_kf qs hh hQ1 zx F
        · rw [if_neg c3] at hr
          rw [if_neg (by rw [bI_1]; exact c3)]
          rw [Bool.not_eq_true] at c3
          by_cases c6 : sz = 6
          · rw [if_pos c6] at hr
            rw [if_pos (by rw [c6]), ← hr]
            exact c_kf qs hh hQ1 zx F
          · rw [if_neg c6] at hr
            rw [if_neg (by rw [nI_eqN (by omega) (by omega)]; exact c6), bk_set (by omega) (show p < 8 by omega)]
            simp only [lt]
            have hQ2 := WQ_rg (sz := sz) (fi := fi) hQ1 u2 u4 c3 (fun w => ⟨(hv1 w).2.2.1, (hv1 w).2.2.2.1⟩)
            have z2 : cHx (rgQ Q1 sz fi p) (rgM Q1 sz fi) h (jh_setI s h 11 (nI (msk (up1 (qR Q1) p true) 8))) := cHx_rb rfl zx
            have f2 : Fi (fun b j => b = h ∧ j = 11) s (jh_setI s h 11 (nI (msk (up1 (qR Q1) p true) 8))) := Fi_s (Fi_r _ _) ⟨rfl, rfl⟩
            have fo2 : Fg (PHo h) s (jh_setI s h 11 (nI (msk (up1 (qR Q1) p true) 8))) := Fi_g (Fi_m f2 (fun b j g => by unfold PHo; omega))
            have g9 : (jh_setI s h 11 (nI (msk (up1 (qR Q1) p true) 8))).2.1 h 9 = nI (msk (Hw (qH Q1)) 8) := (rI_ne (by omega)).trans h9
            have l2 := Fi_ly f2 qs.1
            generalize jh_setI s h 11 (nI (msk (up1 (qR Q1) p true) 8)) = s2 at z2 fo2 g9 l2 ⊢
            have hmp : Hm (qH Q1) p = p := hQ1.2.2.2.2.2.2.2.1 p c3
            by_cases c0 : sz = 0
            · rw [if_pos (hv0 c0)]
              refine c_adv (cRd_h hh fo2 l2 qs) ok (fun s3 q3 f3 => ?_)
              rw [nI_add]
              rw [if_pos c0] at hr
              refine hX (7 - (sz + 1)) _ _ _ _ _ (by omega) ⟨k1 + 1, rgQ Q1 sz fi p, sz + 1, p, p, q3, rfl, by omega, rfl, fun g => by omega, fun _ => ⟨rfl, rfl, u2, up1_eq _ _ _, ?_, by omega⟩, hQ2, (f3.2.1 _ _ (by have := ho_lt hh; unfold PT7; omega)).trans g9, ?_, Fg_t F (Fg_t (Fg_oh fo2) (Fg_7h f3)), by rw [show 7 - (sz + 1) = g by omega]; exact hr⟩
              · show (if sz = 0 then Hm (qH Q1) else _) p = p
                rw [if_pos c0]; exact hmp
              · have em : rgM (rgQ Q1 sz fi p) (sz + 1) p = rgM Q1 sz fi := by
                  unfold rgM
                  rw [if_neg (by omega), if_pos c0]
                  show up1 (if sz = 0 then Hm (qH Q1) else _) p p = _
                  rw [if_pos c0]
                  funext j
                  unfold up1
                  by_cases cj : j = p
                  · rw [if_pos cj, cj, hmp]
                  · rw [if_neg cj]
                rw [em]
                exact cHx_8 hh (Fg_78' f3) z2
            · obtain ⟨w1, w2, w3, w4, w5, w6⟩ := hv1 c0
              have hpf : p ≠ fi := fun q => by rw [q, w4] at c3; cases c3
              rw [if_neg (by rw [w1, nI_m1 (by omega)]; exact id), cl_nI (by omega), w2]
              refine ⟨by rw [inb_nI (by omega) (by omega)]; omega, ?_⟩
              have z3 : cHx (rgQ Q1 sz fi p) (rgM (rgQ Q1 sz fi p) (sz + 1) fi) h (jh_setI s2 (h + 4) p (nI la)) := by
                refine cHx_mm (by omega) ?_ (fun j hj hjp => ?_) z2
                · unfold rgM
                  rw [if_neg (by omega), up1_ne hpf]
                  show nI la = nI ((if sz = 0 then Hm (qH Q1) else swp (Hm (qH Q1)) fi p) p)
                  rw [if_neg c0, swp_e, w5]
                · unfold rgM
                  rw [if_neg (by omega), if_neg c0]
                  show up1 (if sz = 0 then Hm (qH Q1) else swp (Hm (qH Q1)) fi p) fi fi j = up1 (Hm (qH Q1)) fi fi j
                  rw [if_neg c0]
                  unfold up1
                  by_cases cj : j = fi
                  · rw [if_pos cj, if_pos cj]
                  · rw [if_neg cj, if_neg cj, swp_o cj hjp]
              have f3 : Fi (fun b j => b = h + 4) s2 (jh_setI s2 (h + 4) p (nI la)) := Fi_s (Fi_r _ _) rfl
              have fo3 : Fg (PHo h) s (jh_setI s2 (h + 4) p (nI la)) := Fg_t fo2 (Fi_g (Fi_m f3 (fun b j g => by unfold PHo; omega)))
              have g9' : (jh_setI s2 (h + 4) p (nI la)).2.1 h 9 = nI (msk (Hw (qH Q1)) 8) := (rI_ne (by omega)).trans g9
              have l3 := Fi_ly f3 l2
              generalize jh_setI s2 (h + 4) p (nI la) = s3 at z3 fo3 g9' l3 ⊢
              refine c_adv (cRd_h hh fo3 l3 qs) ok (fun s4 q4 f4 => ?_)
              rw [nI_add]
              rw [if_neg c0] at hr
              refine hX (7 - (sz + 1)) _ _ _ _ _ (by omega) ⟨k1 + 1, rgQ Q1 sz fi p, sz + 1, fi, p, q4, rfl, by omega, rfl, fun g => by omega, fun _ => ⟨w1, rfl, w3, ?_, ?_, by omega⟩, hQ2, (f4.2.1 _ _ (by have := ho_lt hh; unfold PT7; omega)).trans g9', cHx_8 hh (Fg_78' f4) z3, Fg_t F (Fg_t (Fg_oh fo3) (Fg_7h f4)), by rw [show 7 - (sz + 1) = g by omega]; exact hr⟩
              · show up1 (qR Q1) p true fi = true
                rw [up1_ne (fun q => hpf q.symm)]; exact w4
              · show (if sz = 0 then Hm (qH Q1) else swp (Hm (qH Q1)) fi p) fi = p
                rw [if_neg c0, swp_k, hmp]
      · rw [he] at hr
        rw [if_pos rfl, ← hr]
        exact KH_f hh hQ1 zx F l f e8
  by_cases c2 : 2 ≤ sz
  · rw [if_neg (by rw [nI_ltN (by omega) (by omega)]; omega)]
    by_cases cs : isS 59 (tok ts k1) = true
    · rw [if_pos (by rw [cRd_sg qs ok (by omega) (by omega)]; exact cs)]
      obtain ⟨w1, w2, w3, w4, w5, w6⟩ := hv1 (by omega)
      rw [if_pos ⟨c2, nam_sg cs⟩] at hr
      rw [if_neg (by rw [w1, nI_m1 (by omega)]; exact id), w1, w2, cl_nI (by omega)]
      refine ⟨by rw [inb_nI (by omega) (by omega)]; omega, ?_⟩
      have z3 : cHr Q1 h (jh_setI s (h + 4) fi (nI la)) := by
        refine ⟨(rI_ne (by omega)).trans h9, cHx_mm (by omega) (by rw [w5]) (fun j hj hjf => ?_) zx⟩
        unfold rgM
        rw [if_neg (by omega), up1_ne hjf]
      have f3 : Fi (fun b j => b = h + 4) s (jh_setI s (h + 4) fi (nI la)) := Fi_s (Fi_r _ _) rfl
      have fo3 : Fg (PHo h) s (jh_setI s (h + 4) fi (nI la)) := Fi_g (Fi_m f3 (fun b j g => by unfold PHo; omega))
      rw [← hr]
      exact c_smi (cRd_h hh fo3 (Fi_ly f3 qs.1) qs) ok hh hQ1 z3 (fun y t l f hy cc => ⟨l, hy, l, hy, Fg_t F (Fg_t (Fg_oh fo3) (Fg_8h f)), cc⟩)
    · rw [if_neg (by rw [cRd_sg qs ok (by omega) (by omega)]; exact cs)]
      exact more (fun g => cs g.2)
  · rw [if_pos (by rw [nI_ltN (by omega) (by omega)]; omega)]
    exact more (fun g => c2 g.1)
theorem c_houseLine (q : cRd ts k σ) (ok : okTp ts) (hn : Tk (tok ts n) = 0) (hn1 : n ≤ 1000) (hk : k + 1 ≤ n) (hh : IsHo h) (hQ : WQ Q) (z : cHr Q h σ) : WM q_Re_houseLine [.ref 67, .ref h] σ (kI (KH ts h σ (smi ts (plL ts k Q)))) := by
  obtain ⟨o1, o2, o3⟩ := c_swx q
  have up : ∀ {f : JF} {vs : List Value} {r : PQ}, WM f vs σ (kI (KH ts h σ r)) → WM f vs σ (kI fun x s => Ly s ∧ (x = 0 ∨ x = 1) ∧ KH ts h σ r x s) := fun w => WM_I w (fun y s v => ⟨v.1, v.2.1, v⟩)
  refine w_Re_houseLine h q.1 hh (WE_i o1 ⟨o2, ?_⟩)
  rw [o3]
  unfold plL
  by_cases c : isW 0 (tok ts k) = true
  · rw [if_pos (by rw [swx_is (j := 0) (by decide)]; exact c), if_pos c]; exact up (c_personLine q ok hh hQ z)
  rw [if_neg (by rw [swx_is (j := 0) (by decide)]; exact c), if_neg c]
  by_cases c : isW 1 (tok ts k) = true
  · rw [if_pos (by rw [swx_is (j := 1) (by decide)]; exact c), if_pos c]; exact up (c_newLine q ok hh hQ z)
  rw [if_neg (by rw [swx_is (j := 1) (by decide)]; exact c), if_neg c]
  by_cases c : isW 3 (tok ts k) = true
  · rw [if_pos (by rw [swx_is (j := 3) (by decide)]; exact c), if_pos c]; exact up (c_ringLine q ok hh hQ z)
  rw [if_neg (by rw [swx_is (j := 3) (by decide)]; exact c), if_neg c]
  by_cases c : isW 4 (tok ts k) = true
  · rw [if_pos (by rw [swx_is (j := 4) (by decide)]; exact c), if_pos c]; exact up (c_pairLine (w := false) rfl q ok hh hQ z)
  rw [if_neg (by rw [swx_is (j := 4) (by decide)]; exact c), if_neg c]
  by_cases c : isW 5 (tok ts k) = true
  · rw [if_pos (by rw [swx_is (j := 5) (by decide)]; exact c), if_pos c]; exact up (c_pairLine (w := true) rfl q ok hh hQ z)
  rw [if_neg (by rw [swx_is (j := 5) (by decide)]; exact c), if_neg c]
  by_cases c : isW 6 (tok ts k) = true
  · rw [if_pos (by rw [swx_is (j := 6) (by decide)]; exact c), if_pos c]; exact up (c_oftenLine q ok hh hQ z)
  rw [if_neg (by rw [swx_is (j := 6) (by decide)]; exact c), if_neg c]
  by_cases c : isW 7 (tok ts k) = true
  · rw [if_pos (by rw [swx_is (j := 7) (by decide)]; exact c), if_pos c]; exact up (c_costsLine q ok hn hn1 hk hh hQ z)
  rw [if_neg (by rw [swx_is (j := 7) (by decide)]; exact c), if_neg c]
  exact c_kf q hh hQ z.2 (Fg_r _ _)
end CC4

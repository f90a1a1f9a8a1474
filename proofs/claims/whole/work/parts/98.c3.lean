section CC3
variable {s t σ : JH} {ts : List Nat} {n k h : Nat} {Q : Qs} {mm : Nat → Nat} {T : Tok}
theorem c_person {K : Int32 → JH → Prop} (q : cRd ts k σ) (ok : okTp ts) (hh : IsHo h) (hQ : WQ Q) (h9 : σ.2.1 h 9 = nI (msk (Hw (qH Q)) 8)) (z : cHx Q mm h σ) (h1 : ∀ p, psn ts Q k = .inr p → K (nI p) σ) (h0 : ∀ e s, psn ts Q k = .inl e → Ly s → Fg PT8 σ s → s.2.1 65 8 = nI e → K (mI 1) s) : WE q_Ho_peopleBits [.ref h] σ (fun x => WM q_Re_toldBody [.ref 67, .ref h, .int x] σ (kI K)) := WE_i (c_ppl q.1 hh hQ z.1.1 h9) (c_told q ok hh (WQ_8 hQ) z.1.1 z.2.1 (fun k hk => (hQ.2.2.2.1 k hk).1) h1 h0)
set_option maxHeartbeats 1000000 in
theorem c_pairLine {w : Bool} {p2 : Nat} (hp2 : p2 = if w = true then h + 6 else h + 5) (q : cRd ts k σ) (ok : okTp ts) (hh : IsHo h) (hQ : WQ Q) (z : cHr Q h σ) : WM q_Re_pairLine [.ref 67, .ref h, .ref p2] σ (kI (KH ts h σ (smi ts (plB ts w k Q)))) := by
  have n8 := WQ_8 hQ
  have hA : IsA8 p2 := by
    rw [hp2]
    cases w
    · exact a8_5 hh
    · exact a8_6 hh
  refine w_Re_pairLine h p2 q.1 hh hA ?_
  unfold plB
  refine c_adv q ok (fun s1 q1 f1 => ?_)
  have z1 := cHr_8 hh (Fg_78' f1) z
  refine c_person q1 ok hh hQ z1.1 z1.2 (fun a ha => ⟨q1.1, ?_⟩) (fun e s4 he l4 f4 e4 => ⟨l4, ?_⟩)
  · obtain ⟨v1, v2, v3, v4⟩ := (psn_ok (Q := Q) (k := k + 1) ok).2 a ha
    rw [if_neg (by rw [nI_m1 (by omega)]; exact id), ha]
    refine c_adv q1 ok (fun s5 q5 f5 => ?_)
    have z5 := cHr_8 hh (Fg_78' f5) z1
    have F5 : Fg (PHr h) σ s5 := Fg_t (Fg_7h f1) (Fg_7h f5)
    refine c_person q5 ok hh hQ z5.1 z5.2 (fun b hb => ⟨q5.1, ?_⟩) (fun e s4 he l4 f4 e4 => ⟨l4, ?_⟩)
    · have hb' : psn ts Q (k + 2) = .inr b := hb
      obtain ⟨u1, u2, u3, u4⟩ := (psn_ok (Q := Q) (k := k + 2) ok).2 b hb'
      rw [if_neg (by rw [nI_m1 (by omega)]; exact id), hb']
      show if nI a = nI b then _ else _
      by_cases cab : a = b
      · rw [if_pos (by rw [cab])]
        have er : (if a = b ∨ (if w = true then Hx (qH Q) a b else Hb (qH Q) a b) = true then (Sum.inl (flt 3 (tok ts (k + 2))) : PQ) else .inr (k + 3, prQ w Q a b)) = .inl (flt 3 (tok ts (k + 2))) := if_pos (Or.inl cab)
        show WM q_Tp_faulty [.ref 65, .int (nI 3)] s5 (kI fun x s => Ly s ∧ (x = 0 ∨ x = 1) ∧ KH ts h σ (smi ts (if a = b ∨ (if w = true then Hx (qH Q) a b else Hb (qH Q) a b) = true then (Sum.inl (flt 3 (tok ts (k + 2))) : PQ) else .inr (k + 3, prQ w Q a b))) x s)
        rw [er]
        exact c_kf q5 hh hQ z5.2 F5
      · rw [if_neg (by rw [nI_eqN (by omega) (by omega)]; exact cab), cl_nI (by omega), cl_nI (by omega)]
        have ina : inb (nI a) 8 := by rw [inb_nI (by omega) (by omega)]; omega
        have inb' : inb (nI b) 8 := by rw [inb_nI (by omega) (by omega)]; omega
        refine ⟨ina, ?_⟩
        have row : ∀ i, i < 8 → s5.2.1 p2 i = nI (msk ((if w = true then Hx (qH Q) else Hb (qH Q)) i) 8) := by
          intro i hi
          rw [hp2]
          cases w
          · exact z5.2.2.2.2.2.2.1 i hi
          · exact z5.2.2.2.2.2.2.2.1 i hi
        rw [row a (by omega), bk_get (by omega) (show b < 8 by omega)]
        have eF : (if w = true then Hx (qH Q) else Hb (qH Q)) a b = (if w = true then Hx (qH Q) a b else Hb (qH Q) a b) := by cases w <;> rfl
        by_cases cf : (if w = true then Hx (qH Q) else Hb (qH Q)) a b = true
        · rw [if_pos (by rw [cf]; rfl)]
          have er : (if a = b ∨ (if w = true then Hx (qH Q) a b else Hb (qH Q) a b) = true then (Sum.inl (flt 3 (tok ts (k + 2))) : PQ) else .inr (k + 3, prQ w Q a b)) = .inl (flt 3 (tok ts (k + 2))) := if_pos (Or.inr (by rw [← eF]; exact cf))
          show WM q_Tp_faulty [.ref 65, .int (nI 3)] s5 (kI fun x s => Ly s ∧ (x = 0 ∨ x = 1) ∧ KH ts h σ (smi ts (if a = b ∨ (if w = true then Hx (qH Q) a b else Hb (qH Q) a b) = true then (Sum.inl (flt 3 (tok ts (k + 2))) : PQ) else .inr (k + 3, prQ w Q a b))) x s)
          rw [er]
          exact c_kf q5 hh hQ z5.2 F5
        · rw [if_neg (by rw [bI_1]; exact cf)]
          refine ⟨ina, ina, ?_⟩
          simp only [lt]
          have er : (if a = b ∨ (if w = true then Hx (qH Q) a b else Hb (qH Q) a b) = true then (Sum.inl (flt 3 (tok ts (k + 2))) : PQ) else .inr (k + 3, prQ w Q a b)) = .inr (k + 3, prQ w Q a b) := if_neg (by rintro (g | g); exact cab g; exact cf (by rw [eF]; exact g))
          show inb (nI b) 8 ∧ inb (nI b) 8 ∧ WM q_Tp_advance [.ref 65] _ (kV fun s15 => Ly s15 ∧ WM q_Tp_pass [.ref 65, .int (nI 59)] s15 (kI fun x16 s17 => Ly s17 ∧ (x16 = 0 ∨ x16 = 1) ∧ KH ts h σ (smi ts (if a = b ∨ (if w = true then Hx (qH Q) a b else Hb (qH Q) a b) = true then (Sum.inl (flt 3 (tok ts (k + 2))) : PQ) else .inr (k + 3, prQ w Q a b))) x16 s17))
          rw [er]
          refine ⟨inb', inb', ?_⟩
          rw [rI_ne (by omega), row b (by omega), bk_set (by omega) (show b < 8 by omega), bk_set (by omega) (show a < 8 by omega)]
          have f6 : Fi (fun b j => b = p2) s5 (jh_setI (jh_setI s5 p2 a (nI (msk (up1 ((if w = true then Hx (qH Q) else Hb (qH Q)) a) b true) 8))) p2 b (nI (msk (up1 ((if w = true then Hx (qH Q) else Hb (qH Q)) b) a true) 8))) := Fi_s (Fi_s (Fi_r _ _) rfl) rfl
          have r6 : ∀ i, i < 8 → (jh_setI (jh_setI s5 p2 a (nI (msk (up1 ((if w = true then Hx (qH Q) else Hb (qH Q)) a) b true) 8))) p2 b (nI (msk (up1 ((if w = true then Hx (qH Q) else Hb (qH Q)) b) a true) 8))).2.1 p2 i = nI (msk (st2 (if w = true then Hx (qH Q) else Hb (qH Q)) a b i) 8) := by
            intro i hi
            generalize (if w = true then Hx (qH Q) else Hb (qH Q)) = F at row
            by_cases c1 : i = b
            · rw [c1, rI_eq]
              refine congrArg nI (msk_ext (fun j hj => ?_))
              unfold up1 st2
              by_cases c2 : j = a
              · rw [if_pos c2, if_pos (by omega)]
              · rw [if_neg c2, if_neg (by omega)]
            · rw [rI_ne (by omega)]
              by_cases c2 : i = a
              · rw [c2, rI_eq]
                refine congrArg nI (msk_ext (fun j hj => ?_))
                unfold up1 st2
                by_cases c3 : j = b
                · rw [if_pos c3, if_pos (by omega)]
                · rw [if_neg c3, if_neg (by omega)]
              · rw [rI_ne (by omega), row i hi]
                refine congrArg nI (msk_ext (fun j hj => ?_))
                unfold st2
                rw [if_neg (by omega)]
          generalize jh_setI (jh_setI s5 p2 a (nI (msk (up1 ((if w = true then Hx (qH Q) else Hb (qH Q)) a) b true) 8))) p2 b (nI (msk (up1 ((if w = true then Hx (qH Q) else Hb (qH Q)) b) a true) 8)) = s6 at f6 r6
          have hpb : h ≤ p2 ∧ p2 < h + 11 := by rw [hp2]; cases w <;> simp
          have fo : Fg (PHo h) s5 s6 := Fi_g (Fi_m f6 (fun b j g => by unfold PHo; rw [g]; exact hpb))
          have z6 : cHr (prQ w Q a b) h s6 := by
            obtain ⟨z0, ⟨a1, a2, a3, a4, a5, a6⟩, b1, b2, b3, b4, b5, b6, b7, b8⟩ := z5
            have hne : ∀ d, d ≠ 5 → d ≠ 6 → h + d ≠ p2 := fun d d5 d6 => by rw [hp2]; cases w <;> simp <;> omega
            have e : ∀ b j, b ≠ p2 → s6.2.1 b j = s5.2.1 b j := fun b j g => f6.2.2 b j g
            have h0 : h ≠ p2 := hne 0 (by omega) (by omega)
            refine ⟨(e _ _ h0).trans z0, ⟨(e _ _ h0).trans a1, (e _ _ h0).trans a2, (e _ _ h0).trans a3, (e _ _ h0).trans a4, (e _ _ h0).trans a5, (e _ _ h0).trans a6⟩, fun k hk => by rw [f6.2.1]; exact b1 k hk, fun k hk => (e _ _ (hne 2 (by omega) (by omega))).trans (b2 k hk), fun k hk => (e _ _ (hne 3 (by omega) (by omega))).trans (b3 k hk), fun k hk => (e _ _ (hne 4 (by omega) (by omega))).trans (b4 k hk), fun k hk => ?_, fun k hk => ?_, (e _ _ (hne 8 (by omega) (by omega))).trans b7, fun i p hp => (e _ _ (hne 9 (by omega) (by omega))).trans (b8 i p hp)⟩
            · cases w
              · rw [show h + 5 = p2 from hp2.symm]; exact r6 k hk
              · exact (e _ _ (by rw [hp2]; simp)).trans (b5 k hk)
            · cases w
              · exact (e _ _ (by rw [hp2]; simp)).trans (b6 k hk)
              · rw [show h + 6 = p2 from hp2.symm]; exact r6 k hk
          exact c_end (cRd_h hh fo (Fi_ly f6 q5.1) q5) ok hh (WQ_pr hQ v2 u2 cab) z6 (Fg_t F5 (Fg_oh fo))
    · have he' : psn ts Q (k + 2) = .inl e := he
      rw [if_pos rfl, he']
      exact KH_f hh hQ z5.2 F5 l4 f4 e4
  · rw [if_pos rfl, he]
    exact KH_f hh hQ z1.2 (Fg_7h f1) l4 f4 e4
end CC3

section FD2
variable {Z : Ste} {h pl : Nat} {s t σ : JH} {x y w : Int64}
theorem nar_b {b : Nat} (hb : b < 127) : vp_nar (jt_at 102) ((nI b).toInt8.toInt32) = nI b := by
  have : ∀ b, b < 127 → vp_nar (jt_at 102) ((nI b).toInt8.toInt32) = nI b := by decide +kernel
  exact this b hb
theorem lyb_yes {ts : List Nat} {b : Nat} (h1 : b = 10 ∨ (32 ≤ b ∧ b ≤ 126)) (h2 : ts.length < 1000) : lyb ts b = ts ++ [b] := if_pos ⟨h1, h2⟩
theorem lyb_no {ts : List Nat} {b : Nat} (h : ¬ ((b = 10 ∨ (32 ≤ b ∧ b ≤ 126)) ∧ ts.length < 1000)) : lyb ts b = ts := if_neg h
set_option maxHeartbeats 1000000 in
theorem c_addBytes {ts : List Nat} {p : Int64} (hl : Ly σ) (hT : cTp ts σ) (ok : okTp ts) : WM q_Tp_addBytes [.ref 65, .long p] σ (kV fun s => Ly s ∧ cTp (lyR p 8 ts) s ∧ Fi (fun b j => b = 66 ∨ (b = 65 ∧ j = 1)) σ s) := by
  refine w_Tp_addBytes _ hl ?_
  refine Lp4_inv (I := fun m v1 _ _ s4 => ∃ i us, i ≤ 8 ∧ m = i ∧ v1 = vvI i ∧ Ly s4 ∧ cTp us s4 ∧ okTp us ∧ Fi (fun b j => b = 66 ∨ (b = 65 ∧ j = 1)) σ s4 ∧ lyR p i us = lyR p 8 ts) ?_ (m := 8) ⟨8, ts, by omega, rfl, by decide, hl, hT, ok, Fi_r _ _, rfl⟩
  rintro m v1 o2 o3 s4 ⟨i, us, hi, rfl, rfl, l4, T4, ok4, f4, ht⟩ X hX
  refine ⟨l4, ?_⟩
  cases m with
  | zero =>
    rw [if_pos (by decide)]
    have ht : us = lyR p 8 ts := ht
    rw [← ht]
    exact ⟨l4, T4, f4⟩
  | succ i =>
    have hi8 : i < 8 := Nat.lt_of_succ_le hi
    have hv := vv_s hi8
    rw [if_neg hv.2.2, hv.2.1, hv.1, byte_c hi8]
    have b255 := bty_lt p (8 * i)
    generalize hb : bty p (8 * i) = b at b255
    have ht : lyR p i (lyb us b) = lyR p 8 ts := by rw [← hb]; exact ht
    have skip : ∀ o1 o2, ¬ ((b = 10 ∨ (32 ≤ b ∧ b ≤ 126)) ∧ us.length < 1000) → X (vvI i) o1 o2 s4 := fun o1 o2 hno => hX i _ _ _ _ (by omega) ⟨i, us, by omega, rfl, rfl, l4, T4, ok4, f4, by rw [lyb_no hno] at ht; exact ht⟩
    have h1000 := ok4.1
    have put : ∀ o1 o2, (b = 10 ∨ (32 ≤ b ∧ b ≤ 126)) → (if nI 1000 ≤ s4.2.1 65 1 then X (vvI i) o1 o2 s4 else inb (s4.2.1 65 1) 1000 ∧ lt (jh_setI s4 66 (cl (s4.2.1 65 1)) (vp_nar (jt_at 102) ((nI b).toInt8.toInt32))) (fun s6 => lt (jh_setI s6 65 1 ((s6.2.1 65 1) + nI 1)) (fun s7 => X (vvI i) o1 o2 s7))) := by
      intro o1 o2 hok
      rw [T4.1]
      by_cases c : 1000 ≤ us.length
      · rw [if_pos (by rw [nI_leN (by omega) (by omega)]; exact c)]
        exact skip _ _ (fun q => by omega)
      · rw [if_neg (by rw [nI_leN (by omega) (by omega)]; exact c)]
        refine ⟨by rw [inb_nI (by omega) (by omega)]; omega, ?_⟩
        rw [cl_nI (by omega), nar_b (by omega)]
        simp only [lt]
        have f6 : Fi (fun b j => b = 66 ∨ (b = 65 ∧ j = 1)) s4 (jh_setI s4 66 us.length (nI b)) := Fi_s (Fi_r _ _) (Or.inl rfl)
        have t6 := tp_app (blk := 66) T4.2 (rfl : nI b = nI b)
        have e6 : (jh_setI s4 66 us.length (nI b)).2.1 65 1 = nI us.length := (rI_ne (by omega)).trans T4.1
        generalize jh_setI s4 66 us.length (nI b) = s6 at f6 t6 e6 ⊢
        rw [e6, nI_add]
        have f7 : Fi (fun b j => b = 66 ∨ (b = 65 ∧ j = 1)) s4 (jh_setI s6 65 1 (nI (us.length + 1))) := Fi_s f6 (Or.inr ⟨rfl, rfl⟩)
        have hy := lyb_yes hok (show us.length < 1000 by omega)
        refine hX i _ _ _ _ (by omega) ⟨i, lyb us b, by omega, rfl, rfl, Fi_ly f7 l4, ?_, lyb_ok ok4, Fi_t f4 f7, ht⟩
        rw [hy]
        refine ⟨?_, fun j c e => (rI_ne (by omega)).trans (t6 j c e)⟩
        rw [List.length_append]
        exact rI_eq
    by_cases c10 : b = 10
    · rw [if_pos (by rw [c10])]
      exact put _ _ (Or.inl c10)
    · rw [if_neg (by rw [nI_eqN (by omega) (by omega)]; exact c10)]
      by_cases c32 : b < 32
      · rw [if_pos (by rw [nI_ltN (by omega) (by omega)]; exact c32)]
        exact skip _ _ (fun q => by omega)
      · rw [if_neg (by rw [nI_ltN (by omega) (by omega)]; exact c32)]
        by_cases c126 : 126 < b
        · rw [if_pos (by rw [nI_ltN (by omega) (by omega)]; exact c126)]
          exact skip _ _ (fun q => by omega)
        · rw [if_neg (by rw [nI_ltN (by omega) (by omega)]; exact c126)]
          exact put _ _ (Or.inr (by omega))
set_option maxHeartbeats 1000000 in
theorem m_lay {ts : List Nat} {p : Int64} (hl : Ly σ) (hT : mTp ts σ) (ok : okTp ts) : WM q_Md_lay [.ref 204, .long p] σ (kV fun s => Ly s ∧ mTp (lyR p 8 ts) s ∧ Fi (fun b j => b = 205 ∨ (b = 204 ∧ j = 2)) σ s) := by
  refine w_Md_lay _ hl ?_
  refine Lp3_inv (I := fun m v1 _ s4 => ∃ i us, i ≤ 8 ∧ m = i ∧ v1 = vvI i ∧ Ly s4 ∧ mTp us s4 ∧ okTp us ∧ Fi (fun b j => b = 205 ∨ (b = 204 ∧ j = 2)) σ s4 ∧ lyR p i us = lyR p 8 ts) ?_ (m := 8) ⟨8, ts, by omega, rfl, by decide, hl, hT, ok, Fi_r _ _, rfl⟩
  rintro m v1 o2 s4 ⟨i, us, hi, rfl, rfl, l4, T4, ok4, f4, ht⟩ X hX
  refine ⟨l4, ?_⟩
  cases m with
  | zero =>
    rw [if_pos (by decide)]
    have ht : us = lyR p 8 ts := ht
    rw [← ht]
    exact ⟨l4, T4, f4⟩
  | succ i =>
    have hi8 : i < 8 := Nat.lt_of_succ_le hi
    have hv := vv_s hi8
    rw [if_neg hv.2.2, hv.2.1, hv.1, byte_m hi8]
    simp only [JJ1]
    have b255 := bty_lt p (8 * i)
    generalize hb : bty p (8 * i) = b at b255
    have ht : lyR p i (lyb us b) = lyR p 8 ts := by rw [← hb]; exact ht
    have skip : ∀ o1, ¬ ((b = 10 ∨ (32 ≤ b ∧ b ≤ 126)) ∧ us.length < 1000) → X (vvI i) o1 s4 := fun o1 hno => hX i _ _ _ (by omega) ⟨i, us, by omega, rfl, rfl, l4, T4, ok4, f4, by rw [lyb_no hno] at ht; exact ht⟩
    have h1000 := ok4.1
    have put : ∀ o1, (b = 10 ∨ (32 ≤ b ∧ b ≤ 126)) → (if nI 1000 ≤ s4.2.1 204 2 then X (vvI i) o1 s4 else inb (s4.2.1 204 2) 1000 ∧ lt (jh_setI s4 205 (cl (s4.2.1 204 2)) (nI b)) (fun s6 => lt (jh_setI s6 204 2 ((s6.2.1 204 2) + nI 1)) (fun s7 => X (vvI i) o1 s7))) := by
      intro o1 hok
      rw [T4.1]
      by_cases c : 1000 ≤ us.length
      · rw [if_pos (by rw [nI_leN (by omega) (by omega)]; exact c)]
        exact skip _ (fun q => by omega)
      · rw [if_neg (by rw [nI_leN (by omega) (by omega)]; exact c)]
        refine ⟨by rw [inb_nI (by omega) (by omega)]; omega, ?_⟩
        rw [cl_nI (by omega)]
        simp only [lt]
        have f6 : Fi (fun b j => b = 205 ∨ (b = 204 ∧ j = 2)) s4 (jh_setI s4 205 us.length (nI b)) := Fi_s (Fi_r _ _) (Or.inl rfl)
        have t6 := tp_app (blk := 205) T4.2 (rfl : nI b = nI b)
        have e6 : (jh_setI s4 205 us.length (nI b)).2.1 204 2 = nI us.length := (rI_ne (by omega)).trans T4.1
        generalize jh_setI s4 205 us.length (nI b) = s6 at f6 t6 e6 ⊢
        rw [e6, nI_add]
        have f7 : Fi (fun b j => b = 205 ∨ (b = 204 ∧ j = 2)) s4 (jh_setI s6 204 2 (nI (us.length + 1))) := Fi_s f6 (Or.inr ⟨rfl, rfl⟩)
        have hy := lyb_yes hok (show us.length < 1000 by omega)
        refine hX i _ _ _ (by omega) ⟨i, lyb us b, by omega, rfl, rfl, Fi_ly f7 l4, ?_, lyb_ok ok4, Fi_t f4 f7, ht⟩
        rw [hy]
        refine ⟨?_, fun j c e => (rI_ne (by omega)).trans (t6 j c e)⟩
        rw [List.length_append]
        exact rI_eq
    by_cases c10 : b = 10
    · rw [if_pos (by rw [c10])]
      exact put _ (Or.inl c10)
    · rw [if_neg (by rw [nI_eqN (by omega) (by omega)]; exact c10)]
      by_cases c32 : b < 32
      · rw [if_pos (by rw [nI_ltN (by omega) (by omega)]; exact c32)]
        exact skip _ (fun q => by omega)
      · rw [if_neg (by rw [nI_ltN (by omega) (by omega)]; exact c32)]
        by_cases c126 : 126 < b
        · rw [if_pos (by rw [nI_ltN (by omega) (by omega)]; exact c126)]
          exact skip _ (fun q => by omega)
        · rw [if_neg (by rw [nI_ltN (by omega) (by omega)]; exact c126)]
          exact put _ (Or.inr (by omega))
theorem a_feed (hZ : WZ Z) : Agr q_Ct_feed [.ref 64, .long x, .long y, .long w] q_Md_feed [.ref 204, .long x, .long y, .long w] Z := by
  have ok0 : okTp (tT Z) := ⟨hZ.2.2.2.2.2.2.2.2.1, hZ.2.2.2.2.2.2.2.2.2⟩
  have ok1 := lyR_ok (p := x) 8 _ ok0
  have ok2 := lyR_ok (p := y) 8 _ ok1
  have ok3 := lyR_ok (p := w) 8 _ ok2
  refine ⟨nI (lyR w 8 (lyR y 8 (lyR x 8 (tT Z)))).length, zT Z (lyR w 8 (lyR y 8 (lyR x 8 (tT Z)))), ?_, fun h pl σ z => ?_, fun σ z => ?_⟩
  · obtain ⟨w1, w2, w3, w4, w5, w6, w7, w8, w9, w10⟩ := hZ
    exact ⟨w1, w2, w3, w4, w5, w6, w7, w8, ok3.1, ok3.2⟩
  · refine w_Ct_feed _ _ _ z.1.1 ?_
    refine WM_V (c_addBytes z.1.1 z.2.2.2.2.2.2.2.2 ok0) fun s1 ⟨l1, t1, f1⟩ => ⟨l1, ?_⟩
    refine WM_V (c_addBytes l1 t1 ok1) fun s2 ⟨l2, t2, f2⟩ => ⟨l2, ?_⟩
    refine WM_V (c_addBytes l2 t2 ok2) fun s3 ⟨l3, t3, f3⟩ => ⟨l3, t3.1, ⟨h, pl, ?_⟩, ?_⟩
    · exact Rc_tp z (Fi_g (Fi_t f1 (Fi_t f2 f3))) l3 (fun b j _ _ q => by omega) t3
    · exact Fg_m (Fi_g (Fi_t f1 (Fi_t f2 f3))) (fun b j q => by omega)
  · refine w_Md_feed _ _ _ z.1 (lt_thr hZ z fun s z' f' => ?_)
    refine WM_V (m_lay z'.1 z'.2.2.2.2.2.2.2.2 ok0) fun s1 ⟨l1, t1, f1⟩ => ⟨l1, ?_⟩
    refine WM_V (m_lay l1 t1 ok1) fun s2 ⟨l2, t2, f2⟩ => ⟨l2, ?_⟩
    refine WM_V (m_lay l2 t2 ok2) fun s3 ⟨l3, t3, f3⟩ => ⟨l3, t3.1, ?_, ?_⟩
    · exact Rm_tp hZ z' (Fi_g (Fi_t f1 (Fi_t f2 f3))) l3 (fun b j _ _ q => by omega) t3
    · exact Fg_t f' (Fg_m (Fi_g (Fi_t f1 (Fi_t f2 f3))) (fun b j q => by omega))
end FD2

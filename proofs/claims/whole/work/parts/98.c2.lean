section CC2
variable {s t σ : JH} {ts : List Nat} {n k h : Nat} {Q : Qs} {mm : Nat → Nat} {T : Tok}
def KH (ts : List Nat) (h : Nat) (σ : JH) (r : PQ) (y : Int32) (s : JH) : Prop := Ly s ∧ (y = 0 ∨ y = 1) ∧ Fg (PHr h) σ s ∧ CH ts h r y s
theorem Fg_8h (f : Fg PT8 s t) : Fg (PHr h) s t := Fg_m f (fun b j => PT8_h)
theorem Fg_7h (f : Fg PT7 s t) : Fg (PHr h) s t := Fg_m f (fun b j q => PT8_h (PT78 q))
theorem Fg_78' (f : Fg PT7 s t) : Fg PT8 s t := Fg_m f (fun b j => PT78)
theorem Fg_oh (f : Fg (PHo h) s t) : Fg (PHr h) s t := Fg_m f (fun b j => PHo_r)
theorem KH_f {e : Nat} (hh : IsHo h) (hQ : WQ Q) (z : cHx Q mm h s) (f0 : Fg (PHr h) σ s) (l : Ly t) (f : Fg PT8 s t) (h8 : t.2.1 65 8 = nI e) : KH ts h σ (.inl e) (nI 0) t := ⟨l, Or.inl rfl, Fg_t f0 (Fg_8h f), rfl, cHf_i hh hQ z l f h8⟩
theorem c_kf {f : Nat} (q : cRd ts k s) (hh : IsHo h) (hQ : WQ Q) (z : cHx Q mm h s) (f0 : Fg (PHr h) σ s) : WM q_Tp_faulty [.ref 65, .int (nI f)] s (kI fun y t => Ly t ∧ (y = 0 ∨ y = 1) ∧ KH ts h σ (.inl (flt f (tok ts k))) y t) := c_flt q (fun t l g e => ⟨l, Or.inl rfl, KH_f hh hQ z f0 l g e⟩)
/-- the next token and the line's end -/
theorem c_end (q : cRd ts k s) (ok : okTp ts) (hh : IsHo h) (hQ : WQ Q) (z : cHr Q h s) (f0 : Fg (PHr h) σ s) : WM q_Tp_advance [.ref 65] s (kV fun s1 => Ly s1 ∧ WM q_Tp_pass [.ref 65, .int (nI 59)] s1 (kI fun y t => Ly t ∧ (y = 0 ∨ y = 1) ∧ KH ts h σ (smi ts (.inr (k + 1, Q))) y t)) := by
  refine c_adv q ok (fun s1 q1 f1 => ?_)
  exact c_smi q1 ok hh hQ (cHr_8 hh (Fg_78' f1) z) (fun y t l f hy c => ⟨l, hy, l, hy, Fg_t f0 (Fg_t (Fg_7h f1) (Fg_8h f)), c⟩)
def kdI (o : Option Nat) : Int32 := match o with
  | some c => nI c
  | none => mI 1
theorem c_kindOf (q : cRd ts k σ) : q_Re_kindOf [.ref (rf σ 65 4)] σ = some (some (.int (kdI (kdo (tok ts k)))), σ) := by
  obtain ⟨o1, o2, o3⟩ := c_swx q
  have hw : rf σ 65 4 < 22 := by rw [q.2.2.2.1.2.2.1]; exact wo_lt
  refine WE_o (w_Re_kindOf _ q.1 hw (WE_i o1 ⟨o2, ?_⟩))
  rw [o3]
  generalize tok ts k = T
  unfold kdo
  by_cases c1 : isW 11 T = true
  · rw [if_pos (by rw [swx_is (j := 11) (by decide)]; exact c1)]
    rw [isW_is] at c1
    rw [if_pos (by omega), c1.2]; rfl
  rw [if_neg (by rw [swx_is (j := 11) (by decide)]; exact c1)]
  by_cases c2 : isW 12 T = true
  · rw [if_pos (by rw [swx_is (j := 12) (by decide)]; exact c2)]
    rw [isW_is] at c2
    rw [if_pos (by omega), c2.2]; rfl
  rw [if_neg (by rw [swx_is (j := 12) (by decide)]; exact c2)]
  by_cases c3 : isW 13 T = true
  · rw [if_pos (by rw [swx_is (j := 13) (by decide)]; exact c3)]
    rw [isW_is] at c3
    rw [if_pos (by omega), c3.2]; rfl
  rw [if_neg (by rw [swx_is (j := 13) (by decide)]; exact c3)]
  by_cases c4 : isW 14 T = true
  · rw [if_pos (by rw [swx_is (j := 14) (by decide)]; exact c4)]
    rw [isW_is] at c4
    rw [if_pos (by omega), c4.2]; rfl
  rw [if_neg (by rw [swx_is (j := 14) (by decide)]; exact c4)]
  rw [isW_is] at c1 c2 c3 c4
  rw [if_neg (by omega)]; rfl
theorem msk_upf {f : Nat → Bool} {i : Nat} (h : f i = false) : up1 f i false = f := by
  funext j
  unfold up1
  by_cases c : j = i
  · rw [if_pos c, c, h]
  · rw [if_neg c]
theorem c_personLine (q : cRd ts k σ) (ok : okTp ts) (hh : IsHo h) (hQ : WQ Q) (z : cHr Q h σ) : WM q_Re_personLine [.ref 67, .ref h] σ (kI (KH ts h σ (smi ts (plP ts k Q)))) := by
  have n8 := WQ_8 hQ
  refine w_Re_personLine h q.1 hh (WE_i (c_ppl q.1 hh hQ z.2.1.1 z.1) (WE_i (j_bcm q.1 n8) ?_))
  have hc6 := cntB_le (fun k => !Hw (qH Q) k) (Hn (qH Q))
  have e : ppl Q = cntB (fun k => !Hw (qH Q) k) (Hn (qH Q)) := rfl
  unfold plP
  by_cases c : ppl Q < 6
  · rw [if_pos (by rw [nI_ltN (by omega) (by omega)]; exact c), if_pos c]
    refine c_adv q ok (fun s1 q1 f1 => ?_)
    have z1 := cHr_8 hh (Fg_78' f1) z
    refine c_untold q1 ok hh hQ z1.2 (fun hu => ?_) (fun s5 hu l5 f5 e5 => ⟨l5, ?_⟩)
    · rw [if_pos hu]
      refine ⟨q1.1, ?_⟩
      rw [if_neg (by decide)]
      refine c_adv q1 ok (fun s6 q6 f6 => ?_)
      have z6 := cHr_8 hh (Fg_78' f6) z1
      have F6 : Fg (PHr h) σ s6 := Fg_t (Fg_7h f1) (Fg_7h f6)
      refine WE_i (c_kindOf q6) ?_
      cases e : kdo (tok ts (k + 2)) with
      | none =>
        rw [if_pos (show kdI none = mI 1 from rfl)]
        exact c_kf q6 hh hQ z6.2 F6
      | some c' =>
        have hc' : c' < 4 := by
          unfold kdo at e
          by_cases g : Tk (tok ts (k + 2)) = 1 ∧ 11 ≤ wix (Tl (tok ts (k + 2))) ∧ wix (Tl (tok ts (k + 2))) < 15
          · rw [if_pos g] at e; cases e; omega
          · rw [if_neg g] at e; cases e
        rw [if_neg (show ¬ kdI (some c') = mI 1 by show ¬ nI c' = mI 1; rw [nI_m1 (by omega)]; exact id), q1.2.2.2.1.2.2.2.1]
        have hs := cnt_sum (Hw (qH Q)) (Hn (qH Q))
        have g3 := hQ.2.2.1
        have e2 : nws Q = cntB (Hw (qH Q)) (Hn (qH Q)) := rfl
        have hu2 := (unt_ok (Q := Q) (k := k + 1) ok).2 hu
        refine c_addBody (w := false) (p := 0) q6.1 hh hQ (by omega) hc' z6.2 (by rw [msk_upf (hQ.2.2.2.2.1 _ (Nat.le_refl _)).1]; exact z6.1) (fun s7 l7 f7 z7 => ⟨l7, ?_⟩)
        exact c_end (cRd_h hh f7 l7 q6) ok hh (WQ_add hQ (by simp; exact c) hc' (by omega) hu2.2.1 hu2.2.2) z7 (Fg_t F6 (Fg_oh f7))
    · rw [if_neg hu, if_pos (by decide)]
      exact KH_f hh hQ z1.2 (Fg_7h f1) l5 f5 e5
  · rw [if_neg (by rw [nI_ltN (by omega) (by omega)]; exact c), if_neg c]
    exact c_kf q hh hQ z.2 (Fg_r _ _)
theorem c_newLine (q : cRd ts k σ) (ok : okTp ts) (hh : IsHo h) (hQ : WQ Q) (z : cHr Q h σ) : WM q_Re_newLine [.ref 67, .ref h] σ (kI (KH ts h σ (smi ts (plN ts k Q)))) := by
  have n8 := WQ_8 hQ
  have hb : q_In_bitCount [.int (σ.2.1 h 9)] σ = some (some (.int (nI (nws Q))), σ) := by
    rw [z.1, msk_pad n8 (fun k hk => (hQ.2.2.2.2.1 k hk).1)]
    exact j_bcm q.1 n8
  refine w_Re_newLine h q.1 hh (WE_i hb ?_)
  have hc6 := cntB_le (Hw (qH Q)) (Hn (qH Q))
  have e2 : nws Q = cntB (Hw (qH Q)) (Hn (qH Q)) := rfl
  unfold plN
  by_cases c : nws Q < 2
  · rw [if_pos (by rw [nI_ltN (by omega) (by omega)]; exact c), if_pos c]
    refine c_adv q ok (fun s1 q1 f1 => ?_)
    have z1 := cHr_8 hh (Fg_78' f1) z
    refine c_untold q1 ok hh hQ z1.2 (fun hu => ?_) (fun s5 hu l5 f5 e5 => ⟨l5, ?_⟩)
    · rw [if_pos hu]
      have hu2 := (unt_ok (Q := Q) (k := k + 1) ok).2 hu
      refine ⟨q1.1, ?_⟩
      rw [if_neg (by decide)]
      refine c_adv q1 ok (fun s6 q6 f6 => ?_)
      have z6 := cHr_8 hh (Fg_78' f6) z1
      have F6 : Fg (PHr h) σ s6 := Fg_t (Fg_7h f1) (Fg_7h f6)
      by_cases d : isW 2 (tok ts (k + 2)) = true
      · rw [if_pos (by rw [cRd_w q6 (by omega)]; exact d), if_pos d]
        refine c_adv q6 ok (fun s7 q7 f7 => ?_)
        have z7 := cHr_8 hh (Fg_78' f7) z6
        have F7 : Fg (PHr h) σ s7 := Fg_t F6 (Fg_7h f7)
        refine c_number q7 ok (by omega) (by omega) (fun v hv ev => ?_) (fun e s8 he l8 f8 e8 => ⟨l8, ?_⟩)
        · have hv' : nmb ts 0 999 (k + 3) = .inr v := hv
          have vb := (nmb_ok (lo := 0) (hi := 999) (k := k + 3) ok).2 v hv'
          refine ⟨q7.1, ?_⟩
          rw [if_neg (by decide), hv', ev, q1.2.2.2.1.2.2.2.1]
          have hs := cnt_sum (Hw (qH Q)) (Hn (qH Q))
          have e1 : ppl Q = cntB (fun k => !Hw (qH Q) k) (Hn (qH Q)) := rfl
          have g2 := hQ.2.1
          refine w_Ho_addNew h _ _ q7.1 hh ?_
          simp only [lt]
          rw [z7.1, z7.2.1.1, bk_set (by omega) (by omega)]
          have fs : Fi (fun b j => b = h ∧ j = 9) s7 (jh_setI s7 h 9 (nI (msk (up1 (Hw (qH Q)) (Hn (qH Q)) true) 8))) := Fi_s (Fi_r _ _) ⟨rfl, rfl⟩
          have zs : cHx Q (Hm (qH Q)) h (jh_setI s7 h 9 (nI (msk (up1 (Hw (qH Q)) (Hn (qH Q)) true) 8))) := by
            obtain ⟨⟨a1, a2, a3, a4, a5, a6⟩, b1, b2, b3, b4, b5, b6, b7, b8⟩ := z7.2
            have e : ∀ b j, ¬ (b = h ∧ j = 9) → (jh_setI s7 h 9 (nI (msk (up1 (Hw (qH Q)) (Hn (qH Q)) true) 8))).2.1 b j = s7.2.1 b j := fs.2.2
            exact ⟨⟨(e _ _ (by omega)).trans a1, (e _ _ (by omega)).trans a2, (e _ _ (by omega)).trans a3, (e _ _ (by omega)).trans a4, (e _ _ (by omega)).trans a5, (e _ _ (by omega)).trans a6⟩, b1, fun k hk => (e _ _ (by omega)).trans (b2 k hk), fun k hk => (e _ _ (by omega)).trans (b3 k hk), fun k hk => (e _ _ (by omega)).trans (b4 k hk), fun k hk => (e _ _ (by omega)).trans (b5 k hk), fun k hk => (e _ _ (by omega)).trans (b6 k hk), (e _ _ (by omega)).trans b7, fun i p hp => (e _ _ (by omega)).trans (b8 i p hp)⟩
          have fo : Fg (PHo h) s7 (jh_setI s7 h 9 (nI (msk (up1 (Hw (qH Q)) (Hn (qH Q)) true) 8))) := Fi_g (Fi_m fs (fun b j h => by unfold PHo; omega))
          refine c_addBody (w := true) (c := 0) (p := v) (Fi_ly fs q7.1) hh hQ (by omega) (by omega) zs rI_eq (fun s9 l9 f9 z9 => ⟨l9, l9, ?_⟩)
          have f9' := Fg_t fo f9
          exact c_end (cRd_h hh f9' l9 q7) ok hh (WQ_add hQ (by simp; exact c) (by omega) (by omega) hu2.2.1 hu2.2.2) z9 (Fg_t F7 (Fg_oh f9'))
        · have he' : nmb ts 0 999 (k + 3) = .inl e := he
          rw [if_pos (by decide), he']
          exact KH_f hh hQ z7.2 F7 l8 f8 e8
      · rw [if_neg (by rw [cRd_w q6 (by omega)]; exact d), if_neg d]
        exact c_kf q6 hh hQ z6.2 F6
    · rw [if_neg hu, if_pos (by decide)]
      exact KH_f hh hQ z1.2 (Fg_7h f1) l5 f5 e5
  · rw [if_neg (by rw [nI_ltN (by omega) (by omega)]; exact c), if_neg c]
    exact c_kf q hh hQ z.2 (Fg_r _ _)
/-- often, costs told -/
def onQ (Q : Qs) : Qs := (qH Q, qN Q, qR Q, true, qL Q)
theorem WQ_on (hQ : WQ Q) : WQ (onQ Q) := hQ
theorem c_oftenLine (q : cRd ts k σ) (ok : okTp ts) (hh : IsHo h) (hQ : WQ Q) (z : cHr Q h σ) : WM q_Re_oftenLine [.ref 67, .ref h] σ (kI (KH ts h σ (smi ts (plO ts k Q)))) := by
  refine w_Re_oftenLine h q.1 hh ?_
  unfold plO
  rw [z.2.1.2.2.2.2.1]
  by_cases c : qO Q = true
  · rw [c, if_neg (by decide), if_pos rfl]
    exact c_kf q hh hQ z.2 (Fg_r _ _)
  · rw [if_neg c]
    rw [Bool.not_eq_true] at c
    rw [c, if_pos (by decide)]
    simp only [lt]
    have fs : Fi (fun b j => b = h ∧ j = 13) σ (jh_setI σ h 13 (nI 1)) := Fi_s (Fi_r _ _) ⟨rfl, rfl⟩
    have zs : cHr (onQ Q) h (jh_setI σ h 13 (nI 1)) := by
      obtain ⟨z0, ⟨a1, a2, a3, a4, a5, a6⟩, b1, b2, b3, b4, b5, b6, b7, b8⟩ := z
      have e : ∀ b j, ¬ (b = h ∧ j = 13) → (jh_setI σ h 13 (nI 1)).2.1 b j = σ.2.1 b j := fs.2.2
      exact ⟨(e _ _ (by omega)).trans z0, ⟨(e _ _ (by omega)).trans a1, (e _ _ (by omega)).trans a2, (e _ _ (by omega)).trans a3, (e _ _ (by omega)).trans a4, rI_eq, (e _ _ (by omega)).trans a6⟩, b1, fun k hk => (e _ _ (by omega)).trans (b2 k hk), fun k hk => (e _ _ (by omega)).trans (b3 k hk), fun k hk => (e _ _ (by omega)).trans (b4 k hk), fun k hk => (e _ _ (by omega)).trans (b5 k hk), fun k hk => (e _ _ (by omega)).trans (b6 k hk), (e _ _ (by omega)).trans b7, fun i p hp => (e _ _ (by omega)).trans (b8 i p hp)⟩
    have fo : Fg (PHo h) σ (jh_setI σ h 13 (nI 1)) := Fi_g (Fi_m fs (fun b j h => by unfold PHo; omega))
    have ls := Fi_ly fs q.1
    generalize jh_setI σ h 13 (nI 1) = s1 at zs fo ls
    refine c_adv (cRd_h hh fo ls q) ok (fun s2 q2 f2 => ?_)
    have z2 := cHr_8 hh (Fg_78' f2) zs
    have F2 : Fg (PHr h) σ s2 := Fg_t (Fg_oh fo) (Fg_7h f2)
    refine c_number q2 ok (by omega) (by omega) (fun v hv ev => ?_) (fun e s8 he l8 f8 e8 => ⟨l8, ?_⟩)
    · refine ⟨q2.1, ?_⟩
      have vb := (nmb_ok (lo := 1) (hi := 9) (k := k + 1) ok).2 v hv
      rw [if_neg (by decide), hv, ev]
      have f3 : Fi (fun b j => b = h ∧ j = 12) s2 (jh_setI s2 h 12 (nI v)) := Fi_s (Fi_r _ _) ⟨rfl, rfl⟩
      have z3 : cHr (ofQ Q v) h (jh_setI s2 h 12 (nI v)) := by
        obtain ⟨z0, ⟨a1, a2, a3, a4, a5, a6⟩, b1, b2, b3, b4, b5, b6, b7, b8⟩ := z2
        have e : ∀ b j, ¬ (b = h ∧ j = 12) → (jh_setI s2 h 12 (nI v)).2.1 b j = s2.2.1 b j := f3.2.2
        exact ⟨(e _ _ (by omega)).trans z0, ⟨(e _ _ (by omega)).trans a1, (e _ _ (by omega)).trans a2, (e _ _ (by omega)).trans a3, rI_eq, (e _ _ (by omega)).trans a5, (e _ _ (by omega)).trans a6⟩, b1, fun k hk => (e _ _ (by omega)).trans (b2 k hk), fun k hk => (e _ _ (by omega)).trans (b3 k hk), fun k hk => (e _ _ (by omega)).trans (b4 k hk), fun k hk => (e _ _ (by omega)).trans (b5 k hk), fun k hk => (e _ _ (by omega)).trans (b6 k hk), (e _ _ (by omega)).trans b7, fun i p hp => (e _ _ (by omega)).trans (b8 i p hp)⟩
      have fo3 : Fg (PHo h) s2 (jh_setI s2 h 12 (nI v)) := Fi_g (Fi_m f3 (fun b j h => by unfold PHo; omega))
      exact c_end (cRd_h hh fo3 (Fi_ly f3 q2.1) q2) ok hh (WQ_of hQ (by omega) (by omega)) z3 (Fg_t F2 (Fg_oh fo3))
    · rw [if_pos (by decide), he]
      exact KH_f hh (WQ_on hQ) z2.2 F2 l8 f8 e8
theorem c_costsLine (q : cRd ts k σ) (ok : okTp ts) (hn : Tk (tok ts n) = 0) (hn1 : n ≤ 1000) (hk : k + 1 ≤ n) (hh : IsHo h) (hQ : WQ Q) (z : cHr Q h σ) : WM q_Lr_costsLine [.ref 68, .ref h] σ (kI (KH ts h σ (smi ts (plC ts k Q)))) := by
  have hhl := ho_lt hh
  have hla := la_Ho hh
  refine w_Lr_costsLine h q.1 hh ?_
  unfold plC
  rw [z.2.1.2.2.2.2.2]
  by_cases c : (qL Q).isSome = true
  · rw [c, if_neg (by decide), if_pos rfl]
    exact c_kf q hh hQ z.2 (Fg_r _ _)
  · rw [if_neg c]
    rw [Bool.not_eq_true] at c
    rw [c, if_pos (by decide)]
    have eL : qL Q = none := by cases e : qL Q with
      | none => rfl
      | some M => rw [e] at c; cases c
    simp only [lt]
    have fs : Fi (fun b j => b = h ∧ j = 14) σ (jh_setI σ h 14 (nI 1)) := Fi_s (Fi_r _ _) ⟨rfl, rfl⟩
    have e14 : (jh_setI σ h 14 (nI 1)).2.1 h 14 = nI 1 := rI_eq
    have fo : Fg (PHo h) σ (jh_setI σ h 14 (nI 1)) := Fi_g (Fi_m fs (fun b j h => by unfold PHo; omega))
    have ls := Fi_ly fs q.1
    generalize jh_setI σ h 14 (nI 1) = s1 at fs e14 fo ls
    refine c_adv (cRd_h hh fo ls q) ok (fun s2 q2 f2 => ?_)
    have F2 : Fg (PHr h) σ s2 := Fg_t (Fg_oh fo) (Fg_7h f2)
    have E2 : ∀ b j, h ≤ b → b < h + 11 → ¬ (b = h ∧ j = 14) → s2.2.1 b j = σ.2.1 b j := fun b j u v w => (f2.2.1 b j (by unfold PT7; omega)).trans (fs.2.2 b j w)
    have w2 : cLw [] (h + 8) s2 := by
      have := z.2.2.2.2.2.2.2.2
      rw [eL] at this
      exact ⟨(E2 _ _ (by omega) (by omega) (by omega)).trans this.1, fun i p e => by cases e⟩
    have hp := alR_ok (B := 0) hn (okF_le (by omega) (prt_ok ok hn 5 (by omega))) (k + 1) [] hk
    refine WM_I (c_law hla hn hn1 ok s2 (k + 1) [] q2 hk (Nat.zero_le _) w2) (fun y s4 v => ?_)
    obtain ⟨l4, f4, v⟩ := v
    refine ⟨l4, ?_⟩
    have F4 : Fg (PHr h) σ s4 := Fg_t F2 (Fg_m f4 (fun b j u => by unfold PLr at u; unfold PHr; omega))
    have E4 : ∀ b j, h ≤ b → b < h + 8 → ¬ (b = h ∧ j = 14) → s4.2.1 b j = σ.2.1 b j := fun b j u v w => (f4.2.1 b j (by unfold PLr; omega)).trans (E2 b j u (by omega) w)
    cases e : alR ts (prt ts 5) (k + 1) [] with
    | inl x =>
      rw [e] at v
      rw [v.1, if_pos (by decide)]
      refine ⟨l4, Or.inl rfl, F4, rfl, l4, v.2.2.1, ⟨Hn (qH Q), WQ_8 hQ, (E4 _ _ (by omega) (by omega) (by omega)).trans z.2.1.1⟩, v.2.2.2⟩
    | inr p =>
      rw [e] at v hp
      have hl := okR_l hp (Nat.zero_le _)
      obtain ⟨z1, z2, ys, z3, z4, z5⟩ := hp
      rw [v.1, if_neg (by decide)]
      have zz : cHr (lwQ Q p.2) h s4 := by
        obtain ⟨z0, ⟨a1, a2, a3, a4, a5, a6⟩, b1, b2, b3, b4, b5, b6, b7⟩ := z
        refine ⟨(E4 _ _ (by omega) (by omega) (by omega)).trans z0, ⟨(E4 _ _ (by omega) (by omega) (by omega)).trans a1, (E4 _ _ (by omega) (by omega) (by omega)).trans a2, (E4 _ _ (by omega) (by omega) (by omega)).trans a3, (E4 _ _ (by omega) (by omega) (by omega)).trans a4, (E4 _ _ (by omega) (by omega) (by omega)).trans a5, ?_⟩, fun k hk => ?_, fun k hk => (E4 _ _ (by omega) (by omega) (by omega)).trans (b2 k hk), fun k hk => (E4 _ _ (by omega) (by omega) (by omega)).trans (b3 k hk), fun k hk => (E4 _ _ (by omega) (by omega) (by omega)).trans (b4 k hk), fun k hk => (E4 _ _ (by omega) (by omega) (by omega)).trans (b5 k hk), fun k hk => (E4 _ _ (by omega) (by omega) (by omega)).trans (b6 k hk), v.2.2⟩
        · rw [f4.2.1 _ _ (by unfold PLr; omega), f2.2.1 _ _ (by unfold PT7; omega), e14]; rfl
        · rw [f4.2.2.1 _ _ (by unfold PLr; omega), f2.2.2.1 _ _ (by unfold PT7; omega), fs.2.1]; exact b1 k hk
      exact c_smi v.2.1 ok hh (WQ_lw hQ (by omega) (by rw [z3]; exact z5 0 (by omega))) zz (fun y t l f hy cc => ⟨l, by
        have kh : KH ts h σ (smi ts (.inr (p.1, lwQ Q p.2))) y t := ⟨l, hy, Fg_t F4 (Fg_8h f), cc⟩
        by_cases y0 : y = 0
        · rw [if_pos y0]; rw [y0] at kh; exact kh
        · rw [if_neg y0]
          rcases hy with hy | hy
          · exact absurd hy y0
          · rw [hy] at kh; exact kh⟩)
end CC2

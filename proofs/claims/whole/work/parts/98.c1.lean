/-! ===== the class reads a cellar ===== -/
section CC
variable {s t σ : JH} {ts : List Nat} {n k h : Nat} {Q : Qs} {mm : Nat → Nat}
/-- the house as far as it is read; its minds are mm, its new ones aside -/
def cHx (Q : Qs) (mm : Nat → Nat) (h : Nat) (σ : JH) : Prop :=
  (σ.2.1 h 8 = nI (Hn (qH Q)) ∧ σ.2.1 h 10 = nI (msk (ctb (qH Q)) 8) ∧ σ.2.1 h 11 = nI (msk (qR Q) 8) ∧ σ.2.1 h 12 = nI (Ho (qH Q)) ∧ σ.2.1 h 13 = bI (qO Q) ∧ σ.2.1 h 14 = bI (qL Q).isSome) ∧
  (∀ k, k < Hn (qH Q) → σ.2.2.1 (h + 1) k = lN (wrd 27 (qN Q k))) ∧ (∀ k, k < Hn (qH Q) → σ.2.1 (h + 2) k = nI (Hk (qH Q) k)) ∧ (∀ k, k < Hn (qH Q) → σ.2.1 (h + 3) k = nI (Hp (qH Q) k)) ∧ (∀ k, k < 8 → σ.2.1 (h + 4) k = nI (mm k)) ∧ (∀ k, k < 8 → σ.2.1 (h + 5) k = nI (msk (Hb (qH Q) k) 8)) ∧ (∀ k, k < 8 → σ.2.1 (h + 6) k = nI (msk (Hx (qH Q) k) 8)) ∧ cLw ((qL Q).getD []) (h + 8) σ
def cHr (Q : Qs) (h : Nat) (σ : JH) : Prop := σ.2.1 h 9 = nI (msk (Hw (qH Q)) 8) ∧ cHx Q (Hm (qH Q)) h σ
def PHo (h b _j : Nat) : Prop := h ≤ b ∧ b < h + 11
def PHr (h b j : Nat) : Prop := (b = 65 ∧ 2 ≤ j) ∨ (h ≤ b ∧ b < h + 11)
def cHf (h e : Nat) (s : JH) : Prop := Ly s ∧ s.2.1 65 8 = nI e ∧ (∃ m, m ≤ 8 ∧ s.2.1 h 8 = nI m) ∧ ∃ c, c ≤ 1000 ∧ s.2.1 (h + 8) 2 = nI c
def CH (ts : List Nat) (h : Nat) (r : PQ) (y : Int32) (s : JH) : Prop := match r with
  | .inl e => y = nI 0 ∧ cHf h e s
  | .inr q => y = nI 1 ∧ cRd ts q.1 s ∧ cHr q.2 h s
theorem cHx_g {P : Nat → Nat → Prop} (f : Fg P s t) (hP : ∀ b j, h ≤ b → b < h + 11 → ¬ P b j) (z : cHx Q mm h s) : cHx Q mm h t := by
  obtain ⟨⟨a1, a2, a3, a4, a5, a6⟩, b1, b2, b3, b4, b5, b6, b7, b8⟩ := z
  have e : ∀ b j, h ≤ b → b < h + 11 → t.2.1 b j = s.2.1 b j := fun b j h1 h2 => f.2.1 b j (hP b j h1 h2)
  exact ⟨⟨(e _ _ (by omega) (by omega)).trans a1, (e _ _ (by omega) (by omega)).trans a2, (e _ _ (by omega) (by omega)).trans a3, (e _ _ (by omega) (by omega)).trans a4, (e _ _ (by omega) (by omega)).trans a5, (e _ _ (by omega) (by omega)).trans a6⟩, fun k hk => (f.2.2.1 _ _ (hP _ _ (by omega) (by omega))).trans (b1 k hk), fun k hk => (e _ _ (by omega) (by omega)).trans (b2 k hk), fun k hk => (e _ _ (by omega) (by omega)).trans (b3 k hk), fun k hk => (e _ _ (by omega) (by omega)).trans (b4 k hk), fun k hk => (e _ _ (by omega) (by omega)).trans (b5 k hk), fun k hk => (e _ _ (by omega) (by omega)).trans (b6 k hk), (e _ _ (by omega) (by omega)).trans b7, fun i q hq => (e _ _ (by omega) (by omega)).trans (b8 i q hq)⟩
theorem cHr_g {P : Nat → Nat → Prop} (f : Fg P s t) (hP : ∀ b j, h ≤ b → b < h + 11 → ¬ P b j) (z : cHr Q h s) : cHr Q h t := ⟨(f.2.1 _ _ (hP _ _ (by omega) (by omega))).trans z.1, cHx_g f hP z.2⟩
theorem cHr_8 (hh : IsHo h) (f : Fg PT8 s t) (z : cHr Q h s) : cHr Q h t := by
  have := ho_lt hh
  exact cHr_g f (fun b j h1 h2 => by unfold PT8; omega) z
theorem cHx_8 (hh : IsHo h) (f : Fg PT8 s t) (z : cHx Q mm h s) : cHx Q mm h t := by
  have := ho_lt hh
  exact cHx_g f (fun b j h1 h2 => by unfold PT8; omega) z
theorem PHo_r {b j : Nat} (q : PHo h b j) : PHr h b j := Or.inr q
theorem PT8_h {b j : Nat} (q : PT8 b j) : PHr h b j := Or.inl q
theorem cRd_h (hh : IsHo h) (f : Fg (PHo h) s t) (hl : Ly t) (q : cRd ts k s) : cRd ts k t := by
  have := ho_lt hh
  exact cRd_g f hl (fun b j h => by unfold PHo; omega) q
theorem WQ_8 (hQ : WQ Q) : Hn (qH Q) ≤ 8 := hQ.1.1
theorem qL_len (hQ : WQ Q) : ((qL Q).getD []).length ≤ 1000 := by
  cases e : qL Q with
  | none => exact Nat.zero_le _
  | some M => exact (hQ.2.2.2.2.2.2.2.2.2 M e).1
theorem cHx_w (hQ : WQ Q) (z : cHx Q mm h s) : (∃ m, m ≤ 8 ∧ s.2.1 h 8 = nI m) ∧ ∃ c, c ≤ 1000 ∧ s.2.1 (h + 8) 2 = nI c := ⟨⟨_, WQ_8 hQ, z.1.1⟩, ⟨_, qL_len hQ, z.2.2.2.2.2.2.2.1⟩⟩
theorem cHf_i {e : Nat} (hh : IsHo h) (hQ : WQ Q) (z : cHx Q mm h σ) (l : Ly s) (f : Fg PT8 σ s) (h8 : s.2.1 65 8 = nI e) : cHf h e s := ⟨l, h8, cHx_w hQ (cHx_8 hh f z)⟩
theorem msk_pad {f : Nat → Bool} {n m : Nat} (hm : n ≤ m) (h : ∀ k, n ≤ k → f k = false) : msk f m = msk f n := by
  refine Nat.eq_of_testBit_eq (fun i => ?_)
  rw [msk_tb, msk_tb]
  by_cases c : i < n
  · rw [decide_eq_true c, decide_eq_true (by omega)]
  · rw [h i (by omega), Bool.and_false, Bool.and_false]
theorem c_ppl (hl : Ly σ) (hh : IsHo h) (hQ : WQ Q) (h8 : σ.2.1 h 8 = nI (Hn (qH Q))) (h9 : σ.2.1 h 9 = nI (msk (Hw (qH Q)) 8)) : q_Ho_peopleBits [.ref h] σ = some (some (.int (nI (msk (fun k => !Hw (qH Q) k) (Hn (qH Q))))), σ) := by
  have n8 := WQ_8 hQ
  refine WE_o (w_Ho_peopleBits h hl hh ?_)
  have e : q_Ho_allBits [.ref h] σ = some (some (.int (nI (msk (fun _ => true) (Hn (qH Q))))), σ) := by
    refine WE_o (w_Ho_allBits h hl hh ?_)
    rw [h8, all_bits _ (by omega), msk_true]
  refine WE_i e ?_
  rw [h9, msk_pad n8 (fun k hk => (hQ.2.2.2.2.1 k hk).1), bk_sub]
  exact congrArg nI (msk_ext (fun k hk => by rw [Bool.true_and]))
theorem fnd_mono {nm : Nat → List Nat} {l : List Nat} {m p : Nat} (e : fnd nm l m = some p) : ∀ d, fnd nm l (m + d) = some p := by
  intro d
  induction d with
  | zero => exact e
  | succ d ih =>
    show fnd nm l (m + d + 1) = some p
    unfold fnd
    rw [ih]
def fnI (o : Option Nat) : Int32 := match o with
  | some p => nI p
  | none => mI 1
theorem c_named {nm : Nat → List Nat} {m : Nat} {l : List Nat} (hl : Ly σ) (hh : IsHo h) (m8 : m ≤ 8) (h8 : σ.2.1 h 8 = nI m) (hnm : ∀ k, k < m → σ.2.2.1 (h + 1) k = lN (wrd 27 (nm k))) (hok : ∀ k, k < m → okN (nm k)) (hl1 : okL l) (hl2 : l.length ≤ 8) : q_Ho_named [.ref h, .long (lN (wrd 27 l))] σ = some (some (.int (fnI (fnd nm l m))), σ) := by
  refine WE_o (w_Ho_named h _ hl hh ?_)
  rw [h8]
  refine Lp1_inv (I := fun r v => ∃ i, i ≤ m ∧ r = m - i ∧ v = nI i ∧ fnd nm l i = none) ?_ (m := m) ⟨0, Nat.zero_le _, rfl, rfl, rfl⟩
  rintro r v ⟨i, hi, rfl, rfl, hf⟩ X hX
  by_cases c : m ≤ i
  · rw [if_pos (by rw [nI_leN (by omega) (by omega)]; exact c), show m = i by omega, hf]; rfl
  · rw [if_neg (by rw [nI_leN (by omega) (by omega)]; exact c)]
    refine ⟨by rw [inb_nI (by omega) (by omega)]; omega, ?_⟩
    have hi' : i < m := by omega
    rw [cl_nI (by omega), hnm i hi']
    have hs : fnd nm l (i + 1) = if nm i = l then some i else none := by
      show (match fnd nm l i with
        | some k => some k
        | none => if nm i = l then some i else none) = _
      rw [hf]
    by_cases d : nm i = l
    · rw [if_pos (by rw [lg_cmp_eq, d])]
      rw [if_pos d] at hs
      have := fnd_mono hs (m - (i + 1))
      rw [show i + 1 + (m - (i + 1)) = m by omega] at this
      rw [this]; rfl
    · rw [if_neg (by rw [lg_cmp_eq, wrd_eq27 (hok i hi').2.2 hl1 (hok i hi').2.1 hl2]; exact d), nI_add]
      rw [if_neg d] at hs
      exact hX (m - (i + 1)) _ (by omega) ⟨i + 1, by omega, rfl, rfl, hs⟩
theorem fnI_m1 {nm : Nat → List Nat} {l : List Nat} {m : Nat} (m8 : m ≤ 8) : (fnI (fnd nm l m) = mI 1) = (fnd nm l m = none) := by
  cases e : fnd nm l m with
  | none => rw [eq_iff_iff]; exact ⟨fun _ => rfl, fun _ => rfl⟩
  | some p =>
    have := (fnd_some e).1
    show (nI p = mI 1) = _
    rw [nI_m1 (by omega), eq_iff_iff]
    exact ⟨fun h => h.elim, fun h => by cases h⟩
theorem c_told {nm : Nat → List Nat} {m : Nat} {F : Nat → Bool} {K : Int32 → JH → Prop} (q : cRd ts k σ) (ok : okTp ts) (hh : IsHo h) (m8 : m ≤ 8) (h8 : σ.2.1 h 8 = nI m) (hnm : ∀ k, k < m → σ.2.2.1 (h + 1) k = lN (wrd 27 (nm k))) (hok : ∀ k, k < m → okN (nm k)) (h1 : ∀ p, tld ts nm m F k = .inr p → K (nI p) σ) (h0 : ∀ e s, tld ts nm m F k = .inl e → Ly s → Fg PT8 σ s → s.2.1 65 8 = nI e → K (mI 1) s) : WM q_Re_toldBody [.ref 67, .ref h, .int (nI (msk F m))] σ (kI K) := by
  refine w_Re_toldBody h _ q.1 hh (WE_i (cRd_n q ok) ?_)
  obtain ⟨k1, k2, -⟩ := (tok_ok ok k).1
  unfold tld at h1 h0
  by_cases c : nam (tok ts k) = false
  · rw [if_pos c] at h1 h0
    rw [c, if_pos (by decide)]
    exact c_flt q (fun s l f e => ⟨l, h0 _ s rfl l f e⟩)
  · rw [if_neg c] at h1 h0
    rw [Bool.not_eq_false] at c
    rw [c, if_neg (by decide), q.2.2.2.1.2.2.2.1]
    refine WE_i (c_named q.1 hh m8 h8 hnm hok k1 k2) ?_
    cases e : fnd nm (Tl (tok ts k)) m with
    | none =>
      rw [e] at h1 h0
      rw [if_pos (show fnI none = mI 1 from rfl)]
      exact c_flt q (fun s l f e => ⟨l, h0 _ s rfl l f e⟩)
    | some p =>
      rw [e] at h1 h0
      have hp := (fnd_some e).1
      show (if nI p = mI 1 then _ else _)
      rw [if_neg (by rw [nI_m1 (by omega)]; exact id)]
      show (if (nI (msk F m) >>> (nI p &&& 31)) &&& nI 1 = 0 then _ else K (nI p) σ)
      rw [bk_get m8 hp]
      by_cases d : F p = true
      · rw [d, if_neg (by decide)]
        exact h1 p (if_pos d)
      · have d' : F p = false := by rw [Bool.not_eq_true] at d; exact d
        rw [d', if_pos (by decide)]
        exact c_flt q (fun s l f e => ⟨l, h0 _ s (if_neg d) l f e⟩)
theorem c_number {lo hi : Nat} {K : Int32 → JH → Prop} (q : cRd ts k σ) (ok : okTp ts) (hlo : lo < 10000) (hhi : hi < 10000) (h1 : ∀ v, nmb ts lo hi k = .inr v → σ.2.1 65 6 = nI v → K (nI 1) σ) (h0 : ∀ e s, nmb ts lo hi k = .inl e → Ly s → Fg PT8 σ s → s.2.1 65 8 = nI e → K (nI 0) s) : WM q_Re_atNumber [.ref 67, .int (nI lo), .int (nI hi)] σ (kI K) := by
  refine w_Re_atNumber _ _ q.1 ?_
  have e6 := q.2.2.2.1.2.2.2.2.1
  have okk := (tok_ok ok k).1
  unfold nmb at h1 h0
  by_cases c : Tk (tok ts k) = 2
  · have hv := okk.2.2.2.2.1 c
    rw [if_pos c] at h1 h0
    have e6 : σ.2.1 65 6 = nI (Tv (tok ts k)) := by rw [e6]; exact if_pos c
    rw [e6, if_neg (by rw [nI_m1 (by omega)]; exact id)]
    by_cases d : Tv (tok ts k) < lo
    · rw [if_pos (by rw [nI_ltN (by omega) (by omega)]; exact d)]
      exact c_flt q (fun s l f e => ⟨l, by rw [if_pos (by decide)]; exact h0 _ s (if_neg (by omega)) l f e⟩)
    · rw [if_neg (by rw [nI_ltN (by omega) (by omega)]; exact d)]
      by_cases g : Tv (tok ts k) ≤ hi
      · rw [if_pos (by rw [nI_leN (by omega) (by omega)]; exact g)]
        exact h1 _ (if_pos (by omega)) e6
      · rw [if_neg (by rw [nI_leN (by omega) (by omega)]; exact g)]
        exact c_flt q (fun s l f e => ⟨l, by rw [if_pos (by decide)]; exact h0 _ s (if_neg (by omega)) l f e⟩)
  · rw [if_neg c] at h1 h0
    rw [e6, if_pos (show nbr (tok ts k) = mI 1 from if_neg c)]
    exact c_flt q (fun s l f e => ⟨l, Or.inl rfl, h0 _ s rfl l f e⟩)
theorem c_untold {K : Int32 → JH → Prop} (q : cRd ts k σ) (ok : okTp ts) (hh : IsHo h) (hQ : WQ Q) (z : cHx Q mm h σ) (h1 : unt ts Q k = 0 → K (nI 1) σ) (h0 : ∀ s, unt ts Q k ≠ 0 → Ly s → Fg PT8 σ s → s.2.1 65 8 = nI (unt ts Q k) → K (nI 0) s) : WM q_Re_atUntoldName [.ref 67, .ref h] σ (kI K) := by
  refine w_Re_atUntoldName h q.1 hh (WE_i (cRd_n q ok) ?_)
  obtain ⟨k1, k2, -⟩ := (tok_ok ok k).1
  unfold unt at h1 h0
  by_cases c : nam (tok ts k) = false
  · rw [if_pos c] at h1 h0
    rw [c, if_pos (by decide)]
    exact c_flt q (fun s l f e => ⟨l, Or.inl rfl, h0 s (by have := flt_pos (T := tok ts k) (f := 1) (by omega); omega) l f e⟩)
  · rw [if_neg c] at h1 h0
    rw [Bool.not_eq_false] at c
    rw [c, if_neg (by decide), q.2.2.2.1.2.2.2.1]
    refine WE_i (c_named q.1 hh (WQ_8 hQ) z.1.1 z.2.1 (fun k hk => (hQ.2.2.2.1 k hk).1) k1 k2) ?_
    cases e : fnd (qN Q) (Tl (tok ts k)) (Hn (qH Q)) with
    | none =>
      rw [e] at h1
      rw [if_pos (show fnI none = mI 1 from rfl)]
      exact h1 (if_neg (by decide))
    | some p =>
      rw [e, if_pos (show (some p).isSome = true from rfl)] at h0
      have hp := (fnd_some e).1
      have := WQ_8 hQ
      show (if nI p = mI 1 then _ else _)
      rw [if_neg (by rw [nI_m1 (by omega)]; exact id)]
      exact c_flt q (fun s l f e => ⟨l, by rw [if_pos (by decide)]; exact h0 s (by have := flt_pos (T := tok ts k) (f := 3) (by omega); omega) l f e⟩)
/-- the line's end -/
theorem c_smi {K : Int32 → JH → Prop} (q : cRd ts k s) (ok : okTp ts) (hh : IsHo h) (hQ : WQ Q) (z : cHr Q h s) (hK : ∀ y t, Ly t → Fg PT8 s t → (y = 0 ∨ y = 1) → CH ts h (smi ts (.inr (k, Q))) y t → K y t) : WM q_Tp_pass [.ref 65, .int (nI 59)] s (kI K) := by
  have e : smi ts (.inr (k, Q)) = if isS 59 (tok ts k) = true then .inr (k + 1, Q) else .inl (flt 1 (tok ts k)) := rfl
  rw [e] at hK
  refine c_pass q ok (by omega) (by omega) (fun c t qt ft => ?_) (fun c t lt' ft et => ?_)
  · rw [if_pos c] at hK
    exact hK _ t qt.1 ft (Or.inr rfl) ⟨rfl, qt, cHr_8 hh ft z⟩
  · rw [c, if_neg (by decide)] at hK
    exact hK _ t lt' ft (Or.inl rfl) ⟨rfl, cHf_i hh hQ z.2 lt' ft et⟩
theorem c_addBody {l : List Nat} {c p : Nat} {w : Bool} {K : JH → Prop} (hl : Ly σ) (hh : IsHo h) (hQ : WQ Q) (n7 : Hn (qH Q) < 8) (hc : c < 4) (z : cHx Q (Hm (qH Q)) h σ) (h9 : σ.2.1 h 9 = nI (msk (up1 (Hw (qH Q)) (Hn (qH Q)) w) 8)) (hK : ∀ s, Ly s → Fg (PHo h) σ s → cHr (addB Q l c w p) h s → K s) : WM q_Ho_addBody [.ref h, .long (lN (wrd 27 l)), .int (nI c), .int (nI p)] σ (kV K) := by
  obtain ⟨⟨a1, a2, a3, a4, a5, a6⟩, b1, b2, b3, b4, b5, b6, b7, b8⟩ := z
  have hin : inb (nI (Hn (qH Q))) 8 := by rw [inb_nI (by omega) (by omega)]; exact n7
  refine w_Ho_addBody h _ _ _ hl hh ?_
  simp only [lt]
  have e8 : ∀ x y, (jh_setI (jh_setJ σ (h + 1) x y) (h + 2) x (nI c)).2.1 h 8 = nI (Hn (qH Q)) := fun x y => (rI_ne (by omega)).trans a1
  have f8 : (jh_setJ σ (h + 1) (Hn (qH Q)) (lN (wrd 27 l))).2.1 h 8 = nI (Hn (qH Q)) := a1
  rw [if_neg (by rw [a1, nI_leN (by omega) (by omega)]; omega), a1, cl_nI (by omega), f8, cl_nI (by omega), e8, cl_nI (by omega)]
  refine ⟨hin, hin, hin, ?_⟩
  have g1 : Fg (PHo h) σ (jh_setI (jh_setI (jh_setJ σ (h + 1) (Hn (qH Q)) (lN (wrd 27 l))) (h + 2) (Hn (qH Q)) (nI c)) (h + 3) (Hn (qH Q)) (nI p)) := Fg_sI (Fg_sI (Fg_sJ (Fg_r _ _) (by unfold PHo; omega)) (by unfold PHo; omega)) (by unfold PHo; omega)
  have g2 : ∀ b j, ¬ (b = h + 2 ∧ j = Hn (qH Q)) → ¬ (b = h + 3 ∧ j = Hn (qH Q)) → (jh_setI (jh_setI (jh_setJ σ (h + 1) (Hn (qH Q)) (lN (wrd 27 l))) (h + 2) (Hn (qH Q)) (nI c)) (h + 3) (Hn (qH Q)) (nI p)).2.1 b j = σ.2.1 b j := fun b j u v => (rI_ne (by omega)).trans (rI_ne (by omega))
  have g3 : (jh_setI (jh_setI (jh_setJ σ (h + 1) (Hn (qH Q)) (lN (wrd 27 l))) (h + 2) (Hn (qH Q)) (nI c)) (h + 3) (Hn (qH Q)) (nI p)).2.1 (h + 2) (Hn (qH Q)) = nI c := (rI_ne (by omega)).trans rI_eq
  have g4 : (jh_setI (jh_setI (jh_setJ σ (h + 1) (Hn (qH Q)) (lN (wrd 27 l))) (h + 2) (Hn (qH Q)) (nI c)) (h + 3) (Hn (qH Q)) (nI p)).2.1 (h + 3) (Hn (qH Q)) = nI p := rI_eq
  have g5 : ∀ b j, ¬ (b = h + 1 ∧ j = Hn (qH Q)) → (jh_setI (jh_setI (jh_setJ σ (h + 1) (Hn (qH Q)) (lN (wrd 27 l))) (h + 2) (Hn (qH Q)) (nI c)) (h + 3) (Hn (qH Q)) (nI p)).2.2.1 b j = σ.2.2.1 b j := fun b j u => rJ_ne (by omega)
  have g6 : (jh_setI (jh_setI (jh_setJ σ (h + 1) (Hn (qH Q)) (lN (wrd 27 l))) (h + 2) (Hn (qH Q)) (nI c)) (h + 3) (Hn (qH Q)) (nI p)).2.2.1 (h + 1) (Hn (qH Q)) = lN (wrd 27 l) := rJ_eq
  have gl : Ly (jh_setI (jh_setI (jh_setJ σ (h + 1) (Hn (qH Q)) (lN (wrd 27 l))) (h + 2) (Hn (qH Q)) (nI c)) (h + 3) (Hn (qH Q)) (nI p)) := ly_setI (ly_setI (ly_setJ hl))
  generalize jh_setI (jh_setI (jh_setJ σ (h + 1) (Hn (qH Q)) (lN (wrd 27 l))) (h + 2) (Hn (qH Q)) (nI c)) (h + 3) (Hn (qH Q)) (nI p) = s3 at g1 g2 g3 g4 g5 g6 gl ⊢
  have hk0 := (hQ.2.2.2.2.1 (Hn (qH Q)) (Nat.le_refl _)).2.1
  have fin : ∀ x, x = nI (msk (ctb (qH (addB Q l c w p))) 8) → K (jh_setI (jh_setI s3 h 10 x) h 8 (nI (Hn (qH Q) + 1))) := by
    intro x hx
    have ft : Fi (fun b j => b = h ∧ (j = 8 ∨ j = 10)) s3 (jh_setI (jh_setI s3 h 10 x) h 8 (nI (Hn (qH Q) + 1))) := Fi_s (Fi_s (Fi_r _ _) (by omega)) (by omega)
    have t8 : (jh_setI (jh_setI s3 h 10 x) h 8 (nI (Hn (qH Q) + 1))).2.1 h 8 = nI (Hn (qH Q) + 1) := rI_eq
    have t10 : (jh_setI (jh_setI s3 h 10 x) h 8 (nI (Hn (qH Q) + 1))).2.1 h 10 = x := (rI_ne (by omega)).trans rI_eq
    generalize jh_setI (jh_setI s3 h 10 x) h 8 (nI (Hn (qH Q) + 1)) = u at ft t8 t10
    have eu : ∀ b j, ¬ (b = h ∧ (j = 8 ∨ j = 10)) → ¬ (b = h + 2 ∧ j = Hn (qH Q)) → ¬ (b = h + 3 ∧ j = Hn (qH Q)) → u.2.1 b j = σ.2.1 b j := fun b j u1 u2 u3 => (ft.2.2 b j u1).trans (g2 b j u2 u3)
    refine hK u (Fi_ly ft gl) (Fg_t g1 (Fi_g (Fi_m ft (fun b j q => by unfold PHo; omega)))) ⟨(eu _ _ (by omega) (by omega) (by omega)).trans h9, ⟨t8, by rw [t10, hx], (eu _ _ (by omega) (by omega) (by omega)).trans a3, (eu _ _ (by omega) (by omega) (by omega)).trans a4, (eu _ _ (by omega) (by omega) (by omega)).trans a5, (eu _ _ (by omega) (by omega) (by omega)).trans a6⟩, fun k hk => ?_, fun k hk => ?_, fun k hk => ?_, fun k hk => (eu _ _ (by omega) (by omega) (by omega)).trans (b4 k hk), fun k hk => (eu _ _ (by omega) (by omega) (by omega)).trans (b5 k hk), fun k hk => (eu _ _ (by omega) (by omega) (by omega)).trans (b6 k hk), (eu _ _ (by omega) (by omega) (by omega)).trans b7, fun i q e => (eu _ _ (by omega) (by omega) (by omega)).trans (b8 i q e)⟩
    · have hk : k < Hn (qH Q) + 1 := hk
      show u.2.2.1 (h + 1) k = lN (wrd 27 (up1 (qN Q) (Hn (qH Q)) l k))
      rw [ft.2.1]
      by_cases d : k = Hn (qH Q)
      · rw [d, up1_eq, g6]
      · rw [up1_ne d, g5 _ _ (by omega)]; exact b1 k (by omega)
    · have hk : k < Hn (qH Q) + 1 := hk
      show u.2.1 (h + 2) k = nI (up1 (Hk (qH Q)) (Hn (qH Q)) c k)
      rw [ft.2.2 _ _ (by omega)]
      by_cases d : k = Hn (qH Q)
      · rw [d, up1_eq, g3]
      · rw [up1_ne d, g2 _ _ (by omega) (by omega)]; exact b2 k (by omega)
    · have hk : k < Hn (qH Q) + 1 := hk
      show u.2.1 (h + 3) k = nI (up1 (Hp (qH Q)) (Hn (qH Q)) p k)
      rw [ft.2.2 _ _ (by omega)]
      by_cases d : k = Hn (qH Q)
      · rw [d, up1_eq, g4]
      · rw [up1_ne d, g2 _ _ (by omega) (by omega)]; exact b3 k (by omega)
  have q8 : s3.2.1 h 8 = nI (Hn (qH Q)) := (g2 _ _ (by omega) (by omega)).trans a1
  have q10 : s3.2.1 h 10 = nI (msk (ctb (qH Q)) 8) := (g2 _ _ (by omega) (by omega)).trans a2
  have ee : ∀ x, (jh_setI s3 h 10 x).2.1 h 8 + nI 1 = nI (Hn (qH Q) + 1) := fun x => by rw [rI_ne (by omega), q8, nI_add]
  rw [ee, ee]
  by_cases d : c = 3
  · rw [if_pos (by rw [d])]
    refine fin _ ?_
    rw [q8, q10, bk_set (by omega) n7]
    refine congrArg nI (msk_ext (fun i hi => ?_))
    show up1 (ctb (qH Q)) (Hn (qH Q)) true i = decide (up1 (Hk (qH Q)) (Hn (qH Q)) c i = 3)
    by_cases g : i = Hn (qH Q)
    · rw [g, up1_eq, up1_eq, d]; rfl
    · rw [up1_ne g, up1_ne g]; rfl
  · rw [if_neg (by rw [nI_eqN (by omega) (by omega)]; exact d)]
    refine fin _ ?_
    rw [q10, show nI 0 = 0 from rfl, Int32.or_zero]
    refine congrArg nI (msk_ext (fun i hi => ?_))
    show ctb (qH Q) i = decide (up1 (Hk (qH Q)) (Hn (qH Q)) c i = 3)
    by_cases g : i = Hn (qH Q)
    · rw [g, up1_eq, decide_eq_false d]
      unfold ctb
      rw [hk0]; rfl
    · rw [up1_ne g]; rfl
end CC

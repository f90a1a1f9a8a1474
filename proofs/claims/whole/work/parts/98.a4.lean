section CP
variable {s t σ : JH} {ts : List Nat} {n k la B : Nat} {a : Lws} {x : Int32} {P : Nat → Lws → PR} {T : Tok}
def swl : List (Nat × Nat) := [(1, 0), (2, 1), (3, 3), (4, 4), (5, 5), (6, 6), (7, 7), (8, 11), (9, 12), (10, 13), (11, 14), (12, 8), (13, 9), (14, 10), (15, 18), (16, 19), (17, 20)]
theorem swl_ok : ∀ p ∈ swl, p.2 < 21 ∧ p.1 < 100 ∧ ∀ w, w < 22 → ((swm[w]?).getD 0 = p.1 ↔ w = p.2) ∧ (swm[w]?).getD 0 < 100 := by decide
theorem swx_is {v j : Nat} (h : (v, j) ∈ swl) : (nI (swx T) = nI v) = (isW j T = true) := by
  obtain ⟨h1, h2, h3⟩ := swl_ok _ h
  obtain ⟨h4, h5⟩ := h3 (wo T) wo_lt
  have e1 : swx T = (swm[wo T]?).getD 0 := rfl
  have h2 : v < 100 := h2
  have h1 : j < 21 := h1
  rw [nI_eqN (by omega) (by omega), e1, ← wo_is h1, eq_iff_iff]
  exact h4
theorem isW_ne {i j : Nat} (h : isW i T = true) (hij : i ≠ j) : isW j T = false := by
  unfold isW at h ⊢
  simp at h
  simp [h.1, h.2, hij]
theorem isW_is (i : Nat) : (isW i T = true) = (Tk T = 1 ∧ wix (Tl T) = i) := by
  unfold isW
  rw [eq_iff_iff]
  simp
def vlI (T : Tok) : Int32 := match vlu T with
  | some v => enc v
  | none => mI 4
theorem vlI_ok {v : Nat × Int32} (ok : okK T) (h : vlu T = some v) : ¬ enc v = mI 4 := by
  unfold vlu at h
  by_cases c : Tk T = 2
  · rw [if_pos c] at h
    cases h
    have := ok.2.2.2.2.1 c
    intro q
    have q : nI (Tv T) = mI 4 := q
    have : nI (Tv T) < 0 := by rw [q]; decide
    rw [nI_lt0 (by omega)] at this
    exact this
  · rw [if_neg c] at h
    by_cases d : Tk T = 1 ∧ 18 ≤ wix (Tl T) ∧ wix (Tl T) < 21
    · rw [if_pos d] at h
      cases h
      have : ∀ i, i < 3 → ¬ enc (2, nI i) = mI 4 := by decide
      exact this _ (by omega)
    · rw [if_neg d] at h; cases h
theorem c_valueHere (q : cRd ts k σ) (ok : okTp ts) : q_Lr_valueHere [.ref 68] σ = some (some (.int (vlI (tok ts k))), σ) := by
  refine WE_o (w_Lr_valueHere q.1 ?_)
  have e6 := q.2.2.2.1.2.2.2.2.1
  obtain ⟨o1, o2, o3⟩ := c_swx q
  rw [e6]
  have okk := (tok_ok ok k).1
  generalize tok ts k = T at *
  unfold vlI vlu nbr
  by_cases c : Tk T = 2
  · have := okk.2.2.2.2.1 c
    rw [if_pos c, if_pos c, if_neg (by rw [nI_m1 (by omega)]; exact id)]
    rfl
  · rw [if_neg c, if_neg c, if_pos rfl]
    refine WE_i o1 ⟨o2, ?_⟩
    rw [o3]
    by_cases c1 : isW 18 T = true
    · rw [if_pos (by rw [swx_is (j := 18) (by decide)]; exact c1)]
      rw [isW_is] at c1
      rw [if_pos (by omega), c1.2]
      decide
    · rw [if_neg (by rw [swx_is (j := 18) (by decide)]; exact c1)]
      by_cases c2 : isW 19 T = true
      · rw [if_pos (by rw [swx_is (j := 19) (by decide)]; exact c2)]
        rw [isW_is] at c2
        rw [if_pos (by omega), c2.2]
        decide
      · rw [if_neg (by rw [swx_is (j := 19) (by decide)]; exact c2)]
        by_cases c3 : isW 20 T = true
        · rw [if_pos (by rw [swx_is (j := 20) (by decide)]; exact c3)]
          rw [isW_is] at c3
          rw [if_pos (by omega), c3.2]
          decide
        · rw [if_neg (by rw [swx_is (j := 20) (by decide)]; exact c3)]
          rw [isW_is] at c1 c2 c3
          rw [if_neg (by omega)]
theorem isWS {i d : Nat} (h : isW i T = true) : isS d T = false := by
  rw [isW_is] at h
  unfold isS
  rw [decide_eq_false (by omega)]
  rfl
/-- a fault while a law is read -/
theorem c_lf {f : Nat} {r : PR} (hla : IsLa la) (q : cRd ts k σ) (ha : a.length ≤ 1000) (hw : cLw a la σ) (hr : r = .inl (flt f (tok ts k))) : WM q_Tp_faulty [.ref 65, .int (nI f)] σ (kI fun y s => Ly s ∧ (y = 0 ∨ y = 1) ∧ Ly s ∧ Fg (PLr la) σ s ∧ CR ts la r y s) := by
  subst hr
  exact c_flt q (fun s l g e => ⟨l, Or.inl rfl, l, Fg_m g (fun b j => PT8_r), rfl, l, e, cLw_c ha (cLw_8 hla g hw)⟩)
theorem c_part0 (Ψ : Nat → JF) (hla : IsLa la) (hn1 : n ≤ 1000) (ok : okTp ts) : CLs ts n la (jf_of (qp_Lr_part Ψ) 7) (nI 5) (prt ts 0) := by
  intro σ k a q hk ha hw
  refine w_Lr_part Ψ la _ q.1 hla ?_
  have hv := c_valueHere q ok
  unfold prt
  by_cases c1 : isW 15 (tok ts k) = true
  · rw [if_pos (by rw [cRd_w q (by omega)]; exact c1), if_neg (by rw [cRd_sg q ok (by omega) (by omega), isWS c1]; decide), if_pos (Or.inl c1)]
    refine WE_i hv ?_
    rw [if_neg (by decide)]
    exact c_lf hla q (by omega) hw rfl
  · rw [if_neg (by rw [cRd_w q (by omega)]; exact c1)]
    by_cases c2 : isS 40 (tok ts k) = true
    · rw [if_pos (by rw [cRd_sg q ok (by omega) (by omega)]; exact c2), if_pos (Or.inr (Or.inl c2))]
      refine WE_i hv ?_
      rw [if_neg (by decide)]
      exact c_lf hla q (by omega) hw rfl
    · rw [if_neg (by rw [cRd_sg q ok (by omega) (by omega)]; exact c2)]
      refine WE_i hv ?_
      unfold vlI
      cases e : vlu (tok ts k) with
      | none =>
        rw [if_pos rfl, if_neg (by rintro (h | h | h); exact c1 h; exact c2 h; cases h)]
        exact c_lf hla q (by omega) hw rfl
      | some v =>
        rw [if_neg (vlI_ok (tok_ok ok k).1 e), if_neg (by decide)]
        exact c_lf hla q (by omega) hw (if_pos (Or.inr (Or.inr rfl)))
theorem c_partS (Ψ : Nat → JF) {r : Nat} (hr : r + 1 ≤ 5) (hla : IsLa la) (hn : Tk (tok ts n) = 0) (hn1 : n ≤ 1000) (ok : okTp ts) (hP : CLs ts n la (Ψ 0) (nI (5 - r)) (prt ts r)) (hA : CLs ts n la (Ψ 4) (nI (5 - r)) (alR ts (prt ts r))) : CLs ts n la (jf_of (qp_Lr_part Ψ) 7) (nI (5 - (r + 1))) (prt ts (r + 1)) := by
  intro σ k a q hk ha hw
  refine w_Lr_part Ψ la _ q.1 hla ?_
  have hv := c_valueHere q ok
  have okP := prt_ok ok hn r (by omega)
  have okA : okF n 0 (alR ts (prt ts r)) := alR_ok hn (okF_le (by omega) okP)
  unfold prt
  have e5 : nI (5 - (r + 1)) < nI 5 := by rw [nI_ltN (by omega) (by omega)]; omega
  rw [nI_add, show 5 - (r + 1) + 1 = 5 - r by omega]
  by_cases c1 : isW 15 (tok ts k) = true
  · rw [if_pos (by rw [cRd_w q (by omega)]; exact c1), if_neg (by rw [cRd_sg q ok (by omega) (by omega), isWS c1]; decide), if_pos c1]
    refine WE_i hv ?_
    rw [if_pos e5]
    refine c_lpb (c := 3) hla hn1 ok hP okP q (tk_lt hn hk (isW_k c1)) ha hw rfl (fun y t ft lt' z => ?_)
    cases hq : prt ts r (k + 1) a with
    | inl e => rw [hq] at z; exact ⟨Or.inl z.1, lt', ft, z⟩
    | inr w => rw [hq] at z; exact ⟨Or.inr z.1, lt', ft, z⟩
  · rw [if_neg (by rw [cRd_w q (by omega)]; exact c1), if_neg c1]
    by_cases c2 : isS 40 (tok ts k) = true
    · rw [if_pos (by rw [cRd_sg q ok (by omega) (by omega)]; exact c2), if_pos c2]
      refine WE_i hv ?_
      rw [if_pos e5]
      refine c_adv q ok (fun u qu fu => ?_)
      have fu8 := Fg_m fu (fun b j => PT78)
      have hk1 := tk_lt hn hk (isS_k c2)
      have hp := okA (k + 1) a hk1
      refine WM_I (hA u (k + 1) a qu hk1 (by omega) (cLw_8 hla fu8 hw)) (fun y t z => ?_)
      obtain ⟨lt', ft, z⟩ := z
      have ft' := Fg_t (Fg_m fu8 (fun b j => PT8_r)) ft
      refine ⟨lt', ?_⟩
      cases hq : alR ts (prt ts r) (k + 1) a with
      | inl e =>
        rw [hq] at z
        rw [z.1, if_pos (by decide)]
        exact ⟨lt', ft', rfl, z.2⟩
      | inr w =>
        rw [hq] at z hp
        obtain ⟨z1, q1, w1⟩ := z
        have hl := okR_l hp (by omega)
        rw [z1, if_neg (by decide)]
        refine c_pass q1 ok (by omega) (by omega) (fun h v qv fv => ⟨qv.1, ?_⟩) (fun h v lv fv ev => ⟨lv, ?_⟩)
        · rw [if_neg (by decide)]
          refine ⟨qv.1, Fg_t ft' (Fg_m fv (fun b j => PT8_r)), ?_⟩
          show CR ts la (if isS 41 (tok ts w.1) = true then .inr (w.1 + 1, w.2) else .inl (flt 1 (tok ts w.1))) (nI 1) v
          rw [if_pos h]
          exact ⟨rfl, qv, cLw_8 hla fv w1⟩
        · rw [if_pos (by decide)]
          refine ⟨lv, Fg_t ft' (Fg_m fv (fun b j => PT8_r)), ?_⟩
          show CR ts la (if isS 41 (tok ts w.1) = true then .inr (w.1 + 1, w.2) else .inl (flt 1 (tok ts w.1))) (nI 0) v
          rw [h, if_neg (by decide)]
          exact ⟨rfl, lv, ev, cLw_c (by omega) (cLw_8 hla fv w1)⟩
    · rw [if_neg (by rw [cRd_sg q ok (by omega) (by omega)]; exact c2), if_neg c2]
      refine WE_i hv ?_
      unfold vlI
      cases e : vlu (tok ts k) with
      | none =>
        rw [if_pos rfl]
        exact c_lf hla q (by omega) hw rfl
      | some v =>
        rw [if_neg (vlI_ok (tok_ok ok k).1 e), if_pos e5]
        refine c_adv q ok (fun u qu fu => ?_)
        have fu8 := Fg_m fu (fun b j => PT78)
        have hk1 := tk_lt hn hk (vlu_ok (tok_ok ok k).1 e).1
        exact c_add qu.1 hla rfl (by omega) (cLw_8 hla fu8 hw) (fun t lt' ft wt => ⟨lt', lt', Fg_t (Fg_m fu8 (fun b j => PT8_r)) (Fg_m ft (fun b j => PLa_r)), rfl, cRd_a hla ft lt' qu, wt⟩)
theorem c_chain {L : Nat} (hla : IsLa la) (hn : Tk (tok ts n) = 0) (hn1 : n ≤ 1000) (ok : okTp ts) (hp : ∀ m, L ≤ m → CLs ts n la (g_Lr_part m 0) x P) (okP : okF n 4 P) : ∀ m, L + 4 ≤ m → CLs ts n la (g_Lr_part m 4) x (alR ts P) := by
  intro m hm
  obtain ⟨m, rfl⟩ : ∃ m', m = m' + 4 := ⟨m - 4, by omega⟩
  have h1 : CLs ts n la (g_Lr_part (m + 1) 1) x (prd ts P) := c_product (g_Lr_part m) hla hn hn1 ok (hp m (by omega)) okP
  have h2 : CLs ts n la (g_Lr_part (m + 2) 2) x (sms ts P) := c_sum (g_Lr_part (m + 1)) hla hn hn1 ok h1 (prd_ok (B := 3) hn okP)
  have h3 : CLs ts n la (g_Lr_part (m + 3) 3) x (tst ts P) := c_test (g_Lr_part (m + 2)) hla hn hn1 ok h2 (sms_ok (B := 2) hn okP)
  exact c_tests (g_Lr_part (m + 3)) hla hn hn1 ok h3 (tst_ok (B := 1) hn okP)
theorem c_parts (hla : IsLa la) (hn : Tk (tok ts n) = 0) (hn1 : n ≤ 1000) (ok : okTp ts) : ∀ r, r ≤ 5 → ∀ m, 1 + 5 * r ≤ m → CLs ts n la (g_Lr_part m 0) (nI (5 - r)) (prt ts r) := by
  intro r
  induction r with
  | zero =>
    intro _ m hm
    obtain ⟨m, rfl⟩ : ∃ m', m = m' + 1 := ⟨m - 1, by omega⟩
    exact c_part0 (g_Lr_part m) hla hn1 ok
  | succ r ih =>
    intro hr m hm
    obtain ⟨m, rfl⟩ : ∃ m', m = m' + 1 := ⟨m - 1, by omega⟩
    exact c_partS (g_Lr_part m) hr hla hn hn1 ok (ih (by omega) m (by omega)) (c_chain hla hn hn1 ok (ih (by omega)) (okF_le (by omega) (prt_ok ok hn r (by omega))) m (by omega))
theorem c_law (hla : IsLa la) (hn : Tk (tok ts n) = 0) (hn1 : n ≤ 1000) (ok : okTp ts) : CLs ts n la q_Lr_tests (nI 0) (alR ts (prt ts 5)) := c_chain hla hn hn1 ok (c_parts hla hn hn1 ok 5 (by omega)) (okF_le (by omega) (prt_ok ok hn 5 (by omega))) 40 (by omega)
end CP

/-! ===== the class reads a law ===== -/
section CL
variable {s t σ : JH} {ts : List Nat} {n k la B : Nat} {a : Lws} {x : Int32} {P : Nat → Lws → PR}
def cLw (a : Lws) (la : Nat) (σ : JH) : Prop := σ.2.1 la 2 = nI a.length ∧ ∀ i q, a[i]? = some q → σ.2.1 (la + 1) i = enc q
def PLr (la b j : Nat) : Prop := (b = 65 ∧ 2 ≤ j) ∨ (b = la ∧ j = 2) ∨ b = la + 1
def PLa (la b j : Nat) : Prop := (b = la ∧ j = 2) ∨ b = la + 1
def cFt (la e : Nat) (s : JH) : Prop := Ly s ∧ s.2.1 65 8 = nI e ∧ ∃ c, c ≤ 1000 ∧ s.2.1 la 2 = nI c
def CR (ts : List Nat) (la : Nat) (r : PR) (y : Int32) (s : JH) : Prop := match r with
  | .inl e => y = nI 0 ∧ cFt la e s
  | .inr q => y = nI 1 ∧ cRd ts q.1 s ∧ cLw q.2 la s
def CLs (ts : List Nat) (n la : Nat) (f : JF) (x : Int32) (P : Nat → Lws → PR) : Prop := ∀ σ k a, cRd ts k σ → k ≤ n → a.length ≤ k → cLw a la σ → WM f [.ref 68, .ref la, .int x] σ (kI fun y s => Ly s ∧ Fg (PLr la) σ s ∧ CR ts la (P k a) y s)
theorem app_get {α : Type} {l : List α} {x q : α} {i : Nat} (e : (l ++ [x])[i]? = some q) : (i < l.length ∧ l[i]? = some q) ∨ (i = l.length ∧ q = x) := by
  have hi := (List.getElem?_eq_some_iff.mp e).1
  rw [List.length_append] at hi
  have hi : i < l.length + 1 := hi
  by_cases c : i < l.length
  · rw [List.getElem?_append_left c] at e; exact Or.inl ⟨c, e⟩
  · rw [List.getElem?_append_right (by omega), show i - l.length = 0 by omega] at e
    exact Or.inr ⟨by omega, (Option.some.inj e).symm⟩
theorem c_add {K : JH → Prop} {q : Nat × Int32} {v : Int32} (hl : Ly σ) (hla : IsLa la) (hv : v = enc q) (ha : a.length < 1000) (hw : cLw a la σ) (hK : ∀ s, Ly s → Fg (PLa la) σ s → cLw (a ++ [q]) la s → K s) : WM q_La_add [.ref la, .int v] σ (kV K) := by
  refine w_La_add _ _ hl hla ?_
  rw [if_neg (by rw [hw.1, nI_leN (by omega) (by omega)]; omega)]
  refine ⟨by rw [hw.1, inb_nI (by omega) (by omega)]; exact ha, ?_⟩
  simp only [lt]
  rw [hw.1, cl_nI (by omega), rI_ne (by omega), hw.1, nI_add]
  have f : Fi (PLa la) σ (jh_setI (jh_setI σ (la + 1) a.length v) la 2 (nI (a.length + 1))) := Fi_s (Fi_s (Fi_r _ _) (by unfold PLa; omega)) (by unfold PLa; omega)
  refine hK _ (Fi_ly f hl) (Fi_g f) ⟨?_, fun i p e => ?_⟩
  · rw [rI_eq, List.length_append]; rfl
  · rw [rI_ne (by omega)]
    rcases app_get e with ⟨h1, h2⟩ | ⟨h1, h2⟩
    · rw [rI_ne (by omega)]; exact hw.2 i p h2
    · rw [h1, h2, rI_eq, hv]
theorem c_add_f {K : JH → Prop} {v : Int32} (hl : Ly σ) (hla : IsLa la) (hw : ∃ c, c ≤ 1000 ∧ σ.2.1 la 2 = nI c) (hK : ∀ s, Ly s → Fg (PLa la) σ s → (∃ c, c ≤ 1000 ∧ s.2.1 la 2 = nI c) → K s) : WM q_La_add [.ref la, .int v] σ (kV K) := by
  obtain ⟨c, hc, e⟩ := hw
  refine w_La_add _ _ hl hla ?_
  by_cases h : 1000 ≤ c
  · rw [if_pos (by rw [e, nI_leN (by omega) (by omega)]; exact h)]
    exact hK _ hl (Fg_r _ _) ⟨c, hc, e⟩
  · rw [if_neg (by rw [e, nI_leN (by omega) (by omega)]; exact h)]
    refine ⟨by rw [e, inb_nI (by omega) (by omega)]; omega, ?_⟩
    simp only [lt]
    rw [e, cl_nI (by omega), rI_ne (by omega), e, nI_add]
    have f : Fi (PLa la) σ (jh_setI (jh_setI σ (la + 1) c v) la 2 (nI (c + 1))) := Fi_s (Fi_s (Fi_r _ _) (by unfold PLa; omega)) (by unfold PLa; omega)
    exact hK _ (Fi_ly f hl) (Fi_g f) ⟨c + 1, by omega, rI_eq⟩
theorem PLa_r {b j : Nat} (h : PLa la b j) : PLr la b j := Or.inr h
theorem PT8_r {b j : Nat} (h : PT8 b j) : PLr la b j := Or.inl h
theorem cRd_a (hla : IsLa la) (f : Fg (PLa la) s t) (hl : Ly t) (q : cRd ts k s) : cRd ts k t := by
  have h := la_lt hla
  exact cRd_g f hl (fun b j h => by unfold PLa; omega) q
theorem cLw_8 (hla : IsLa la) (f : Fg PT8 s t) (q : cLw a la s) : cLw a la t := by
  have h := la_lt hla
  exact ⟨(f.2.1 _ _ (by unfold PT8; omega)).trans q.1, fun i p e => (f.2.1 _ _ (by unfold PT8; omega)).trans (q.2 i p e)⟩
theorem cLw_c (ha : a.length ≤ 1000) (q : cLw a la s) : ∃ c, c ≤ 1000 ∧ s.2.1 la 2 = nI c := ⟨_, ha, q.1⟩
def sfx (c : Nat) (r : PR) : PR := match r with
  | .inl e => .inl e
  | .inr q => .inr (q.1, q.2 ++ [(c, nI 0)])
/-- what a reading keeps of lengths -/
theorem okR_l {q : Nat × Lws} (h : okR n B k a (.inr q)) (ha : a.length ≤ k) : q.1 ≤ n ∧ q.2.length ≤ q.1 ∧ k < q.1 ∧ q.2.length + k ≤ a.length + q.1 := by
  obtain ⟨z1, z2, ys, z3, z4, z5⟩ := h
  have : q.2.length = a.length + ys.length := by rw [z3, List.length_append]
  omega
/-- a sub-reading and its step behind it -/
theorem c_suf {F : JF} {c : Nat} {v : Int32} (hla : IsLa la) (hn1 : n ≤ 1000) (hP : CLs ts n la F x P) (okP : okF n B P) (q : cRd ts k s) (hk : k ≤ n) (ha : a.length + 1 ≤ k) (hw : cLw a la s) (hv : v = enc (c, nI 0)) {Y : Int32 → JH → Prop} (hY : ∀ y t, Fg (PLr la) s t → Ly t → CR ts la (sfx c (P k a)) y t → Y y t) : WM F [.ref 68, .ref la, .int x] s (kI fun y s9 => Ly s9 ∧ WM q_La_add [.ref la, .int v] s9 (kV fun s10 => Ly s10 ∧ Y y s10)) := by
  refine WM_I (hP s k a q hk (by omega) hw) (fun y t z => ?_)
  obtain ⟨l, f, z⟩ := z
  refine ⟨l, ?_⟩
  have hp := okP k a hk
  cases hq : P k a with
  | inl e =>
    rw [hq] at z hY
    obtain ⟨z1, z2, z3, z4⟩ := z
    exact c_add_f l hla z4 (fun u lu fu hu => ⟨lu, hY y u (Fg_t f (Fg_m fu (fun b j => PLa_r))) lu ⟨z1, lu, (fu.2.1 65 8 (by have := la_lt hla; unfold PLa; omega)).trans z3, hu⟩⟩)
  | inr r =>
    rw [hq] at z hY hp
    obtain ⟨z1, z2, z3⟩ := z
    have hl := okR_l hp (by omega)
    exact c_add l hla hv (by omega) z3 (fun u lu fu hu => ⟨lu, hY y u (Fg_t f (Fg_m fu (fun b j => PLa_r))) lu ⟨z1, cRd_a hla fu lu z2, hu⟩⟩)
theorem c_lpb {F : JF} {c : Nat} {v : Int32} (hla : IsLa la) (hn1 : n ≤ 1000) (ok : okTp ts) (hP : CLs ts n la F x P) (okP : okF n B P) (q : cRd ts k s) (hk : k + 1 ≤ n) (ha : a.length ≤ k) (hw : cLw a la s) (hv : v = enc (c, nI 0)) {Y : Int32 → JH → Prop} (hY : ∀ y t, Fg (PLr la) s t → Ly t → CR ts la (sfx c (P (k + 1) a)) y t → Y y t) : WM q_Tp_advance [.ref 65] s (kV fun s7 => Ly s7 ∧ WM F [.ref 68, .ref la, .int x] s7 (kI fun y s9 => Ly s9 ∧ WM q_La_add [.ref la, .int v] s9 (kV fun s10 => Ly s10 ∧ Y y s10))) := by
  refine c_adv q ok (fun u qu fu => ?_)
  have fu8 := Fg_m fu (fun b j => PT78)
  exact c_suf hla hn1 hP okP qu hk (by omega) (cLw_8 hla fu8 hw) hv (fun y t f l z => hY y t (Fg_t (Fg_m fu8 (fun b j => PT8_r)) f) l z)
theorem c_product (Ψ : Nat → JF) (hla : IsLa la) (hn : Tk (tok ts n) = 0) (hn1 : n ≤ 1000) (ok : okTp ts) (hP : CLs ts n la (Ψ 0) x P) (okP : okF n B P) : CLs ts n la (jf_of (qp_Lr_product Ψ) 5) x (lpS ts P opT) := by
  intro σ k a q hk ha hw
  refine w_Lr_product Ψ la x q.1 hla ?_
  refine WM_I (hP σ k a q hk ha hw) (fun y s z => ?_)
  obtain ⟨l, f, z⟩ := z
  refine ⟨l, ?_⟩
  have hp := okP k a hk
  refine Lp3_inv (I := fun m v3 v4 s => Ly s ∧ Fg (PLr la) σ s ∧ ((∃ e, v3 = nI 0 ∧ lpS ts P opT k a = .inl e ∧ cFt la e s) ∨ (∃ i k1 a1, v3 = nI 1 ∧ v4 = nI i ∧ i ≤ 1000 ∧ m = 1000 - i ∧ cRd ts k1 s ∧ cLw a1 la s ∧ k1 ≤ n ∧ a1.length ≤ k1 ∧ lpR ts P opT (1000 - i) k1 a1 = lpS ts P opT k a))) ?_ (m := 1000) ⟨l, f, ?_⟩
  · rintro m v3 v4 s ⟨l, f, z⟩ X hX
    refine ⟨l, ?_⟩
    rcases z with ⟨e, rfl, he, z⟩ | ⟨i, k1, a1, rfl, rfl, hi, rfl, q1, w1, hk1, ha1, ht⟩
    · rw [if_pos (by decide)]
      exact ⟨Or.inl rfl, l, f, by rw [he]; exact ⟨rfl, z⟩⟩
    · rw [if_neg (by decide)]
      by_cases ci : 1000 ≤ i
      · rw [if_pos (by rw [nI_leN (by omega) (by omega)]; exact ci)]
        rw [show 1000 - i = 0 by omega] at ht
        exact ⟨Or.inr rfl, l, f, by rw [← ht]; exact ⟨rfl, q1, w1⟩⟩
      · rw [if_neg (by rw [nI_leN (by omega) (by omega)]; exact ci)]
        obtain ⟨g, hg⟩ : ∃ g, 1000 - i = g + 1 := ⟨1000 - i - 1, by omega⟩
        rw [hg] at ht
        have go : ∀ c y t, opT (tok ts k1) = some c → Fg (PLr la) s t → Ly t → CR ts la (sfx c (P (k1 + 1) a1)) y t → X y (nI i + nI 1) t := by
          intro c y t hc ft lt' z
          unfold lpR at ht
          rw [hc] at ht
          have hkk := tk_lt hn hk1 (okO_T _ _ hc).2.2
          have hp1 := okP (k1 + 1) a1 hkk
          rw [nI_add]
          refine hX (1000 - (i + 1)) _ _ _ (by omega) ⟨lt', Fg_t f ft, ?_⟩
          cases hq : P (k1 + 1) a1 with
          | inl e =>
            rw [hq] at z ht
            exact Or.inl ⟨e, z.1, ht.symm, z.2⟩
          | inr r =>
            rw [hq] at z ht hp1
            have hl := okR_l hp1 (by omega)
            exact Or.inr ⟨i + 1, r.1, _, z.1, rfl, by omega, rfl, z.2.1, z.2.2, hl.1, by rw [List.length_append]; show r.2.length + 1 ≤ r.1; omega, by rw [show 1000 - (i + 1) = g by omega]; exact ht⟩
        have stop : opT (tok ts k1) = none → (nI 1 = (0 : Int32) ∨ nI 1 = 1) ∧ (Ly s ∧ Fg (PLr la) σ s ∧ CR ts la (lpS ts P opT k a) (nI 1) s) := by
          intro hc
          unfold lpR at ht
          rw [hc] at ht
          exact ⟨Or.inr rfl, l, f, by rw [← ht]; exact ⟨rfl, q1, w1⟩⟩
        by_cases c1 : isS 42 (tok ts k1) = true
        · rw [if_pos (by rw [cRd_sg q1 ok (by omega) (by omega)]; exact c1)]
          exact c_lpb (c := 6) hla hn1 ok hP okP q1 (tk_lt hn hk1 (isS_k c1)) ha1 w1 rfl (fun y t ft lt' z => go 6 y t (if_pos c1) ft lt' z)
        · rw [if_neg (by rw [cRd_sg q1 ok (by omega) (by omega)]; exact c1)]
          exact stop (if_neg c1)
  · cases hq : P k a with
    | inl e =>
      rw [hq] at z
      exact Or.inl ⟨e, z.1, by unfold lpS; rw [hq], z.2⟩
    | inr r =>
      rw [hq] at z hp
      have hl := okR_l hp ha
      exact Or.inr ⟨0, r.1, r.2, z.1, rfl, by omega, rfl, z.2.1, z.2.2, hl.1, hl.2.1, by unfold lpS; rw [hq]⟩
theorem c_sum (Ψ : Nat → JF) (hla : IsLa la) (hn : Tk (tok ts n) = 0) (hn1 : n ≤ 1000) (ok : okTp ts) (hP : CLs ts n la (Ψ 1) x P) (okP : okF n B P) : CLs ts n la (jf_of (qp_Lr_sum Ψ) 6) x (lpS ts P opA) := by
  intro σ k a q hk ha hw
  refine w_Lr_sum Ψ la x q.1 hla ?_
  refine WM_I (hP σ k a q hk ha hw) (fun y s z => ?_)
  obtain ⟨l, f, z⟩ := z
  refine ⟨l, ?_⟩
  have hp := okP k a hk
  refine Lp4_inv (I := fun m v3 v4 _ s => Ly s ∧ Fg (PLr la) σ s ∧ ((∃ e, v3 = nI 0 ∧ lpS ts P opA k a = .inl e ∧ cFt la e s) ∨ (∃ i k1 a1, v3 = nI 1 ∧ v4 = nI i ∧ i ≤ 1000 ∧ m = 1000 - i ∧ cRd ts k1 s ∧ cLw a1 la s ∧ k1 ≤ n ∧ a1.length ≤ k1 ∧ lpR ts P opA (1000 - i) k1 a1 = lpS ts P opA k a))) ?_ (m := 1000) ⟨l, f, ?_⟩
  · rintro m v3 v4 o5 s ⟨l, f, z⟩ X hX
    refine ⟨l, ?_⟩
    rcases z with ⟨e, rfl, he, z⟩ | ⟨i, k1, a1, rfl, rfl, hi, rfl, q1, w1, hk1, ha1, ht⟩
    · rw [if_pos (by decide)]
      exact ⟨Or.inl rfl, l, f, by rw [he]; exact ⟨rfl, z⟩⟩
    · rw [if_neg (by decide)]
      by_cases ci : 1000 ≤ i
      · rw [if_pos (by rw [nI_leN (by omega) (by omega)]; exact ci)]
        rw [show 1000 - i = 0 by omega] at ht
        exact ⟨Or.inr rfl, l, f, by rw [← ht]; exact ⟨rfl, q1, w1⟩⟩
      · rw [if_neg (by rw [nI_leN (by omega) (by omega)]; exact ci)]
        obtain ⟨g, hg⟩ : ∃ g, 1000 - i = g + 1 := ⟨1000 - i - 1, by omega⟩
        rw [hg] at ht
        have go : ∀ c y t o, opA (tok ts k1) = some c → Fg (PLr la) s t → Ly t → CR ts la (sfx c (P (k1 + 1) a1)) y t → X y (nI i + nI 1) o t := by
          intro c y t o hc ft lt' z
          unfold lpR at ht
          rw [hc] at ht
          have hkk := tk_lt hn hk1 (okO_A _ _ hc).2.2
          have hp1 := okP (k1 + 1) a1 hkk
          rw [nI_add]
          refine hX (1000 - (i + 1)) _ _ _ _ (by omega) ⟨lt', Fg_t f ft, ?_⟩
          cases hq : P (k1 + 1) a1 with
          | inl e =>
            rw [hq] at z ht
            exact Or.inl ⟨e, z.1, ht.symm, z.2⟩
          | inr r =>
            rw [hq] at z ht hp1
            have hl := okR_l hp1 (by omega)
            exact Or.inr ⟨i + 1, r.1, _, z.1, rfl, by omega, rfl, z.2.1, z.2.2, hl.1, by rw [List.length_append]; show r.2.length + 1 ≤ r.1; omega, by rw [show 1000 - (i + 1) = g by omega]; exact ht⟩
        have stop : opA (tok ts k1) = none → (nI 1 = (0 : Int32) ∨ nI 1 = 1) ∧ (Ly s ∧ Fg (PLr la) σ s ∧ CR ts la (lpS ts P opA k a) (nI 1) s) := by
          intro hc
          unfold lpR at ht
          rw [hc] at ht
          exact ⟨Or.inr rfl, l, f, by rw [← ht]; exact ⟨rfl, q1, w1⟩⟩
        simp only [JJ1]
        by_cases c1 : isS 43 (tok ts k1) = true
        · rw [if_pos (by rw [cRd_sg q1 ok (by omega) (by omega)]; exact c1), if_pos (by rw [cRd_sg q1 ok (by omega) (by omega)]; exact c1)]
          exact c_lpb (c := 4) hla hn1 ok hP okP q1 (tk_lt hn hk1 (isS_k c1)) ha1 w1 rfl (fun y t ft lt' z => go 4 y t _ (if_pos c1) ft lt' z)
        · rw [if_neg (by rw [cRd_sg q1 ok (by omega) (by omega)]; exact c1)]
          by_cases c2 : isS 45 (tok ts k1) = true
          · rw [if_pos (by rw [cRd_sg q1 ok (by omega) (by omega)]; exact c2), if_neg (by rw [cRd_sg q1 ok (by omega) (by omega)]; exact c1)]
            exact c_lpb (c := 5) hla hn1 ok hP okP q1 (tk_lt hn hk1 (isS_k c2)) ha1 w1 rfl (fun y t ft lt' z => go 5 y t _ (by unfold opA; rw [if_neg c1, if_pos c2]) ft lt' z)
          · rw [if_neg (by rw [cRd_sg q1 ok (by omega) (by omega)]; exact c2)]
            exact stop (by unfold opA; rw [if_neg c1, if_neg c2])
  · cases hq : P k a with
    | inl e =>
      rw [hq] at z
      exact Or.inl ⟨e, z.1, by unfold lpS; rw [hq], z.2⟩
    | inr r =>
      rw [hq] at z hp
      have hl := okR_l hp ha
      exact Or.inr ⟨0, r.1, r.2, z.1, rfl, by omega, rfl, z.2.1, z.2.2, hl.1, hl.2.1, by unfold lpS; rw [hq]⟩
theorem c_tests (Ψ : Nat → JF) (hla : IsLa la) (hn : Tk (tok ts n) = 0) (hn1 : n ≤ 1000) (ok : okTp ts) (hP : CLs ts n la (Ψ 3) x P) (okP : okF n B P) : CLs ts n la (jf_of (qp_Lr_tests Ψ) 6) x (lpS ts P opB) := by
  intro σ k a q hk ha hw
  refine w_Lr_tests Ψ la x q.1 hla ?_
  refine WM_I (hP σ k a q hk ha hw) (fun y s z => ?_)
  obtain ⟨l, f, z⟩ := z
  refine ⟨l, ?_⟩
  have hp := okP k a hk
  refine Lp4_inv (I := fun m v3 v4 _ s => Ly s ∧ Fg (PLr la) σ s ∧ ((∃ e, v3 = nI 0 ∧ lpS ts P opB k a = .inl e ∧ cFt la e s) ∨ (∃ i k1 a1, v3 = nI 1 ∧ v4 = nI i ∧ i ≤ 1000 ∧ m = 1000 - i ∧ cRd ts k1 s ∧ cLw a1 la s ∧ k1 ≤ n ∧ a1.length ≤ k1 ∧ lpR ts P opB (1000 - i) k1 a1 = lpS ts P opB k a))) ?_ (m := 1000) ⟨l, f, ?_⟩
  · rintro m v3 v4 o5 s ⟨l, f, z⟩ X hX
    refine ⟨l, ?_⟩
    rcases z with ⟨e, rfl, he, z⟩ | ⟨i, k1, a1, rfl, rfl, hi, rfl, q1, w1, hk1, ha1, ht⟩
    · rw [if_pos (by decide)]
      exact ⟨Or.inl rfl, l, f, by rw [he]; exact ⟨rfl, z⟩⟩
    · rw [if_neg (by decide)]
      by_cases ci : 1000 ≤ i
      · rw [if_pos (by rw [nI_leN (by omega) (by omega)]; exact ci)]
        rw [show 1000 - i = 0 by omega] at ht
        exact ⟨Or.inr rfl, l, f, by rw [← ht]; exact ⟨rfl, q1, w1⟩⟩
      · rw [if_neg (by rw [nI_leN (by omega) (by omega)]; exact ci)]
        obtain ⟨g, hg⟩ : ∃ g, 1000 - i = g + 1 := ⟨1000 - i - 1, by omega⟩
        rw [hg] at ht
        have go : ∀ c y t o, opB (tok ts k1) = some c → Fg (PLr la) s t → Ly t → CR ts la (sfx c (P (k1 + 1) a1)) y t → X y (nI i + nI 1) o t := by
          intro c y t o hc ft lt' z
          unfold lpR at ht
          rw [hc] at ht
          have hkk := tk_lt hn hk1 (okO_B _ _ hc).2.2
          have hp1 := okP (k1 + 1) a1 hkk
          rw [nI_add]
          refine hX (1000 - (i + 1)) _ _ _ _ (by omega) ⟨lt', Fg_t f ft, ?_⟩
          cases hq : P (k1 + 1) a1 with
          | inl e =>
            rw [hq] at z ht
            exact Or.inl ⟨e, z.1, ht.symm, z.2⟩
          | inr r =>
            rw [hq] at z ht hp1
            have hl := okR_l hp1 (by omega)
            exact Or.inr ⟨i + 1, r.1, _, z.1, rfl, by omega, rfl, z.2.1, z.2.2, hl.1, by rw [List.length_append]; show r.2.length + 1 ≤ r.1; omega, by rw [show 1000 - (i + 1) = g by omega]; exact ht⟩
        have stop : opB (tok ts k1) = none → (nI 1 = (0 : Int32) ∨ nI 1 = 1) ∧ (Ly s ∧ Fg (PLr la) σ s ∧ CR ts la (lpS ts P opB k a) (nI 1) s) := by
          intro hc
          unfold lpR at ht
          rw [hc] at ht
          exact ⟨Or.inr rfl, l, f, by rw [← ht]; exact ⟨rfl, q1, w1⟩⟩
        simp only [JJ1]
        by_cases c1 : isW 16 (tok ts k1) = true
        · rw [if_pos (by rw [cRd_w q1 (by omega)]; exact c1), if_pos (by rw [cRd_w q1 (by omega)]; exact c1)]
          exact c_lpb (c := 9) hla hn1 ok hP okP q1 (tk_lt hn hk1 (isW_k c1)) ha1 w1 rfl (fun y t ft lt' z => go 9 y t _ (if_pos c1) ft lt' z)
        · rw [if_neg (by rw [cRd_w q1 (by omega)]; exact c1)]
          by_cases c2 : isW 17 (tok ts k1) = true
          · rw [if_pos (by rw [cRd_w q1 (by omega)]; exact c2), if_neg (by rw [cRd_w q1 (by omega)]; exact c1)]
            exact c_lpb (c := 10) hla hn1 ok hP okP q1 (tk_lt hn hk1 (isW_k c2)) ha1 w1 rfl (fun y t ft lt' z => go 10 y t _ (by unfold opB; rw [if_neg c1, if_pos c2]) ft lt' z)
          · rw [if_neg (by rw [cRd_w q1 (by omega)]; exact c2)]
            exact stop (by unfold opB; rw [if_neg c1, if_neg c2])
  · cases hq : P k a with
    | inl e =>
      rw [hq] at z
      exact Or.inl ⟨e, z.1, by unfold lpS; rw [hq], z.2⟩
    | inr r =>
      rw [hq] at z hp
      have hl := okR_l hp ha
      exact Or.inr ⟨0, r.1, r.2, z.1, rfl, by omega, rfl, z.2.1, z.2.2, hl.1, hl.2.1, by unfold lpS; rw [hq]⟩
theorem c_test (Ψ : Nat → JF) (hla : IsLa la) (hn : Tk (tok ts n) = 0) (hn1 : n ≤ 1000) (ok : okTp ts) (hP : CLs ts n la (Ψ 2) x P) (okP : okF n B P) : CLs ts n la (jf_of (qp_Lr_test Ψ) 5) x (tsR ts P) := by
  intro σ k a q hk ha hw
  refine w_Lr_test Ψ la x q.1 hla ?_
  refine WM_I (hP σ k a q hk ha hw) (fun y s z => ?_)
  obtain ⟨l, f, z⟩ := z
  refine ⟨l, ?_⟩
  have hp := okP k a hk
  unfold tsR
  cases hq : P k a with
  | inl e =>
    rw [hq] at z
    rw [z.1, if_pos (by decide)]
    exact ⟨l, f, rfl, z.2⟩
  | inr r =>
    rw [hq] at z hp
    obtain ⟨z1, q1, w1⟩ := z
    have hl := okR_l hp ha
    rw [z1, if_neg (by decide)]
    simp only [JJ1]
    have go : ∀ c y t, opC (tok ts r.1) = some c → Fg (PLr la) s t → Ly t → CR ts la (sfx c (P (r.1 + 1) r.2)) y t → (y = 0 ∨ y = 1) ∧ Ly t ∧ Fg (PLr la) σ t ∧ CR ts la (match opC (tok ts r.1) with
      | none => .inr r
      | some c => match P (r.1 + 1) r.2 with
        | .inl e => .inl e
        | .inr r => .inr (r.1, r.2 ++ [(c, nI 0)])) y t := by
      intro c y t hc ft lt' z
      rw [hc]
      refine ⟨?_, lt', Fg_t f ft, ?_⟩
      · cases hq : P (r.1 + 1) r.2 with
        | inl e => rw [hq] at z; exact Or.inl z.1
        | inr r => rw [hq] at z; exact Or.inr z.1
      · cases hq : P (r.1 + 1) r.2 with
        | inl e => rw [hq] at z; exact z
        | inr r => rw [hq] at z; exact z
    by_cases c1 : isS 60 (tok ts r.1) = true
    · rw [if_pos (by rw [cRd_sg q1 ok (by omega) (by omega)]; exact c1), if_pos (by rw [cRd_sg q1 ok (by omega) (by omega)]; exact c1)]
      exact c_lpb (c := 7) hla hn1 ok hP okP q1 (tk_lt hn hl.1 (isS_k c1)) hl.2.1 w1 rfl (fun y t ft lt' z => go 7 y t (if_pos c1) ft lt' z)
    · rw [if_neg (by rw [cRd_sg q1 ok (by omega) (by omega)]; exact c1)]
      by_cases c2 : isS 61 (tok ts r.1) = true
      · rw [if_pos (by rw [cRd_sg q1 ok (by omega) (by omega)]; exact c2), if_neg (by rw [cRd_sg q1 ok (by omega) (by omega)]; exact c1)]
        exact c_lpb (c := 8) hla hn1 ok hP okP q1 (tk_lt hn hl.1 (isS_k c2)) hl.2.1 w1 rfl (fun y t ft lt' z => go 8 y t (by unfold opC; rw [if_neg c1, if_pos c2]) ft lt' z)
      · rw [if_neg (by rw [cRd_sg q1 ok (by omega) (by omega)]; exact c2)]
        have e : opC (tok ts r.1) = none := by unfold opC; rw [if_neg c1, if_neg c2]
        refine ⟨l, f, ?_⟩
        show CR ts la (match opC (tok ts r.1) with
          | none => .inr r
          | some c => match P (r.1 + 1) r.2 with
            | .inl e => .inl e
            | .inr r => .inr (r.1, r.2 ++ [(c, nI 0)])) (nI 1) s
        rw [e]
        exact ⟨rfl, q1, w1⟩
end CL

/-! ===== making cells ===== -/
section ZN
variable {L : JL} {st : List Value} {σ s t σ0 : JH} {os : List JO} {K : JS → Prop} {a b c d m k ci w : Nat} {n n1 n2 n' : Int} {B T : List (Nat × Nat)} {x : Int32}
/-- the shapes are those of the beginning and T, and none of T is unknown -/
def Cn (B T : List (Nat × Nat)) (σ : JH) : Prop := σ.1 = B ++ T ∧ B.length = 64 ∧ T.all (fun q => !(q.1 == 99)) = true
theorem Cn_len (h : Cn B T σ) : σ.1.length = 64 + T.length := by rw [h.1, List.length_append, h.2.1]
theorem Cn_clean (h : Cn B T σ) : jh_clean σ = true := by
  unfold jh_clean
  rw [h.1, ← h.2.1, List.drop_left]
  exact h.2.2
theorem Cn_new (h : Cn B T σ) (ht : d ≠ 99) : Cn B (T ++ [(d, m)]) (jh_new σ d m) := ⟨by show σ.1 ++ [(d, m)] = _; rw [h.1, List.append_assoc], h.2.1, by rw [List.all_append, h.2.2]; simp [ht]⟩
theorem Cn_1 (h : Cn B T σ) (e : s.1 = σ.1) : Cn B T s := ⟨e.trans h.1, h.2⟩
/-- the cells below k are as they were -/
def Fo (k : Nat) (σ s : JH) : Prop := (∀ b j, b < k → s.2.1 b j = σ.2.1 b j) ∧ (∀ b j, b < k → s.2.2.1 b j = σ.2.2.1 b j) ∧ (∀ b j, b < k → s.2.2.2 b j = σ.2.2.2 b j)
theorem Fo_r (k : Nat) (σ : JH) : Fo k σ σ := ⟨fun _ _ _ => rfl, fun _ _ _ => rfl, fun _ _ _ => rfl⟩
theorem Fo_t (h : Fo k σ s) (h' : Fo k s t) : Fo k σ t := ⟨fun b j q => (h'.1 b j q).trans (h.1 b j q), fun b j q => (h'.2.1 b j q).trans (h.2.1 b j q), fun b j q => (h'.2.2 b j q).trans (h.2.2 b j q)⟩
theorem Fo_m {k' : Nat} (h : Fo k σ s) (hk : k' ≤ k) : Fo k' σ s := ⟨fun b j q => h.1 b j (by omega), fun b j q => h.2.1 b j (by omega), fun b j q => h.2.2 b j (by omega)⟩
theorem Fo_g {P : Nat → Nat → Prop} (f : Fg P σ s) (hP : ∀ b j, P b j → k ≤ b) : Fo k σ s := ⟨fun b j q => f.2.1 b j (fun p => absurd (hP b j p) (by omega)), fun b j q => f.2.2.1 b j (fun p => absurd (hP b j p) (by omega)), fun b j q => f.2.2.2 b j (fun p => absurd (hP b j p) (by omega))⟩
theorem Fo_n (h : k ≤ σ.1.length) : Fo k σ (jh_new σ d m) := ⟨fun b j q => if_neg (by omega), fun b j q => if_neg (by omega), fun b j q => if_neg (by omega)⟩
theorem Fo_R {j : Nat} {v : Option Nat} (h : k ≤ a) : Fo k σ (jh_setR σ a j v) := ⟨fun _ _ _ => rfl, fun _ _ _ => rfl, fun b i q => if_neg (fun z => by omega)⟩
theorem Fo_J {j : Nat} {v : Int64} (h : k ≤ a) : Fo k σ (jh_setJ σ a j v) := ⟨fun _ _ _ => rfl, fun b i q => if_neg (fun z => by omega), fun _ _ _ => rfl⟩
theorem Fo_I {j : Nat} {v : Int32} (h : k ≤ a) : Fo k σ (jh_setI σ a j v) := ⟨fun b i q => if_neg (fun z => by omega), fun _ _ _ => rfl, fun _ _ _ => rfl⟩
/-- what had a shape has it still -/
def Up (σ s : JH) : Prop := ∀ (i : Nat) (q : Nat × Nat), σ.1[i]? = some q → s.1[i]? = some q
theorem wo_new (h : Cn B T σ) (ha : 64 + T.length = a) (hm : jt_N d = m) (H : WN (jx_run os) (L, .ref a :: st, jh_new σ d m) K) : WN (jx_run ((61, d, n) :: os)) (L, st, σ) K := wn_op (by
  show (if jh_clean σ = true then some (L, Value.ref σ.1.length :: st, jh_new σ d (jt_N d)) else none) = _
  rw [if_pos (Cn_clean h), Cn_len h, ha, hm]) H
theorem wo_newa (h : Cn B T σ) (ha : 64 + T.length = a) (hx : ¬ (x < 0 ∨ 5000 < x.toNatClampNeg)) (hm : x.toNatClampNeg = m) (H : WN (jx_run os) (L, .ref a :: st, jh_new σ d m) K) : WN (jx_run ((62, d, n) :: os)) (L, .int x :: st, σ) K := wn_op (by
  show (if x < 0 ∨ 5000 < x.toNatClampNeg ∨ jh_clean σ = false then none else some (L, Value.ref σ.1.length :: st, jh_new σ d x.toNatClampNeg)) = _
  rw [if_neg (by rw [Cn_clean h]; intro q; rcases q with q | q | q <;> first | exact hx (Or.inl q) | exact hx (Or.inr q) | cases q), Cn_len h, ha, hm]) H
theorem wo_newm (h : Cn B T σ) (ha : 64 + T.length = a) (hx : ¬ (x < 0 ∨ 5000 < x.toNatClampNeg)) (hm : x.toNatClampNeg = m) (H : WN (jx_run os) (L, .ref a :: st, jh_new σ 104 m) K) : WN (jx_run ((63, d, n) :: os)) (L, .int x :: st, σ) K := wn_op (by
  show (if x < 0 ∨ 5000 < x.toNatClampNeg ∨ jh_clean σ = false then none else some (L, Value.ref σ.1.length :: st, jh_new σ 104 x.toNatClampNeg)) = _
  rw [if_neg (by rw [Cn_clean h]; intro q; rcases q with q | q | q <;> first | exact hx (Or.inl q) | exact hx (Or.inr q) | cases q), Cn_len h, ha, hm]) H
theorem wo_putF {r : Nat} (hs : σ.1[a]? = some (ci, m)) (hk : n.toNat = k) (H : WN (jx_run os) (L, st, jh_setR σ a k (some r)) K) : WN (jx_run ((48, ci, n) :: os)) (L, .ref r :: .ref a :: st, σ) K := wn_op (show jx_op (45, ci, n) (L, .ref r :: .ref a :: st, σ) = _ by
  rw [ev_putR, hs, hk, ev_qk]) H
theorem wo_stR {r : Nat} {y : Int32} (hs : σ.1[a]? = some (104, m)) (hi : inb y m) (hr : σ.1[r]? = some (3, 12)) (hk : cl y = k) (H : WN (jx_run os) (L, st, jh_setR σ a k (some r)) K) : WN (jx_run ((59, b, n) :: os)) (L, .ref r :: .int y :: .ref a :: st, σ) K := wn_op (by
  show jo_stR (L, .ref r :: .int y :: .ref a :: st, σ) = _
  unfold jo_stR
  simp only [hs]
  rw [if_pos ⟨trivial, hi, hr⟩]; subst hk; rfl) H
theorem wn_oi (hc : Nat.ble (st.map (fun v => v.category)).sum 8 = true) (H : K (L, st, σ)) : WN jx_oi (L, .ref a :: st, σ) K := ⟨_, if_pos (Nat.le_of_ble_eq_true hc), H⟩
theorem wc_ci {F : JH → Prop} {f : JF} {vs : List Value} {N : Nat} (tk : List Value) (hr : tk.reverse = .ref a :: vs) (hn : tk.length = N) (hc : Nat.ble (st.map (fun v => v.category)).sum 8 = true) (H : WM f (.ref a :: vs) σ (kV F)) (kf : ∀ σ, F σ → K (L, st, σ)) : WN (jx_ci N f) (L, tk ++ st, σ) K := by
  obtain ⟨v, σ', h1, rfl, h2⟩ := H
  subst hn
  refine ⟨_, ?_, kf σ' h2⟩
  unfold jx_ci
  have e1 : (tk ++ st).take tk.length = tk := List.take_left
  have e2 : (tk ++ st).drop tk.length = st := List.drop_left
  have e3 : vs.length + 1 = tk.length := by rw [← List.length_reverse (as := tk), hr]; rfl
  simp only [e1, e2, hr]
  rw [if_pos ⟨Nat.le_of_ble_eq_true hc, e3⟩, h1]
  rfl
/-- a new row of cells, its place put into a field -/
def An (a k c : Nat) (σ s : JH) : Prop := s.2.2.2 a k = some c ∧ (∀ b j, b ≠ c → s.2.1 b j = σ.2.1 b j) ∧ (∀ b j, b ≠ c → s.2.2.1 b j = σ.2.2.1 b j) ∧ (∀ b j, b ≠ c → (b ≠ a ∨ j ≠ k) → s.2.2.2 b j = σ.2.2.2 b j)
theorem Fo_A {k' : Nat} (h : An a k c σ s) (h1 : k' ≤ a) (h2 : k' ≤ c) : Fo k' σ s := ⟨fun b j q => h.2.1 b j (by omega), fun b j q => h.2.2.1 b j (by omega), fun b j q => h.2.2.2 b j (by omega) (by omega)⟩
theorem An_mk (h : Cn B T σ) (hc : 64 + T.length = c) : An a k c σ (jh_setR (jh_new σ d m) a k (some c)) := by
  have e : σ.1.length = c := (Cn_len h).trans hc
  refine ⟨if_pos ⟨rfl, rfl⟩, fun b j q => if_neg (by omega), fun b j q => if_neg (by omega), fun b j q1 q2 => ?_⟩
  refine (if_neg (fun z => by omega)).trans (if_neg (by omega))
theorem zn_arr (h : Cn B T σ) (hs : σ.1[a]? = some (ci, w)) (hc : 64 + T.length = c) (hN : Int32.ofInt n = x) (hx : ¬ (x < 0 ∨ 5000 < x.toNatClampNeg)) (hm : x.toNatClampNeg = m) (ht : d ≠ 99) (hk : n'.toNat = k) (H : ∀ s, Cn B (T ++ [(d, m)]) s → Up σ s → s.1[c]? = some (d, m) → An a k c σ s → WN (jx_run os) (some (.ref a) :: L, [], s) K) : WN (jx_run ((4, 0, n1) :: (0, b, n) :: (62, d, n2) :: (48, ci, n') :: os)) (some (.ref a) :: L, [], σ) K := by
  have up : ∀ i q, σ.1[i]? = some q → (σ.1 ++ [(d, m)])[i]? = some q := fun i q e => by
    rw [List.getElem?_append_left (List.getElem?_eq_some_iff.mp e).1]; exact e
  refine wo_aload rfl (wo_ipush hN (wo_newa h hc hx hm (wo_putF (m := w) (up a _ hs) hk ?_)))
  refine H _ (Cn_1 (Cn_new h ht) rfl) up ?_ (An_mk h hc)
  show (σ.1 ++ [(d, m)])[c]? = _
  rw [← hc, ← Cn_len h, List.getElem?_append_right (Nat.le_refl _), Nat.sub_self]; rfl
theorem z_La_init (h : Cn B T σ) (hc : 64 + T.length = a + 1) (hs : σ.1[a]? = some (1, 3)) : WM q_La_init [.ref a] σ (kV fun s => Cn B (T ++ [(100, 1000)] ++ [(100, 32)]) s ∧ Up σ s ∧ s.1[a + 1]? = some (100, 1000) ∧ s.1[a + 2]? = some (100, 32) ∧ s.2.2.2 a 0 = some (a + 1) ∧ s.2.2.2 a 1 = some (a + 2) ∧ Fo a σ s) := by
  refine wm_V [some (.ref a)] (Nat.le_of_ble_eq_true rfl) rfl (wp_rt (wn_jn (wo_aload rfl (wn_nil (wn_jn (wn_oi rfl ?_))))))
  refine zn_arr h hs hc rfl (by decide) (m := 1000) (by decide) (by decide) rfl fun s1 c1 u1 w1 a1 => ?_
  refine zn_arr (c := a + 2) c1 (u1 _ _ hs) (by rw [List.length_append]; show 64 + (T.length + 1) = _; omega) rfl (by decide) (m := 32) (by decide) (by decide) rfl fun s2 c2 u2 w2 a2 => ?_
  refine wn_nil ⟨rfl, e_V ⟨c2, fun i q e => u2 i q (u1 i q e), u2 _ _ w1, w2, (a2.2.2.2 a 0 (by omega) (by omega)).trans a1.1, a2.1, Fo_t (Fo_A a1 (by omega) (by omega)) (Fo_A a2 (by omega) (by omega))⟩⟩
theorem z_Pl_init (h : Cn B T σ) (hc : 64 + T.length = a + 1) (hs : σ.1[a]? = some (4, 3)) : WM q_Pl_init [.ref a] σ (kV fun s => Cn B (T ++ [(100, 30)] ++ [(100, 90)]) s ∧ Up σ s ∧ s.2.2.2 a 0 = some (a + 1) ∧ s.2.2.2 a 1 = some (a + 2) ∧ Fo a σ s ∧ s.2.1 a 2 = σ.2.1 a 2) := by
  refine wm_V [some (.ref a)] (Nat.le_of_ble_eq_true rfl) rfl (wp_rt (wn_jn (wo_aload rfl (wn_nil (wn_jn (wn_oi rfl ?_))))))
  refine zn_arr h hs hc rfl (by decide) (m := 30) (by decide) (by decide) rfl fun s1 c1 u1 w1 a1 => ?_
  refine zn_arr (c := a + 2) c1 (u1 _ _ hs) (by rw [List.length_append]; show 64 + (T.length + 1) = _; omega) rfl (by decide) (m := 90) (by decide) (by decide) rfl fun s2 c2 u2 w2 a2 => ?_
  refine wn_nil ⟨rfl, e_V ⟨c2, fun i q e => u2 i q (u1 i q e), (a2.2.2.2 a 0 (by omega) (by omega)).trans a1.1, a2.1, Fo_t (Fo_A a1 (by omega) (by omega)) (Fo_A a2 (by omega) (by omega)), (a2.2.1 a 2 (by omega)).trans (a1.2.1 a 2 (by omega))⟩⟩
end ZN

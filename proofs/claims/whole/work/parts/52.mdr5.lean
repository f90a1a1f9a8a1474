theorem mRo_f {st : Rst} {s t : JH} {P : Nat → Nat → Prop} (f : Fi P s t) (h1 : ∀ j, ¬ P 227 j) (h2 : ∀ j, ¬ P 228 j) (h3 : ¬ P 204 41) (h : mRo st s) : mRo st t := ⟨(f.2.2 _ _ h3).trans h.1, fun p hp => (f.2.2 _ _ (h1 p)).trans (h.2.1 p hp), fun p hp => (f.2.2 _ _ (h2 p)).trans (h.2.2 p hp)⟩
set_option maxHeartbeats 1000000 in
theorem m_rowsFrom {H : Hou} {L : Option Lws} {sn : Sen} (hW : WH H) : ∀ (m d : Nat), d < m → ∀ (S : Mud) (x : Int32) (pre : List Nat) (st : Rst) (σ : JH), d + pre.length ≤ 5 → (∀ p ∈ pre, p < 64) → WS H S → Ms H L S x σ → mSn H sn σ → mR pre σ → mRo st σ → WM (g_Md_rowsFrom m 0) [.ref 204, .int (nI pre.length), .int (nI d)] σ (kV fun s => Ms H L S x s ∧ Fi PRo σ s ∧ mR pre s ∧ mRo (rowsR H sn d S pre st) s) := by
  intro m
  induction m with
  | zero => intro d h; omega
  | succ m ih =>
    intro d hd S x pre st σ hlen h64 hS hM hN hR hT
    have n8 := hW.1
    refine w_Md_rowsFrom (g_Md_rowsFrom m) _ _ hM.1 ?_
    cases d with
    | zero =>
      rw [if_pos (by decide)]
      refine WE_i (m_isAsSeen hM.1 hW hS hM.2.2.1 hN) ?_
      cases hf : fits sn S
      · rw [if_pos (by decide)]
        have e : rowsR H sn 0 S pre st = st := by show (if _ then _ else _) = _; rw [if_neg (by rw [hf]; decide)]
        rw [e]
        exact ⟨hM, Fi_r _ _, hR, hT⟩
      · rw [if_neg (by decide)]
        have e : rowsR H sn 0 S pre st = radd H S pre st := by show (if _ then _ else _) = _; rw [if_pos hf]
        rw [e]
        exact m_rowLeaf hW hS (by omega) h64 hM hN hR hT (fun s g1 g2 g3 g4 => ⟨g1, g2, g3, g4⟩)
    | succ d =>
      rw [if_neg (by rw [nI_eq0 (by omega)]; omega)]
      refine nest43 hW hS (fun l t => Ms H L S x t ∧ Fi PRo σ t ∧ mR pre t ∧ ∃ st', mRo st' t ∧ l.foldl (fun st p => rowsR H sn d (trnC S p) (pre ++ [p]) st) st' = rowsR H sn (d + 1) S pre st) (fun v v' s C => WM q_Md_turns [.ref 204, .int (nI 2376), .int v, .int v'] s (kI fun x18 s19 => Ly s19 ∧ inb (nI pre.length) 5 ∧ lt (jh_setI s19 224 (cl (nI pre.length)) ((nI 8 * v) + v')) (fun s20 => WM (g_Md_rowsFrom m 0) [.ref 204, .int (nI pre.length + nI 1), .int (nI (d + 1) - nI 1)] s20 (kV fun s21 => Ly s21 ∧ WM q_Md_unturns [.ref 204, .int (nI 2376), .int v, .int v', .int x18] s21 (kV fun s22 => Ly s22 ∧ C (some (.int x18)) s22))))) ⟨hM, Fi_r _ _, hR, _, hT, rfl⟩ (fun l s h => Ms_O h.1) (fun s ⟨h1, h2, h3, b', h4, h5⟩ => ⟨h1, h2, h3, by rw [← h5]; exact h4⟩) ?_
      rintro k e l s hke he hm ⟨h1, h2, h3, st', h4, h5⟩ C hC
      have hkn : k < Hn H := by omega
      have hp : (8 * k + e) / 8 = k ∧ (8 * k + e) % 8 = e := by omega
      refine m_try hW hS h1 hkn he hm fun t ht hf => ⟨ht.1, ?_⟩
      simp (disch := omega) only [lt, inb_nI, cl_nI, nI_add, nI_mulN, nI_subN, Nat.add_sub_cancel]
      refine ⟨by omega, ?_⟩
      have fr : Fi (fun b _ => b = 224) t (jh_setI t 224 pre.length (nI (8 * k + e))) := Fi_s (Fi_r _ _) rfl
      have i0 := ih d (by omega) (trn S k e) _ (pre ++ [8 * k + e]) st' (jh_setI t 224 pre.length (nI (8 * k + e))) (by rw [len_app]; omega) (fun p hp => by
        rcases List.mem_append.mp hp with q | q
        · exact h64 p q
        · rw [List.mem_singleton.mp q]; omega) (WS_trn hS hkn he hm hW) (Ms_f hW ht fr (fun b j q1 q2 => by omega) (fun j => by omega)) (mSn_f fr (fun j _ _ => by omega) (mSn_f hf (fun j q1 q2 => by unfold PT; omega) (mSn_f h2 (fun j q1 q2 => by unfold PRo PT; omega) hN))) (mR_app (mR_f hf (fun j => by unfold PT; omega) h3)) (mRo_f fr (fun j => by omega) (fun j => by omega) (by omega) (mRo_f hf (fun j => by unfold PT; omega) (fun j => by unfold PT; omega) (by unfold PT; omega) h4))
      rw [len_app] at i0
      refine WM_V i0 fun t2 ⟨g1, g2, g3, g4⟩ => ⟨g1.1, ?_⟩
      refine m_untry hW hS g1 hkn he hm fun t3 ht3 hf3 => ⟨ht3.1, ?_⟩
      refine hC _ _ ⟨ht3, Fi_t h2 (Fi_t (Fi_m hf (fun b j q => Or.inl q)) (Fi_t (Fi_m fr (fun b j q => Or.inr (Or.inl q))) (Fi_t g2 (Fi_m hf3 (fun b j q => Or.inl q))))), mR_f hf3 (fun j => by unfold PT; omega) (mR_pre g3), _, mRo_f hf3 (fun j => by unfold PT; omega) (fun j => by unfold PT; omega) (by unfold PT; omega) g4, ?_⟩
      rw [List.foldl_cons] at h5
      rw [← h5]
      show _ = l.foldl _ (rowsR H sn d (trn S ((8 * k + e) / 8) ((8 * k + e) % 8)) _ st')
      rw [hp.1, hp.2]
/-- the model at rest -/
def Mb (H : Hou) (L : Option Lws) (S : Mud) (c : Int32) (s : JH) : Prop := Ly s ∧ mHL H L s ∧ mM H S 0 s ∧ s.2.1 218 1 = c
theorem Mb_f {H : Hou} {L : Option Lws} {S : Mud} {c : Int32} {s t : JH} {P : Nat → Nat → Prop} (hW : WH H) (h : Mb H L S c s) (f : Fi P s t) (h1 : ∀ b j, 210 ≤ b → b ≤ 212 → ¬ P b j) (h2 : ∀ j, j < 91 → ¬ P 218 j) : Mb H L S c t :=
  ⟨Fi_ly f h.1, mHL_f f h1 h.2.1, mM_f hW.1 f (fun j _ q _ => h2 j (by omega)) h.2.2.1, (f.2.2 218 1 (h2 _ (by omega))).trans h.2.2.2⟩
/-- the state goes to the place where rows are tried -/
theorem m_toOther {H : Hou} {L : Option Lws} {S : Mud} {c : Int32} {σ : JH} (hW : WH H) (h : Mb H L S c σ) {F : JH → Prop} (hF : ∀ s, Ms H L S c s → Fi (PC 2376 91) σ s → F s) : WM q_Md_copies [.ref 204, .int (nI 0), .int (nI 2376), .int (nI 91)] σ (kV F) := by
  refine WM_V (m_copies h.1 (by omega) (by omega) (Or.inl (by omega))) fun s ⟨l, f, q⟩ => hF s ⟨l, mHL_f f (fun b j h1 h2 => by unfold PC; omega) h.2.1, mM_copy hW.1 (fun j hj => q j hj) h.2.2.1, ?_⟩ f
  rw [show 2377 = 2376 + 1 from rfl, q 1 (by omega)]
  exact h.2.2.2
set_option maxHeartbeats 1000000 in
theorem m_findRows {H : Hou} {L : Option Lws} {sn : Sen} {S : Mud} {c : Int32} {σ : JH} {d : Nat} (hW : WH H) (hS : WS H S) (h : Mb H L S c σ) (hN : mSn H sn σ) (hd : d ≤ 3) : WM q_Md_findRows [.ref 204, .int (nI d)] σ (kV fun s => Ly s ∧ Fi PRo σ s ∧ mRo (rowsR H sn d S [] (0, fun _ => 0, fun _ => 0)) s) := by
  refine w_Md_findRows _ h.1 ?_
  refine m_toOther hW h fun s1 M1 f1 => ⟨M1.1, ?_⟩
  unfold lt
  have f2 : Fi PRo σ (jh_setI s1 204 41 (nI 0)) := Fi_s (Fi_m f1 (fun b j q => by unfold PC at q; unfold PRo PT; omega)) (by unfold PRo; omega)
  have M2 : Ms H L S c (jh_setI s1 204 41 (nI 0)) := Ms_f (P := fun b j => b = 204 ∧ j = 41) hW M1 (Fi_s (Fi_r _ _) ⟨rfl, rfl⟩) (fun b j q1 q2 => by omega) (fun j => by omega)
  refine Lp2_inv (I := fun m v s => ∃ i, i ≤ 64 ∧ m = 64 - i ∧ v = nI i ∧ Fi PRo σ s ∧ Ms H L S c s ∧ s.2.1 204 41 = nI 0 ∧ (∀ p, p < i → s.2.1 227 p = nI 0 ∧ s.2.1 228 p = nI 0)) ?_ (m := 64) ⟨0, by omega, by omega, rfl, f2, M2, rI_eq, fun p hp => by omega⟩
  rintro m v s ⟨i, hi, rfl, rfl, f, M, u1, u2⟩ X hX
  refine ⟨M.1, ?_⟩
  by_cases q : 64 ≤ i
  · rw [if_pos (by rw [nI_leN (by omega) (by omega)]; exact q)]
    refine WM_V (m_rowsFrom (sn := sn) hW 40 d (by omega) S c [] (0, fun _ => 0, fun _ => 0) s (by show d + 0 ≤ 5; omega) (fun p hp => by cases hp) hS M (mSn_f f (fun j q1 q2 => by unfold PRo PT; omega) hN) (fun i p hp => by cases hp) ⟨u1, fun p hp => (u2 p (by omega)).1, fun p hp => (u2 p (by omega)).2⟩) fun t ⟨g1, g2, g3, g4⟩ => ⟨g1.1, g1.1, Fi_t f g2, g4⟩
  · rw [if_neg (by rw [nI_leN (by omega) (by omega)]; exact q)]
    simp (disch := omega) only [lt, inb_nI, cl_nI]
    have fr : Fi (fun b _ => b = 227 ∨ b = 228) s (jh_setI (jh_setI s 227 i (nI 0)) 228 i (nI 0)) := Fi_s (Fi_s (Fi_r _ _) (by omega)) (by omega)
    refine ⟨by omega, by omega, hX _ _ _ (by omega) ⟨i + 1, by omega, rfl, nI_add i 1, Fi_t f (Fi_m fr (fun b j q => by unfold PRo; omega)), Ms_f hW M fr (fun b j q1 q2 => by omega) (fun j => by omega), ?_, fun p hp => ?_⟩⟩
    · rw [rI_ne (by omega), rI_ne (by omega)]; exact u1
    · by_cases z : p = i
      · rw [z, rI_ne (by omega), rI_eq]; exact ⟨rfl, rI_eq⟩
      · rw [rI_ne (by omega), rI_ne (by omega), rI_ne (by omega), rI_ne (by omega)]; exact u2 p (by omega)
/-! ===== heaps again: all three kinds of cells ===== -/
def Fg (P : Nat → Nat → Prop) (σ s : JH) : Prop := s.1 = σ.1 ∧ (∀ b j, ¬ P b j → s.2.1 b j = σ.2.1 b j) ∧ (∀ b j, ¬ P b j → s.2.2.1 b j = σ.2.2.1 b j) ∧ (∀ b j, ¬ P b j → s.2.2.2 b j = σ.2.2.2 b j)
section FG
variable {P Q : Nat → Nat → Prop} {σ s t : JH}
theorem Fg_r (P : Nat → Nat → Prop) (σ : JH) : Fg P σ σ := ⟨rfl, fun _ _ _ => rfl, fun _ _ _ => rfl, fun _ _ _ => rfl⟩
theorem Fg_t (h : Fg P σ s) (h' : Fg P s t) : Fg P σ t := ⟨h'.1.trans h.1, fun b j q => (h'.2.1 b j q).trans (h.2.1 b j q), fun b j q => (h'.2.2.1 b j q).trans (h.2.2.1 b j q), fun b j q => (h'.2.2.2 b j q).trans (h.2.2.2 b j q)⟩
theorem Fg_m (h : Fg P σ s) (hm : ∀ b j, P b j → Q b j) : Fg Q σ s := ⟨h.1, fun b j q => h.2.1 b j (fun p => q (hm b j p)), fun b j q => h.2.2.1 b j (fun p => q (hm b j p)), fun b j q => h.2.2.2 b j (fun p => q (hm b j p))⟩
theorem Fi_g (h : Fi P σ s) : Fg P σ s := ⟨h.1, h.2.2, fun b j _ => by rw [h.2.1], fun b j _ => by rw [h.2.1]⟩
/-- the ints alone -/
theorem Fg_i (h : Fg P σ s) : Fi P σ (σ.1, s.2.1, σ.2.2) := ⟨rfl, rfl, h.2.1⟩
theorem rJ (σ : JH) (a k : Nat) (x : Int64) (b j : Nat) : (jh_setJ σ a k x).2.2.1 b j = if b = a ∧ j = k then x else σ.2.2.1 b j := rfl
theorem rJ_eq {σ : JH} {a k : Nat} {x : Int64} : (jh_setJ σ a k x).2.2.1 a k = x := if_pos ⟨rfl, rfl⟩
theorem rJ_ne {σ : JH} {a k : Nat} {x : Int64} {b j : Nat} (h : b ≠ a ∨ j ≠ k) : (jh_setJ σ a k x).2.2.1 b j = σ.2.2.1 b j := if_neg (fun q => h.elim (fun h => h q.1) (fun h => h q.2))
theorem rJ_1 (σ : JH) (a k : Nat) (x : Int64) : (jh_setJ σ a k x).2.1 = σ.2.1 := rfl
theorem rJ_I (σ : JH) (a k : Nat) (x : Int32) : (jh_setI σ a k x).2.2.1 = σ.2.2.1 := rfl
theorem Fg_sI {a k : Nat} {x : Int32} (h : Fg P σ s) (hp : P a k) : Fg P σ (jh_setI s a k x) := Fg_t h (Fi_g (Fi_s (Fi_r _ _) hp))
theorem Fg_sJ {a k : Nat} {x : Int64} (h : Fg P σ s) (hp : P a k) : Fg P σ (jh_setJ s a k x) := ⟨h.1, h.2.1, fun b j q => by
  rw [rJ, if_neg (fun e => q (by rw [e.1, e.2]; exact hp))]
  exact h.2.2.1 b j q, h.2.2.2⟩
end FG
/-! MUDDLES -/
def mcd (f : Nat → Nat) : Nat → Nat
  | 0 => 0
  | k + 1 => 8 * mcd f k + f k
theorem mcd_lt {f : Nat → Nat} {n : Nat} (h : ∀ k, k < n → f k < 8) : mcd f n < 8 ^ n := by
  induction n with
  | zero => exact Nat.one_pos
  | succ n ih =>
    have h1 := ih (fun k hk => h k (by omega))
    have h2 := h n (by omega)
    show 8 * mcd f n + f n < 8 ^ (n + 1)
    rw [Nat.pow_succ]
    omega
theorem mcd_8 {H : Hou} {S : Mud} (hW : WH H) (hS : WS H S) : mcd (mi S) (Hn H) < 16777216 := by
  have h1 := mcd_lt (f := mi S) (n := Hn H) (fun k hk => by have := hS.1.1 k hk; have := hW.1; omega)
  have h2 : 8 ^ (Hn H) ≤ 8 ^ 8 := Nat.pow_le_pow_right (by omega) hW.1
  omega
def madd (cs : List Nat) (v : Nat) : List Nat := if v ∈ cs then cs else cs ++ [v]
def mudR (H : Hou) : Nat → Mud → List Nat → List Nat
  | 0, S, cs => madd cs (mcd (mi S) (Hn H))
  | d + 1, S, cs => (opl H S).foldl (fun cs p => mudR H d (trnC S p) cs) cs
theorem madd_len (cs : List Nat) (v : Nat) : (madd cs v).length ≤ cs.length + 1 := by
  unfold madd
  split
  · omega
  · rw [List.length_append]; exact Nat.le_refl _
theorem prK_28 : ∀ n, n < 9 → (prK n n).length ≤ 28 := by decide +kernel
theorem opl_28 {H : Hou} (S : Mud) (n8 : Hn H ≤ 8) : (opl H S).length ≤ 28 := Nat.le_trans (List.length_filter_le _ _) (prK_28 _ (by omega))
theorem mudR_len {H : Hou} (n8 : Hn H ≤ 8) : ∀ (d : Nat) (S : Mud) (cs : List Nat), (mudR H d S cs).length ≤ cs.length + 28 ^ d := by
  intro d
  induction d with
  | zero => intro S cs; exact madd_len _ _
  | succ d ih =>
    intro S cs
    have h : ∀ (l : List Nat) (cs : List Nat), (l.foldl (fun cs p => mudR H d (trnC S p) cs) cs).length ≤ cs.length + l.length * 28 ^ d := by
      intro l
      induction l with
      | nil => intro cs; simp
      | cons p l ihl =>
        intro cs
        rw [List.foldl_cons, List.length_cons]
        have h1 := ihl (mudR H d (trnC S p) cs)
        have h2 := ih (trnC S p) cs
        rw [Nat.succ_mul]
        omega
    have h1 := h (opl H S) cs
    have h2 : (opl H S).length * 28 ^ d ≤ 28 * 28 ^ d := Nat.mul_le_mul_right _ (opl_28 S n8)
    show ((opl H S).foldl _ cs).length ≤ _
    rw [Nat.pow_succ]
    omega
def Mus (cs : List Nat) (s : JH) : Prop := s.2.1 204 40 = nI cs.length ∧ ∀ i v, cs[i]? = some v → s.2.2.1 226 i = lN v ∧ v < 16777216
def PMu (b j : Nat) : Prop := PT 2376 b j ∨ b = 226 ∨ (b = 204 ∧ j = 40)
theorem lN_inj {a b : Nat} (ha : a < 2147483648) (hb : b < 2147483648) : (lN a = lN b) = (a = b) := by rw [eq_iff_iff]; exact lN_eq (by omega) (by omega)
theorem Mus_f {cs : List Nat} {s t : JH} {P : Nat → Nat → Prop} (f : Fi P s t) (h1 : ¬ P 204 40) (h : Mus cs s) : Mus cs t := ⟨(f.2.2 _ _ h1).trans h.1, fun i v q => by rw [f.2.1]; exact h.2 i v q⟩
theorem Ms_g {H : Hou} {L : Option Lws} {S : Mud} {c : Int32} {s t : JH} {P : Nat → Nat → Prop} (hW : WH H) (h : Ms H L S c s) (hl : Ly t) (f : Fg P s t) (h1 : ∀ b j, 210 ≤ b → b ≤ 212 → ¬ P b j) (h2 : ∀ j, ¬ P 218 j) : Ms H L S c t := by
  have a : mHL H L (s.1, t.2.1, s.2.2) := mHL_f (Fg_i f) h1 h.2.1
  have b : mM H S 2376 (s.1, t.2.1, s.2.2) := mM_f hW.1 (Fg_i f) (fun j _ _ _ => h2 j) h.2.2.1
  exact ⟨hl, a, b, (f.2.1 218 2377 (h2 _)).trans h.2.2.2⟩
set_option maxHeartbeats 1000000 in
theorem m_mudLeaf {H : Hou} {L : Option Lws} {S : Mud} {x : Int32} {cs : List Nat} {σ : JH} (hW : WH H) (hS : WS H S) (hM : Ms H L S x σ) (hT : Mus cs σ) (hcs : cs.length < 800) {K : JH → Prop} (hK : ∀ s, Ms H L S x s → Fg PMu σ s → Mus (madd cs (mcd (mi S) (Hn H))) s → K s) :
    Lp2 (fun (v1 : Int64) (v2 : Int32) X3 => WE q_Md_bodies [.ref 204] σ (fun x4 => (if x4 ≤ v2 then Lp2 (fun (v5 : Int32) (v6 : Int32) X7 => (if σ.2.1 204 40 ≤ v6 then (if v5 = 0 then inb (σ.2.1 204 40) 800 ∧ lt (jh_setJ σ 226 (cl (σ.2.1 204 40)) v1) (fun s8 => lt (jh_setI s8 204 40 ((s8.2.1 204 40) + nI 1)) (fun s9 => K s9)) else K σ) else (if v5 = 0 then inb v6 800 ∧ (if lg_cmp (σ.2.2.1 226 (cl v6)) v1 = 0 then X7 (nI 1) (v6 + nI 1) else X7 (nI 0) (v6 + nI 1)) else X7 (nI 1) (v6 + nI 1)))) (nI 0) (nI 0) else inb (nI 2379 + v2) 2484 ∧ X3 ((8 * v1) + ((σ.2.1 218 (cl (nI 2379 + v2))).toInt64)) (v2 + nI 1)))) 0 (nI 0) := by
  have n8 := hW.1
  obtain ⟨t1, t2⟩ := hT
  refine Lp2_inv (I := fun m a v => ∃ i, i ≤ Hn H ∧ m = Hn H - i ∧ v = nI i ∧ a = lN (mcd (mi S) i)) ?_ (m := Hn H) ⟨0, by omega, by omega, rfl, rfl⟩
  rintro m a v ⟨i, hi, rfl, rfl, rfl⟩ X hX
  refine WE_i (m_bodies hM.1 hM.2.1.1) ?_
  by_cases c : Hn H ≤ i
  · rw [if_pos (by rw [nI_leN (by omega) (by omega)]; exact c), t1]
    have ei : i = Hn H := by omega
    have hv := mcd_8 hW hS
    rw [ei]
    generalize mcd (mi S) (Hn H) = v at hv hK
    refine Lp2_inv (I := fun m a w => ∃ j b, j ≤ cs.length ∧ m = cs.length - j ∧ w = nI j ∧ a = bI b ∧ (b = true ↔ v ∈ cs.take j)) ?_ (m := cs.length) ⟨0, false, by omega, by omega, rfl, rfl, by simp⟩
    rintro m' a' w' ⟨j, b, hj, rfl, rfl, rfl, hb⟩ X' hX'
    by_cases d : cs.length ≤ j
    · rw [if_pos (by rw [nI_leN (by omega) (by omega)]; exact d)]
      rw [List.take_of_length_le d] at hb
      cases b with
      | true =>
        rw [if_neg (by decide)]
        have e : madd cs v = cs := by unfold madd; rw [if_pos (hb.mp rfl)]
        rw [e] at hK
        exact hK σ hM (Fg_r _ _) ⟨t1, t2⟩
      | false =>
        rw [if_pos (by decide)]
        have e : madd cs v = cs ++ [v] := by unfold madd; rw [if_neg (fun q => absurd (hb.mpr q) (by decide))]
        rw [e] at hK
        simp (disch := omega) only [lt, inb_nI, cl_nI, rJ_1, t1, nI_add]
        have f : Fg (fun b j => b = 226 ∨ (b = 204 ∧ j = 40)) σ (jh_setI (jh_setJ σ 226 cs.length (lN v)) 204 40 (nI (cs.length + 1))) := Fg_sI (Fg_sJ (Fg_r _ _) (by omega)) (by omega)
        refine ⟨by omega, hK _ (Ms_g hW hM (show Ly σ from hM.1) f (fun b j q1 q2 => by omega) (fun j => by omega)) (Fg_m f (fun b j q => by unfold PMu; omega)) ⟨by rw [rI_eq, List.length_append]; rfl, fun i u hu => ?_⟩⟩
        rw [rJ_I, rJ]
        by_cases z : i < cs.length
        · rw [List.getElem?_append_left z] at hu
          rw [if_neg (by omega)]
          exact t2 i u hu
        · rw [List.getElem?_append_right (by omega)] at hu
          have z2 : i - cs.length = 0 := by
            have := (List.getElem?_eq_some_iff.mp hu).1
            rw [List.length_singleton] at this
            omega
          rw [z2] at hu
          injection hu with hu
          rw [if_pos ⟨rfl, by omega⟩, ← hu]
          exact ⟨rfl, by omega⟩
    · rw [if_neg (by rw [nI_leN (by omega) (by omega)]; exact d)]
      have hg : cs[j]? = some cs[j] := List.getElem?_eq_getElem (by omega)
      have tk : cs.take (j + 1) = cs.take j ++ [cs[j]] := by rw [List.take_add_one, hg]; rfl
      cases b with
      | true =>
        rw [if_neg (by decide)]
        exact hX' _ _ _ (by omega) ⟨j + 1, true, by omega, rfl, nI_add j 1, rfl, by rw [tk, List.mem_append]; exact ⟨fun _ => Or.inl (hb.mp rfl), fun _ => rfl⟩⟩
      | false =>
        rw [if_pos (by decide)]
        obtain ⟨g1, g2⟩ := t2 j _ hg
        simp (disch := omega) only [inb_nI, cl_nI, g1, lg_cmp_eq, lN_inj]
        refine ⟨by omega, ?_⟩
        have hn : ¬ v ∈ cs.take j := fun q => absurd (hb.mpr q) (by decide)
        by_cases z : cs[j] = v
        · rw [if_pos z]
          exact hX' _ _ _ (by omega) ⟨j + 1, true, by omega, rfl, nI_add j 1, rfl, by rw [tk, List.mem_append]; exact ⟨fun _ => Or.inr (by rw [z]; exact List.mem_singleton.mpr rfl), fun _ => rfl⟩⟩
        · rw [if_neg z]
          exact hX' _ _ _ (by omega) ⟨j + 1, false, by omega, rfl, nI_add j 1, rfl, by
            rw [tk, List.mem_append]
            refine ⟨fun q => (by cases q), fun q => ?_⟩
            rcases q with q | q
            · exact absurd q hn
            · exact absurd (List.mem_singleton.mp q).symm z⟩
  · rw [if_neg (by rw [nI_leN (by omega) (by omega)]; exact c)]
    have b1 := hS.1.1 i (by omega)
    have e : σ.2.1 218 (2379 + i) = nI (mi S i) := hM.2.2.1.2.2.1 i (by omega)
    simp (disch := omega) only [nI_add, inb_nI, cl_nI, e]
    refine ⟨by omega, hX _ _ _ (by omega) ⟨i + 1, by omega, rfl, rfl, ?_⟩⟩
    rw [nI_l (by omega), show (8 : Int64) = lN 8 from rfl, lN_mul, lN_add]
    rfl
set_option maxHeartbeats 1000000 in
theorem m_muddlesFrom {H : Hou} {L : Option Lws} (hW : WH H) : ∀ (m d : Nat), d < m → ∀ (S : Mud) (x : Int32) (cs : List Nat) (σ : JH), d ≤ 2 → cs.length + 28 ^ d ≤ 790 → WS H S → Ms H L S x σ → Mus cs σ → WM (g_Md_muddlesFrom m 0) [.ref 204, .int (nI d)] σ (kV fun s => Ms H L S x s ∧ Fg PMu σ s ∧ Mus (mudR H d S cs) s) := by
  intro m
  induction m with
  | zero => intro d h; omega
  | succ m ih =>
    intro d hd S x cs σ hd2 hcs hS hM hT
    have n8 := hW.1
    refine w_Md_muddlesFrom (g_Md_muddlesFrom m) _ hM.1 ?_
    cases d with
    | zero =>
      rw [if_pos (by decide)]
      exact m_mudLeaf hW hS hM hT (by omega) (fun s g1 g2 g3 => ⟨g1, g2, g3⟩)
    | succ d =>
      rw [if_neg (by rw [nI_eq0 (by omega)]; omega)]
      have h28 := opl_28 S n8
      have hpow : (opl H S).length * 28 ^ d ≤ 28 * 28 ^ d := Nat.mul_le_mul_right _ h28
      rw [Nat.pow_succ] at hcs
      refine nest43 hW hS (fun l t => Ms H L S x t ∧ Fg PMu σ t ∧ ∃ cs', Mus cs' t ∧ cs'.length + l.length * 28 ^ d ≤ 790 ∧ l.foldl (fun cs p => mudR H d (trnC S p) cs) cs' = mudR H (d + 1) S cs) (fun v v' s C => WM q_Md_turns [.ref 204, .int (nI 2376), .int v, .int v'] s (kI fun x16 s17 => Ly s17 ∧ WM (g_Md_muddlesFrom m 0) [.ref 204, .int (nI (d + 1) - nI 1)] s17 (kV fun s18 => Ly s18 ∧ WM q_Md_unturns [.ref 204, .int (nI 2376), .int v, .int v', .int x16] s18 (kV fun s19 => Ly s19 ∧ C (some (.int x16)) s19)))) ⟨hM, Fg_r _ _, cs, hT, by omega, rfl⟩ (fun l s h => Ms_O h.1) (fun s ⟨h1, h2, cs', h3, h4, h5⟩ => ⟨h1, h2, by rw [← h5]; exact h3⟩) ?_
      rintro k e l s hke he hm ⟨h1, h2, cs', h3, h4, h5⟩ C hC
      have hkn : k < Hn H := by omega
      refine m_try hW hS h1 hkn he hm fun t ht hf => ⟨ht.1, ?_⟩
      rw [nI_subN (by omega), Nat.add_sub_cancel]
      have hp : (8 * k + e) / 8 = k ∧ (8 * k + e) % 8 = e := by omega
      rw [List.length_cons, Nat.succ_mul] at h4
      have hlen := mudR_len n8 d (trn S k e) cs'
      refine WM_V (ih d (by omega) (trn S k e) _ cs' t (by omega) (by omega) (WS_trn hS hkn he hm hW) ht (Mus_f hf (by unfold PT; omega) h3)) fun t2 ⟨g1, g2, g3⟩ => ⟨g1.1, ?_⟩
      refine m_untry hW hS g1 hkn he hm fun t3 ht3 hf3 => ⟨ht3.1, ?_⟩
      refine hC _ _ ⟨ht3, Fg_t h2 (Fg_t (Fg_m (Fi_g hf) (fun b j q => Or.inl q)) (Fg_t g2 (Fg_m (Fi_g hf3) (fun b j q => Or.inl q)))), mudR H d (trn S k e) cs', Mus_f hf3 (by unfold PT; omega) g3, by omega, ?_⟩
      rw [List.foldl_cons] at h5
      rw [← h5]
      show _ = l.foldl _ (mudR H d (trn S ((8 * k + e) / 8) ((8 * k + e) % 8)) cs')
      rw [hp.1, hp.2]

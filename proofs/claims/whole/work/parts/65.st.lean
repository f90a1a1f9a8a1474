/-! ===== the whole state, and how class and model hold it ===== -/
abbrev Ful : Type := Mud × Int32 × Sen
abbrev Lin : Type := Nat × Nat × Nat × Nat
abbrev Ste : Type := Hou × Option Lws × (Nat → List Nat) × List Lin × Ful × List (Mud × Int32) × (Nat → Option Ful) × List Nat
abbrev tH (Z : Ste) : Hou := Z.1
abbrev tL (Z : Ste) : Option Lws := Z.2.1
abbrev tN (Z : Ste) : Nat → List Nat := Z.2.2.1
abbrev tP (Z : Ste) : List Lin := Z.2.2.2.1
abbrev tF (Z : Ste) : Ful := Z.2.2.2.2.1
abbrev tU (Z : Ste) : List (Mud × Int32) := Z.2.2.2.2.2.1
abbrev tK (Z : Ste) : Nat → Option Ful := Z.2.2.2.2.2.2.1
abbrev tT (Z : Ste) : List Nat := Z.2.2.2.2.2.2.2
/-- a word's number -/
def wrd (b : Nat) (l : List Nat) : Nat := l.foldl (fun v c => b * v + c) 0
def okN (l : List Nat) : Prop := 1 ≤ l.length ∧ l.length ≤ 8 ∧ ∀ c ∈ l, 1 ≤ c ∧ c ≤ 26
def okP (H : Hou) (q : Lin) : Prop := (q.1 = 1 ∧ q.2.1 < Hn H ∧ Hw H q.2.1 = true) ∨ (q.1 = 2 ∧ q.2.1 < Hn H ∧ q.2.2.1 < Hn H) ∨ (q.1 = 3 ∧ q.2.1 < Hn H ∧ q.2.2.1 < Hn H ∧ q.2.2.2 < Hn H)
def WZ (Z : Ste) : Prop := WH (tH Z) ∧ WS (tH Z) (tF Z).1 ∧ (∀ q ∈ tU Z, WS (tH Z) q.1) ∧ (∀ i q, tK Z i = some q → WS (tH Z) q.1) ∧ (∀ k, k < Hn (tH Z) → okN (tN Z k) ∧ ∀ e, e < k → tN Z e ≠ tN Z k) ∧ (tP Z).length ≤ 30 ∧ (∀ q ∈ tP Z, okP (tH Z) q) ∧ (tU Z).length ≤ 16 ∧ (tT Z).length ≤ 1000 ∧ (∀ c ∈ tT Z, c = 10 ∨ (32 ≤ c ∧ c ≤ 126))
/-! the class -/
def cFu (H : Hou) (q : Ful) (a h : Nat) (σ : JH) : Prop := cM H q.1 a h σ ∧ σ.2.1 a 9 = q.2.1 ∧ cSn H q.2.2 a σ
def cPa (H : Hou) (ps : List (Mud × Int32)) (h : Nat) (σ : JH) : Prop := ∃ pe, pe < 16 ∧ σ.2.1 64 13 = nI pe ∧ σ.2.1 64 14 = nI ps.length ∧ ∀ i q, ps[i]? = some q → cM H q.1 (123 + 4 * ((pe + 16 - ps.length + i) % 16)) h σ ∧ σ.2.1 (123 + 4 * ((pe + 16 - ps.length + i) % 16)) 9 = q.2
def cMk (H : Hou) (mk : Nat → Option Ful) (h : Nat) (σ : JH) : Prop := σ.2.1 64 15 = nI (msk (fun i => (mk i).isSome) 4) ∧ ∀ i q, i < 4 → mk i = some q → cFu H q (188 + 4 * i) h σ
def cPn (ps : List Lin) (pl : Nat) (σ : JH) : Prop := σ.2.1 pl 2 = nI ps.length ∧ ∀ i q, ps[i]? = some q → σ.2.1 (pl + 1) i = nI q.1 ∧ σ.2.1 (pl + 2) (3 * i) = nI q.2.1 ∧ (2 ≤ q.1 → σ.2.1 (pl + 2) (3 * i + 1) = nI q.2.2.1) ∧ (3 ≤ q.1 → σ.2.1 (pl + 2) (3 * i + 2) = nI q.2.2.2)
def cTp (ts : List Nat) (σ : JH) : Prop := σ.2.1 65 1 = nI ts.length ∧ ∀ i c, ts[i]? = some c → σ.2.1 66 i = nI c
def cNm (H : Hou) (nm : Nat → List Nat) (h : Nat) (σ : JH) : Prop := ∀ k, k < Hn H → σ.2.2.1 (h + 1) k = lN (wrd 27 (nm k))
def Rc (Z : Ste) (h pl : Nat) (σ : JH) : Prop := (Ly σ ∧ IsHo h ∧ IsPl pl ∧ rf σ 64 9 = h ∧ rf σ 64 10 = 149 - h ∧ rf σ 64 11 = pl ∧ rf σ 64 12 = 185 - pl) ∧
  cH (tH Z) h σ ∧ cL (lwl (tL Z)) (h + 8) σ ∧ cNm (tH Z) (tN Z) h σ ∧ cFu (tH Z) (tF Z) 114 h σ ∧ cPa (tH Z) (tU Z) h σ ∧ cMk (tH Z) (tK Z) h σ ∧ cPn (tP Z) pl σ ∧ cTp (tT Z) σ
/-! the model -/
def mSb (H : Hou) (sn : Sen) (b : Nat) (s : JH) : Prop := s.2.1 218 (b + 91) = nI sn.length ∧ sn.length ≤ 8 ∧ ∀ i q, sn[i]? = some q → s.2.1 218 (b + (92 + 2 * i)) = nI q.1 ∧ s.2.1 218 (b + (92 + 2 * i + 1)) = nI q.2 ∧ q.1 < Hn H ∧ q.2 < Hn H
theorem mSb_0 {H : Hou} {sn : Sen} {s : JH} (h : mSb H sn 0 s) : mSn H sn s := by
  obtain ⟨h1, h2, h3⟩ := h
  rw [Nat.zero_add] at h1
  exact ⟨h1, h2, fun i q e => by have := h3 i q e; rw [Nat.zero_add, Nat.zero_add] at this; exact this⟩
theorem mSn_0 {H : Hou} {sn : Sen} {s : JH} (h : mSn H sn s) : mSb H sn 0 s := by
  obtain ⟨h1, h2, h3⟩ := h
  exact ⟨by rw [Nat.zero_add]; exact h1, h2, fun i q e => by rw [Nat.zero_add, Nat.zero_add]; exact h3 i q e⟩
def mFu (H : Hou) (q : Ful) (b : Nat) (σ : JH) : Prop := mM H q.1 b σ ∧ σ.2.1 218 (b + 1) = q.2.1 ∧ mSb H q.2.2 b σ
def mPa (H : Hou) (ps : List (Mud × Int32)) (σ : JH) : Prop := σ.2.1 204 24 = nI ps.length ∧ ∀ i q, ps[i]? = some q → mM H q.1 (108 * (5 + i)) σ ∧ σ.2.1 218 (108 * (5 + i) + 1) = q.2
def mMk (H : Hou) (mk : Nat → Option Ful) (σ : JH) : Prop := (∀ i, i < 4 → σ.2.1 219 i = bI (mk i).isSome) ∧ ∀ i q, i < 4 → mk i = some q → mFu H q (108 * (1 + i)) σ
def wht (m : Nat) : Nat := if m = 2 then 0 else if m = 3 then 1 else 2
def mPn (ps : List Lin) (σ : JH) : Prop := σ.2.1 215 0 = nI ps.length ∧ ∀ i q, ps[i]? = some q → σ.2.1 215 (1 + 4 * i) = nI (wht q.1) ∧ σ.2.1 215 (1 + 4 * i + 1) = nI q.2.1 ∧ (2 ≤ q.1 → σ.2.1 215 (1 + 4 * i + 2) = nI q.2.2.1) ∧ (3 ≤ q.1 → σ.2.1 215 (1 + 4 * i + 3) = nI q.2.2.2)
def mTp (ts : List Nat) (σ : JH) : Prop := σ.2.1 204 2 = nI ts.length ∧ ∀ i c, ts[i]? = some c → σ.2.1 205 i = nI c
def mNm (H : Hou) (nm : Nat → List Nat) (σ : JH) : Prop := σ.2.1 204 16 = nI (Hn H) ∧ ∀ k, k < Hn H → σ.2.2.1 213 k = lN (wrd 37 (nm k))
/-- the words that mean something -/
def wdl : List (List Nat) := [[16, 5, 18, 19, 15, 14], [14, 5, 23], [16, 18, 9, 3, 5], [18, 9, 14, 7], [2, 5, 5, 14], [2, 1, 18], [15, 6, 20, 5, 14], [3, 15, 19, 20, 19], [20, 21, 18, 14], [18, 15, 21, 14, 4], [6, 5, 20, 3, 8], [16, 12, 1, 9, 14], [9, 12, 12], [19, 8, 25], [3, 1, 20], [14, 15, 20], [1, 14, 4], [15, 18], [23, 18, 15, 14, 7], [20, 21, 18, 14, 19], [13, 5, 20]]
/-- counts that the model keeps, and its words -/
def mCt (H : Hou) (σ : JH) : Prop := σ.2.1 210 2 = nI (cntB (Hw H) (Hn H)) ∧ σ.2.1 210 3 = nI (prs (Hx H) (Hn H)) ∧ ∀ j w, wdl[j]? = some w → σ.2.2.1 209 j = lN (wrd 37 w)
def Rm (Z : Ste) (σ : JH) : Prop := Ly σ ∧ mHL (tH Z) (tL Z) σ ∧ mCt (tH Z) σ ∧ mNm (tH Z) (tN Z) σ ∧ mFu (tH Z) (tF Z) 0 σ ∧ mPa (tH Z) (tU Z) σ ∧ mMk (tH Z) (tK Z) σ ∧ mPn (tP Z) σ ∧ mTp (tT Z) σ
/-! what may change without a trace: the class's rooms for trying, the model's -/
def PcT (b _j : Nat) : Prop := (97 ≤ b ∧ b < 114) ∨ (118 ≤ b ∧ b < 122) ∨ b = 79 ∨ b = 90
def PmT (b j : Nat) : Prop := (b = 204 ∧ j ≠ 2 ∧ j ≠ 16 ∧ j ≠ 24) ∨ b = 216 ∨ b = 217 ∨ (b = 218 ∧ 2268 ≤ j) ∨ (220 ≤ b ∧ b < 229) ∨ (206 ≤ b ∧ b ≤ 208) ∨ b = 214
theorem cM_g {H : Hou} {S : Mud} {a h : Nat} {s t : JH} {P : Nat → Nat → Prop} (f : Fg P s t) (h1 : ∀ b j, a ≤ b → b < a + 4 → ¬ P b j) (q : cM H S a h s) : cM H S a h t := by
  have g : cMx H S (opn H S) (ast H S) a h (s.1, t.2.1, s.2.2) := cMx_f (Fg_i f) (fun j _ => h1 a j (by omega) (by omega)) (fun b j g1 g2 => h1 b j (by omega) g2) q
  obtain ⟨m0, m1⟩ := g
  refine ⟨?_, m1⟩
  rw [← m0]
  show (t.2.2.2 a 3).getD 0 = (s.2.2.2 a 3).getD 0
  rw [f.2.2.2 a 3 (h1 a 3 (by omega) (by omega))]
theorem cFu_g {H : Hou} {q : Ful} {a h : Nat} {s t : JH} {P : Nat → Nat → Prop} (f : Fg P s t) (h1 : ∀ b j, a ≤ b → b < a + 4 → ¬ P b j) (z : cFu H q a h s) : cFu H q a h t :=
  ⟨cM_g f h1 z.1, (f.2.1 _ _ (h1 a 9 (by omega) (by omega))).trans z.2.1, (f.2.2.1 _ _ (h1 a 10 (by omega) (by omega))).trans z.2.2.1, (f.2.1 _ _ (h1 a 11 (by omega) (by omega))).trans z.2.2.2.1, z.2.2.2.2⟩
theorem pl_is {pl : Nat} (q : IsPl pl) : pl = 91 ∨ pl = 94 := q
theorem cPa_g {H : Hou} {ps : List (Mud × Int32)} {h : Nat} {s t : JH} {P : Nat → Nat → Prop} (f : Fg P s t) (h0 : ¬ P 64 13 ∧ ¬ P 64 14) (h1 : ∀ b j, 123 ≤ b → b < 187 → ¬ P b j) (z : cPa H ps h s) : cPa H ps h t := by
  obtain ⟨pe, z1, z2, z3, z4⟩ := z
  refine ⟨pe, z1, (f.2.1 _ _ h0.1).trans z2, (f.2.1 _ _ h0.2).trans z3, fun i q e => ?_⟩
  have hlt : (pe + 16 - ps.length + i) % 16 < 16 := Nat.mod_lt _ (by omega)
  obtain ⟨a, b⟩ := z4 i q e
  exact ⟨cM_g f (fun b j g1 g2 => h1 b j (by omega) (by omega)) a, (f.2.1 _ _ (h1 _ _ (by omega) (by omega))).trans b⟩
theorem cMk_g {H : Hou} {mk : Nat → Option Ful} {h : Nat} {s t : JH} {P : Nat → Nat → Prop} (f : Fg P s t) (h0 : ¬ P 64 15) (h1 : ∀ b j, 188 ≤ b → b < 204 → ¬ P b j) (z : cMk H mk h s) : cMk H mk h t := ⟨(f.2.1 _ _ h0).trans z.1, fun i q hi e => cFu_g f (fun b j g1 g2 => h1 b j (by omega) (by omega)) (z.2 i q hi e)⟩
theorem cPn_g {ps : List Lin} {pl : Nat} {s t : JH} {P : Nat → Nat → Prop} (f : Fg P s t) (h1 : ∀ b j, pl ≤ b → b < pl + 3 → ¬ P b j) (z : cPn ps pl s) : cPn ps pl t := ⟨(f.2.1 _ _ (h1 _ _ (by omega) (by omega))).trans z.1, fun i q e => by
  obtain ⟨a, b, c, d⟩ := z.2 i q e
  exact ⟨(f.2.1 _ _ (h1 _ _ (by omega) (by omega))).trans a, (f.2.1 _ _ (h1 _ _ (by omega) (by omega))).trans b, fun g => (f.2.1 _ _ (h1 _ _ (by omega) (by omega))).trans (c g), fun g => (f.2.1 _ _ (h1 _ _ (by omega) (by omega))).trans (d g)⟩⟩
theorem cTp_g {ts : List Nat} {s t : JH} {P : Nat → Nat → Prop} (f : Fg P s t) (h1 : ¬ P 65 1) (h2 : ∀ j, ¬ P 66 j) (z : cTp ts s) : cTp ts t := ⟨(f.2.1 _ _ h1).trans z.1, fun i c e => (f.2.1 _ _ (h2 i)).trans (z.2 i c e)⟩
theorem cNm_g {H : Hou} {nm : Nat → List Nat} {h : Nat} {s t : JH} {P : Nat → Nat → Prop} (f : Fg P s t) (h1 : ∀ j, ¬ P (h + 1) j) (z : cNm H nm h s) : cNm H nm h t := fun k hk => (f.2.2.1 _ _ (h1 k)).trans (z k hk)
theorem cL_g {M : Lws} {la : Nat} {s t : JH} {P : Nat → Nat → Prop} (f : Fg P s t) (h1 : ¬ P la 2) (h2 : ∀ j, ¬ P (la + 1) j) (q : cL M la s) : cL M la t := by
  have g : cL M la (s.1, t.2.1, s.2.2) := cL_f (Fg_i f) h1 h2 q
  exact g
/-- only rooms outside the class's state changed -/
theorem Rc_f {Z : Ste} {h pl : Nat} {s t : JH} {P : Nat → Nat → Prop} (z : Rc Z h pl s) (f : Fg P s t) (hl : Ly t) (hP : ∀ b j, 64 ≤ b → b < 204 → P b j → PcT b j) : Rc Z h pl t := by
  obtain ⟨⟨l0, l1, l2, l3, l4, l5, l6⟩, z1, z2, z3, z4, z5, z6, z7, z8⟩ := z
  have hh := ho_is l1
  have hp := pl_is l2
  have no : ∀ b j, 64 ≤ b → b < 204 → ¬ PcT b j → ¬ P b j := fun b j g1 g2 g3 g4 => g3 (hP b j g1 g2 g4)
  have r : ∀ j, rf t 64 j = rf s 64 j := fun j => by
    show (t.2.2.2 64 j).getD 0 = (s.2.2.2 64 j).getD 0
    rw [f.2.2.2 64 j (no _ _ (by omega) (by omega) (by unfold PcT; omega))]
  refine ⟨⟨hl, l1, l2, (r 9).trans l3, (r 10).trans l4, (r 11).trans l5, (r 12).trans l6⟩, cH_g f (fun b j g1 g2 => no b j (by omega) (by omega) (by unfold PcT; omega)) z1, cL_g f (no _ _ (by omega) (by omega) (by unfold PcT; omega)) (fun j => no _ _ (by omega) (by omega) (by unfold PcT; omega)) z2, cNm_g f (fun j => no _ _ (by omega) (by omega) (by unfold PcT; omega)) z3, cFu_g f (fun b j g1 g2 => no b j (by omega) (by omega) (by unfold PcT; omega)) z4, cPa_g f ⟨no _ _ (by omega) (by omega) (by unfold PcT; omega), no _ _ (by omega) (by omega) (by unfold PcT; omega)⟩ (fun b j g1 g2 => no b j (by omega) (by omega) (by unfold PcT; omega)) z5, cMk_g f (no _ _ (by omega) (by omega) (by unfold PcT; omega)) (fun b j g1 g2 => no b j (by omega) (by omega) (by unfold PcT; omega)) z6, cPn_g f (fun b j g1 g2 => no b j (by omega) (by omega) (by unfold PcT; omega)) z7, cTp_g f (no _ _ (by omega) (by omega) (by unfold PcT; omega)) (fun j => no _ _ (by omega) (by omega) (by unfold PcT; omega)) z8⟩
/-! the model's frame -/
theorem mM_g {H : Hou} {S : Mud} {b : Nat} {s t : JH} {P : Nat → Nat → Prop} (n8 : Hn H ≤ 8) (f : Fg P s t) (hP : ∀ j, b ≤ j → j < b + 91 → ¬ P 218 j) (q : mM H S b s) : mM H S b t := by
  have g : mM H S b (s.1, t.2.1, s.2.2) := mM_f n8 (Fg_i f) (fun j h1 h2 _ => hP j h1 h2) q
  exact g
theorem mSb_g {H : Hou} {sn : Sen} {b : Nat} {s t : JH} {P : Nat → Nat → Prop} (f : Fg P s t) (hP : ∀ j, b ≤ j → j < b + 108 → ¬ P 218 j) (q : mSb H sn b s) : mSb H sn b t := by
  obtain ⟨h1, h2, h3⟩ := q
  refine ⟨(f.2.1 _ _ (hP _ (by omega) (by omega))).trans h1, h2, fun i q e => ?_⟩
  have hi := (List.getElem?_eq_some_iff.mp e).1
  obtain ⟨a, b, c⟩ := h3 i q e
  exact ⟨(f.2.1 _ _ (hP _ (by omega) (by omega))).trans a, (f.2.1 _ _ (hP _ (by omega) (by omega))).trans b, c⟩
theorem mFu_g {H : Hou} {q : Ful} {b : Nat} {s t : JH} {P : Nat → Nat → Prop} (n8 : Hn H ≤ 8) (f : Fg P s t) (hP : ∀ j, b ≤ j → j < b + 108 → ¬ P 218 j) (z : mFu H q b s) : mFu H q b t := ⟨mM_g n8 f (fun j h1 h2 => hP j h1 (by omega)) z.1, (f.2.1 _ _ (hP _ (by omega) (by omega))).trans z.2.1, mSb_g f hP z.2.2⟩
theorem mPa_g {H : Hou} {ps : List (Mud × Int32)} {s t : JH} {P : Nat → Nat → Prop} (n8 : Hn H ≤ 8) (hl : ps.length ≤ 16) (f : Fg P s t) (h0 : ¬ P 204 24) (hP : ∀ j, 540 ≤ j → j < 2268 → ¬ P 218 j) (z : mPa H ps s) : mPa H ps t := ⟨(f.2.1 _ _ h0).trans z.1, fun i q e => by
  have hi := (List.getElem?_eq_some_iff.mp e).1
  obtain ⟨a, b⟩ := z.2 i q e
  exact ⟨mM_g n8 f (fun j h1 h2 => hP j (by omega) (by omega)) a, (f.2.1 _ _ (hP _ (by omega) (by omega))).trans b⟩⟩
theorem mMk_g {H : Hou} {mk : Nat → Option Ful} {s t : JH} {P : Nat → Nat → Prop} (n8 : Hn H ≤ 8) (f : Fg P s t) (h0 : ∀ j, ¬ P 219 j) (hP : ∀ j, 108 ≤ j → j < 540 → ¬ P 218 j) (z : mMk H mk s) : mMk H mk t := ⟨fun i hi => (f.2.1 _ _ (h0 i)).trans (z.1 i hi), fun i q hi e => mFu_g n8 f (fun j h1 h2 => hP j (by omega) (by omega)) (z.2 i q hi e)⟩
theorem mPn_g {ps : List Lin} {s t : JH} {P : Nat → Nat → Prop} (hl : ps.length ≤ 30) (f : Fg P s t) (h1 : ∀ j, j < 121 → ¬ P 215 j) (z : mPn ps s) : mPn ps t := ⟨(f.2.1 _ _ (h1 _ (by omega))).trans z.1, fun i q e => by
  have hi := (List.getElem?_eq_some_iff.mp e).1
  obtain ⟨a, b, c, d⟩ := z.2 i q e
  exact ⟨(f.2.1 _ _ (h1 _ (by omega))).trans a, (f.2.1 _ _ (h1 _ (by omega))).trans b, fun g => (f.2.1 _ _ (h1 _ (by omega))).trans (c g), fun g => (f.2.1 _ _ (h1 _ (by omega))).trans (d g)⟩⟩
theorem Rm_f {Z : Ste} {s t : JH} {P : Nat → Nat → Prop} (hZ : WZ Z) (z : Rm Z s) (f : Fg P s t) (hl : Ly t) (hP : ∀ b j, 204 ≤ b → b < 229 → P b j → PmT b j) : Rm Z t := by
  obtain ⟨z0, z1, z2, z3, z4, z5, z6, z7, z8⟩ := z
  obtain ⟨w1, w2, w3, w4, w5, w6, w7, w8, w9, w10⟩ := hZ
  have n8 := w1.1
  have no : ∀ b j, 204 ≤ b → b < 229 → ¬ PmT b j → ¬ P b j := fun b j g1 g2 g3 g4 => g3 (hP b j g1 g2 g4)
  have g1 : mHL (tH Z) (tL Z) (s.1, t.2.1, s.2.2) := mHL_f (Fg_i f) (fun b j h1 h2 => no b j (by omega) (by omega) (by unfold PmT; omega)) z1
  refine ⟨hl, g1, ⟨(f.2.1 _ _ (no _ _ (by omega) (by omega) (by unfold PmT; omega))).trans z2.1, (f.2.1 _ _ (no _ _ (by omega) (by omega) (by unfold PmT; omega))).trans z2.2.1, fun j w e => (f.2.2.1 _ _ (no _ _ (by omega) (by omega) (by unfold PmT; omega))).trans (z2.2.2 j w e)⟩, ⟨(f.2.1 _ _ (no _ _ (by omega) (by omega) (by unfold PmT; omega))).trans z3.1, fun k hk => (f.2.2.1 _ _ (no _ _ (by omega) (by omega) (by unfold PmT; omega))).trans (z3.2 k hk)⟩, mFu_g n8 f (fun j _ _ => no _ _ (by omega) (by omega) (by unfold PmT; omega)) z4, mPa_g n8 w8 f (no _ _ (by omega) (by omega) (by unfold PmT; omega)) (fun j _ _ => no _ _ (by omega) (by omega) (by unfold PmT; omega)) z5, mMk_g n8 f (fun j => no _ _ (by omega) (by omega) (by unfold PmT; omega)) (fun j _ _ => no _ _ (by omega) (by omega) (by unfold PmT; omega)) z6, mPn_g w6 f (fun j _ => no _ _ (by omega) (by omega) (by unfold PmT; omega)) z7, ⟨(f.2.1 _ _ (no _ _ (by omega) (by omega) (by unfold PmT; omega))).trans z8.1, fun i c e => (f.2.1 _ _ (no _ _ (by omega) (by omega) (by unfold PmT; omega))).trans (z8.2 i c e)⟩⟩
theorem Rc_Cs {Z : Ste} {h pl : Nat} {s : JH} (z : Rc Z h pl s) : Cs (tH Z) (tF Z).1 114 h s := ⟨z.1.1, z.1.2.1, z.2.1, z.2.2.2.2.1.1⟩
theorem Rm_Mb {Z : Ste} {s : JH} (z : Rm Z s) : Mb (tH Z) (tL Z) (tF Z).1 (tF Z).2.1 s := ⟨z.1, z.2.1, z.2.2.2.2.1.1, z.2.2.2.2.1.2.1⟩
/-- a call that only answers -/
def OkC (f : JF) (vs : List Value) (Z : Ste) (h pl : Nat) (x : Int32) (σ : JH) : Prop := WM f vs σ (kI fun y s => y = x ∧ Rc Z h pl s ∧ Fg (fun b _ => 64 ≤ b ∧ b < 204) σ s)
def OkM (f : JF) (vs : List Value) (Z : Ste) (x : Int32) (σ : JH) : Prop := WM f vs σ (kI fun y s => y = x ∧ Rm Z s ∧ Fg (fun b _ => 204 ≤ b ∧ b < 229) σ s)
theorem WM_E {f : JF} {vs : List Value} {σ : JH} {x : Int32} {F : Int32 → JH → Prop} (h : f vs σ = some (some (.int x), σ)) (q : F x σ) : WM f vs σ (kI F) := ⟨some (.int x), σ, h, x, rfl, q⟩
theorem OkC_e {f : JF} {vs : List Value} {Z : Ste} {h pl : Nat} {x : Int32} {σ : JH} (z : Rc Z h pl σ) (q : f vs σ = some (some (.int x), σ)) : OkC f vs Z h pl x σ := WM_E q ⟨rfl, z, Fg_r _ _⟩
/-- the model first says that nothing was thrown -/
theorem Rm_thr {Z : Ste} {s : JH} {x : Int32} (hZ : WZ Z) (z : Rm Z s) : Rm Z (jh_setI s 204 0 x) ∧ Fg (fun b _ => 204 ≤ b ∧ b < 229) s (jh_setI s 204 0 x) := by
  have f : Fi (fun b j => b = 204 ∧ j = 0) s (jh_setI s 204 0 x) := Fi_s (Fi_r _ _) ⟨rfl, rfl⟩
  exact ⟨Rm_f hZ z (Fi_g f) (Fi_ly f z.1) (fun b j _ _ q => by unfold PmT; omega), Fg_m (Fi_g f) (fun b j q => by omega)⟩

/-! ===== evening: its lines as functions, and the class ===== -/
section EV1
variable {s t σ : JH} {ts : List Nat} {n k h pl : Nat} {H : Hou} {nm : Nat → List Nat} {ps : List Lin} {T : Tok}
def wts (T : Tok) : Nat := if isW 8 T = true then 2 else if isW 9 T = true then 3 else if isW 10 T = true then 1 else 0
def evF (H : Hou) (m : Nat) : Nat → Bool := fun p => if m = 1 then Hw H p else true
def bdR (ts : List Nat) (nm : Nat → List Nat) (H : Hou) (m : Nat) : Nat → Nat → List Nat → Nat ⊕ List Nat
  | 0, _, xs => .inr xs
  | f + 1, k, xs => match tld ts nm (Hn H) (evF H m) k with
    | .inl e => .inl e
    | .inr p => if p ∈ xs then .inl (flt 3 (tok ts k)) else bdR ts nm H m f (k + 1) (xs ++ [p])
def lnE (m : Nat) (xs : List Nat) : Lin := (m, xs.getD 0 0, xs.getD 1 0, xs.getD 2 0)
abbrev PE : Type := Nat ⊕ (Nat × List Lin)
def plE (ts : List Nat) (nm : Nat → List Nat) (H : Hou) (k : Nat) (ps : List Lin) : PE := if wts (tok ts k) = 0 then .inl (flt 1 (tok ts k)) else if 30 ≤ ps.length then .inl (flt 5 (tok ts k)) else match bdR ts nm H (wts (tok ts k)) (wts (tok ts k)) (k + 1) [] with
  | .inl e => .inl e
  | .inr xs => .inr (k + 1 + wts (tok ts k), ps ++ [lnE (wts (tok ts k)) xs])
def smE (ts : List Nat) (r : PE) : PE := match r with
  | .inl e => .inl e
  | .inr q => if isS 59 (tok ts q.1) = true then .inr (q.1 + 1, q.2) else .inl (flt 1 (tok ts q.1))
def evTo (ts : List Nat) (nm : Nat → List Nat) (H : Hou) : Nat → Nat → List Lin → Nat ⊕ List Lin
  | 0, _, ps => .inr ps
  | f + 1, k, ps => if Tk (tok ts k) = 0 then .inr ps else match smE ts (plE ts nm H k ps) with
    | .inl e => .inl e
    | .inr q => evTo ts nm H f q.1 q.2
def okE (n k : Nat) (H : Hou) (r : PE) : Prop := match r with
  | .inl e => 1 ≤ e ∧ e < 20000
  | .inr q => k < q.1 ∧ q.1 ≤ n ∧ q.2.length ≤ 30 ∧ ∀ l ∈ q.2, okP H l
theorem wts_k (h : wts T ≠ 0) : Tk T ≠ 0 := by
  unfold wts at h
  by_cases c : isW 8 T = true
  · exact isW_k c
  · rw [if_neg c] at h
    by_cases c : isW 9 T = true
    · exact isW_k c
    · rw [if_neg c] at h
      by_cases c : isW 10 T = true
      · exact isW_k c
      · rw [if_neg c] at h; exact absurd rfl h
theorem wts_3 : wts T ≤ 3 := by
  unfold wts
  split
  · omega
  · split
    · omega
    · split <;> omega
theorem bdR_ok (ok : okTp ts) (hn : Tk (tok ts n) = 0) {m : Nat} : ∀ (f k : Nat) (xs : List Nat), k ≤ n → (∀ p ∈ xs, p < Hn H ∧ evF H m p = true) → match bdR ts nm H m f k xs with
    | .inl e => 1 ≤ e ∧ e < 20000
    | .inr ys => k + f ≤ n ∧ ys.length = xs.length + f ∧ ∀ p ∈ ys, p < Hn H ∧ evF H m p = true := by
  intro f
  induction f with
  | zero => intro k xs hk hx; exact ⟨hk, rfl, hx⟩
  | succ f ih =>
    intro k xs hk hx
    unfold bdR
    obtain ⟨t1, t2⟩ := tld_ok (nm := nm) (m := Hn H) (F := evF H m) (k := k) ok
    cases e : tld ts nm (Hn H) (evF H m) k with
    | inl x => exact t1 x e
    | inr p =>
      obtain ⟨a1, a2, a3, a4⟩ := t2 p e
      show match (if p ∈ xs then Sum.inl (flt 3 (tok ts k)) else bdR ts nm H m f (k + 1) (xs ++ [p])) with
        | .inl e => 1 ≤ e ∧ e < 20000
        | .inr ys => k + (f + 1) ≤ n ∧ ys.length = xs.length + (f + 1) ∧ ∀ p ∈ ys, p < Hn H ∧ evF H m p = true
      by_cases c : p ∈ xs
      · rw [if_pos c]
        exact ⟨flt_pos (by omega), flt_lt ok (by omega)⟩
      · rw [if_neg c]
        have h1 := ih (k + 1) (xs ++ [p]) (tk_lt hn hk (nam_k a1)) (fun x hx' => by
          rcases List.mem_append.mp hx' with h | h
          · exact hx x h
          · rw [List.mem_singleton.mp h]; exact ⟨a2, a4⟩)
        cases e2 : bdR ts nm H m f (k + 1) (xs ++ [p]) with
        | inl x => rw [e2] at h1; exact h1
        | inr ys =>
          rw [e2] at h1
          obtain ⟨b1, b2, b3⟩ := h1
          rw [List.length_append] at b2
          have b2 : ys.length = xs.length + 1 + f := b2
          exact ⟨by omega, by omega, b3⟩
theorem plE_ok (ok : okTp ts) (hn : Tk (tok ts n) = 0) (hk : k ≤ n) (h30 : ps.length ≤ 30) (hps : ∀ l ∈ ps, okP H l) : okE n k H (plE ts nm H k ps) := by
  unfold plE
  by_cases c : wts (tok ts k) = 0
  · rw [if_pos c]; exact ⟨flt_pos (by omega), flt_lt ok (by omega)⟩
  · rw [if_neg c]
    by_cases d : 30 ≤ ps.length
    · rw [if_pos d]; exact ⟨flt_pos (by omega), flt_lt ok (by omega)⟩
    · rw [if_neg d]
      have h3 := wts_3 (T := tok ts k)
      have hb := bdR_ok (H := H) (nm := nm) (m := wts (tok ts k)) ok hn (wts (tok ts k)) (k + 1) [] (tk_lt hn hk (wts_k c)) (fun p h => by cases h)
      generalize wts (tok ts k) = m at *
      cases e : bdR ts nm H m m (k + 1) [] with
      | inl x => rw [e] at hb; exact hb
      | inr xs =>
        rw [e] at hb
        obtain ⟨b1, b2, b3⟩ := hb
        refine ⟨by show k < k + 1 + m; omega, b1, ?_, fun l hl => ?_⟩
        · show (ps ++ [lnE m xs]).length ≤ 30
          rw [List.length_append]
          show ps.length + 1 ≤ 30
          omega
        · rcases List.mem_append.mp hl with h | h
          · exact hps l h
          · rw [List.mem_singleton.mp h]
            have b2 : xs.length = 0 + m := b2
            have gd : ∀ i, i < m → xs.getD i 0 < Hn H ∧ evF H m (xs.getD i 0) = true := fun i hi => by
              have hi' : i < xs.length := by omega
              rw [List.getD_eq_getElem?_getD, List.getElem?_eq_getElem hi']
              exact b3 _ (List.getElem_mem hi')
            rcases (show m = 1 ∨ m = 2 ∨ m = 3 by omega) with rfl | rfl | rfl
            · exact Or.inl ⟨rfl, gd 0 (by omega)⟩
            · exact Or.inr (Or.inl ⟨rfl, (gd 0 (by omega)).1, (gd 1 (by omega)).1⟩)
            · exact Or.inr (Or.inr ⟨rfl, (gd 0 (by omega)).1, (gd 1 (by omega)).1, (gd 2 (by omega)).1⟩)
theorem smE_ok {r : PE} (ok : okTp ts) (hn : Tk (tok ts n) = 0) (h : okE n k H r) : okE n k H (smE ts r) := by
  cases r with
  | inl e => exact h
  | inr q =>
    obtain ⟨h1, h2, h3⟩ := h
    show okE n k H (if isS 59 (tok ts q.1) = true then .inr (q.1 + 1, q.2) else .inl (flt 1 (tok ts q.1)))
    by_cases c : isS 59 (tok ts q.1) = true
    · rw [if_pos c]; exact ⟨by show k < q.1 + 1; omega, tk_lt hn h2 (isS_k c), h3⟩
    · rw [if_neg c]; exact ⟨flt_pos (by omega), flt_lt ok (by omega)⟩
theorem evTo_ok (ok : okTp ts) (hn : Tk (tok ts n) = 0) : ∀ (f k : Nat) (ps : List Lin), k ≤ n → ps.length ≤ 30 → (∀ l ∈ ps, okP H l) → match evTo ts nm H f k ps with
    | .inl e => 1 ≤ e ∧ e < 20000
    | .inr qs => qs.length ≤ 30 ∧ ∀ l ∈ qs, okP H l := by
  intro f
  induction f with
  | zero => intro k ps _ h1 h2; exact ⟨h1, h2⟩
  | succ f ih =>
    intro k ps hk h1 h2
    unfold evTo
    by_cases c : Tk (tok ts k) = 0
    · rw [if_pos c]; exact ⟨h1, h2⟩
    · rw [if_neg c]
      have hb := smE_ok ok hn (plE_ok (nm := nm) ok hn hk h1 h2)
      cases e : smE ts (plE ts nm H k ps) with
      | inl x => rw [e] at hb; exact hb
      | inr q => rw [e] at hb; exact ih q.1 q.2 hb.2.1 hb.2.2.1 hb.2.2.2
/-! the class -/
theorem c_namesOf (q : cRd ts k σ) : q_Re_namesOf [.ref (rf σ 65 4)] σ = some (some (.int (nI (wts (tok ts k)))), σ) := by
  obtain ⟨o1, o2, o3⟩ := c_swx q
  have hw : rf σ 65 4 < 22 := by rw [q.2.2.2.1.2.2.1]; exact wo_lt
  refine WE_o (w_Re_namesOf _ q.1 hw (WE_i o1 ⟨o2, ?_⟩))
  rw [o3]
  generalize tok ts k = T
  unfold wts
  by_cases c1 : isW 8 T = true
  · rw [if_pos (by rw [swx_is (j := 8) (by decide)]; exact c1), if_pos c1]
  rw [if_neg (by rw [swx_is (j := 8) (by decide)]; exact c1), if_neg c1]
  by_cases c2 : isW 9 T = true
  · rw [if_pos (by rw [swx_is (j := 9) (by decide)]; exact c2), if_pos c2]
  rw [if_neg (by rw [swx_is (j := 9) (by decide)]; exact c2), if_neg c2]
  by_cases c3 : isW 10 T = true
  · rw [if_pos (by rw [swx_is (j := 10) (by decide)]; exact c3), if_pos c3]
  rw [if_neg (by rw [swx_is (j := 10) (by decide)]; exact c3), if_neg c3]
def PPn (pl b j : Nat) : Prop := (b = 65 ∧ 2 ≤ j) ∨ (pl ≤ b ∧ b < pl + 3)
def PPo (pl b _j : Nat) : Prop := pl ≤ b ∧ b < pl + 3
def CE (ts : List Nat) (pl : Nat) (r : PE) (y : Int32) (s : JH) : Prop := match r with
  | .inl e => y = nI 0 ∧ s.2.1 65 8 = nI e
  | .inr q => y = nI 1 ∧ cRd ts q.1 s ∧ cPn q.2 pl s
def KE (ts : List Nat) (pl : Nat) (σ : JH) (r : PE) (y : Int32) (s : JH) : Prop := Ly s ∧ (y = 0 ∨ y = 1) ∧ Fg (PPn pl) σ s ∧ CE ts pl r y s
/-- the house that stays as it is -/
def cEh (H : Hou) (nm : Nat → List Nat) (h : Nat) (σ : JH) : Prop := cH H h σ ∧ cNm H nm h σ
theorem cEh_g {P : Nat → Nat → Prop} (f : Fg P s t) (hP : ∀ b j, h ≤ b → b < h + 8 → ¬ P b j) (z : cEh H nm h s) : cEh H nm h t := ⟨cH_g f hP z.1, cNm_g f (fun j => hP _ _ (by omega) (by omega)) z.2⟩
theorem cEh_p (hh : IsHo h) (hp : IsPl pl) (f : Fg (PPn pl) s t) (z : cEh H nm h s) : cEh H nm h t := by
  have h1 := ho_lt hh
  have h2 := pl_is hp
  exact cEh_g f (fun b j g1 g2 => by unfold PPn; omega) z
theorem Fg_8p (f : Fg PT8 s t) : Fg (PPn pl) s t := Fg_m f (fun b j q => Or.inl q)
theorem Fg_7p (f : Fg PT7 s t) : Fg (PPn pl) s t := Fg_8p (Fg_78' f)
theorem Fg_op (f : Fg (PPo pl) s t) : Fg (PPn pl) s t := Fg_m f (fun b j q => Or.inr q)
theorem cRd_p (hp : IsPl pl) (f : Fg (PPo pl) s t) (hl : Ly t) (q : cRd ts k s) : cRd ts k t := by
  have := pl_is hp
  exact cRd_g f hl (fun b j h => by unfold PPo; omega) q
theorem cPn_8 (hp : IsPl pl) (f : Fg PT8 s t) (z : cPn ps pl s) : cPn ps pl t := by
  have := pl_is hp
  exact cPn_g f (fun b j h1 h2 => by unfold PT8; omega) z
theorem c_evb {m : Nat} (hl : Ly σ) (hh : IsHo h) (hW : WH H) (z : cH H h σ) (hm : m ≠ 0) {B : Int32 → Prop} (hB : B (nI (msk (evF H m) (Hn H)))) (hm3 : m ≤ 3) : (if nI m = nI 1 then B (σ.2.1 h 9) else WE q_Ho_allBits [.ref h] σ (fun x => B x)) := by
  have n8 := hW.1
  by_cases c : m = 1
  · rw [if_pos (by rw [c]), z.2.1]
    have : msk (evF H m) (Hn H) = msk (Hw H) (Hn H) := msk_ext (fun k hk => by unfold evF; rw [if_pos c])
    rw [this] at hB
    exact hB
  · rw [if_neg (by rw [nI_eqN (by omega) (by omega)]; exact c)]
    refine w_Ho_allBits h hl hh ?_
    rw [z.1, all_bits _ (by omega), ← msk_true]
    have : msk (evF H m) (Hn H) = msk (fun _ => true) (Hn H) := msk_ext (fun k hk => by unfold evF; rw [if_neg c])
    rw [this] at hB
    exact hB
end EV1

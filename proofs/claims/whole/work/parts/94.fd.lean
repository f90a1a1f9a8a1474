/-! ===== feed ===== -/
section FD
variable {Z : Ste} {h pl : Nat} {s t σ : JH} {P : Nat → Nat → Prop}
abbrev zT (Z : Ste) (ts : List Nat) : Ste := (tH Z, tL Z, tN Z, tP Z, tF Z, tU Z, tK Z, ts)
theorem Rc_tp {ts : List Nat} (z : Rc Z h pl s) (f : Fg P s t) (hl : Ly t) (hP : ∀ b j, 64 ≤ b → b < 204 → P b j → PcT b j ∨ (65 ≤ b ∧ b ≤ 67)) (hT : cTp ts t) : Rc (zT Z ts) h pl t := by
  obtain ⟨⟨l0, l1, l2, l3, l4, l5, l6⟩, z1, z2, z3, z4, z5, z6, z7, z8⟩ := z
  have hh := ho_is l1
  have hp := pl_is l2
  have no : ∀ b j, 64 ≤ b → b < 204 → ¬ PcT b j → ¬ (65 ≤ b ∧ b ≤ 67) → ¬ P b j := fun b j g1 g2 g3 g5 g4 => (hP b j g1 g2 g4).elim g3 g5
  have r : ∀ j, rf t 64 j = rf s 64 j := fun j => by
    show (t.2.2.2 64 j).getD 0 = (s.2.2.2 64 j).getD 0
    rw [f.2.2.2 64 j (no _ _ (by omega) (by omega) (by unfold PcT; omega) (by omega))]
  exact ⟨⟨hl, l1, l2, (r 9).trans l3, (r 10).trans l4, (r 11).trans l5, (r 12).trans l6⟩, cH_g f (fun b j g1 g2 => no b j (by omega) (by omega) (by unfold PcT; omega) (by omega)) z1, cL_g f (no _ _ (by omega) (by omega) (by unfold PcT; omega) (by omega)) (fun j => no _ _ (by omega) (by omega) (by unfold PcT; omega) (by omega)) z2, cNm_g f (fun j => no _ _ (by omega) (by omega) (by unfold PcT; omega) (by omega)) z3, cFu_g f (fun b j g1 g2 => no b j (by omega) (by omega) (by unfold PcT; omega) (by omega)) z4, cPa_g f ⟨no _ _ (by omega) (by omega) (by unfold PcT; omega) (by omega), no _ _ (by omega) (by omega) (by unfold PcT; omega) (by omega)⟩ (fun b j g1 g2 => no b j (by omega) (by omega) (by unfold PcT; omega) (by omega)) z5, cMk_g f (no _ _ (by omega) (by omega) (by unfold PcT; omega) (by omega)) (fun b j g1 g2 => no b j (by omega) (by omega) (by unfold PcT; omega) (by omega)) z6, cPn_g f (fun b j g1 g2 => no b j (by omega) (by omega) (by unfold PcT; omega) (by omega)) z7, hT⟩
theorem Rm_tp {ts : List Nat} (hZ : WZ Z) (z : Rm Z s) (f : Fg P s t) (hl : Ly t) (hP : ∀ b j, 204 ≤ b → b < 229 → P b j → PmT b j ∨ b = 205 ∨ (b = 204 ∧ j = 2)) (hT : mTp ts t) : Rm (zT Z ts) t := by
  obtain ⟨z0, z1, z2, z3, z4, z5, z6, z7, z8⟩ := z
  obtain ⟨w1, w2, w3, w4, w5, w6, w7, w8, w9, w10⟩ := hZ
  have n8 := w1.1
  have no : ∀ b j, 204 ≤ b → b < 229 → ¬ PmT b j → ¬ (b = 205 ∨ (b = 204 ∧ j = 2)) → ¬ P b j := fun b j g1 g2 g3 g5 g4 => (hP b j g1 g2 g4).elim g3 g5
  have g1 : mHL (tH Z) (tL Z) (s.1, t.2.1, s.2.2) := mHL_f (Fg_i f) (fun b j h1 h2 => no b j (by omega) (by omega) (by unfold PmT; omega) (by omega)) z1
  exact ⟨hl, g1, ⟨(f.2.1 _ _ (no _ _ (by omega) (by omega) (by unfold PmT; omega) (by omega))).trans z2.1, (f.2.1 _ _ (no _ _ (by omega) (by omega) (by unfold PmT; omega) (by omega))).trans z2.2.1, fun j w e => (f.2.2.1 _ _ (no _ _ (by omega) (by omega) (by unfold PmT; omega) (by omega))).trans (z2.2.2 j w e)⟩, ⟨(f.2.1 _ _ (no _ _ (by omega) (by omega) (by unfold PmT; omega) (by omega))).trans z3.1, fun k hk => (f.2.2.1 _ _ (no _ _ (by omega) (by omega) (by unfold PmT; omega) (by omega))).trans (z3.2 k hk)⟩, mFu_g n8 f (fun j _ _ => no _ _ (by omega) (by omega) (by unfold PmT; omega) (by omega)) z4, mPa_g n8 w8 f (no _ _ (by omega) (by omega) (by unfold PmT; omega) (by omega)) (fun j _ _ => no _ _ (by omega) (by omega) (by unfold PmT; omega) (by omega)) z5, mMk_g n8 f (fun j => no _ _ (by omega) (by omega) (by unfold PmT; omega) (by omega)) (fun j _ _ => no _ _ (by omega) (by omega) (by unfold PmT; omega) (by omega)) z6, mPn_g w6 f (fun j _ => no _ _ (by omega) (by omega) (by unfold PmT; omega) (by omega)) z7, hT⟩
/-! bytes of a long -/
def bty (p : Int64) (v : Nat) : Nat := p.toBitVec.toNat / 2 ^ v % 256
theorem bty_bit (p : Int64) (v i : Nat) : (bty p v).testBit i = (decide (i < 8) && p.toBitVec.toNat.testBit (v + i)) := by
  unfold bty
  rw [show 256 = 2 ^ 8 from rfl, Nat.testBit_mod_two_pow, Nat.testBit_div_two_pow, Nat.add_comm]
theorem bty_lt (p : Int64) (v : Nat) : bty p v < 256 := Nat.mod_lt _ (by omega)
theorem lN_self (p : Int64) : p = lN p.toBitVec.toNat := by
  refine i64_ext (fun i hi => ?_)
  rw [lN_bit, BitVec.testBit_toNat, decide_eq_true hi, Bool.true_and]
theorem nI_255 (y : Nat) : nI y &&& nI 255 = nI (y % 256) := by
  refine i32_ext (fun i hi => ?_)
  rw [Int32.toBitVec_and, BitVec.getLsbD_and, nI_bit, nI_bit, nI_bit, show 256 = 2 ^ 8 from rfl, Nat.testBit_mod_two_pow, show 255 = 2 ^ 8 - 1 from rfl, Nat.testBit_two_pow_sub_one]
  cases decide (i < 32) <;> cases decide (i < 8) <;> simp
theorem byte_c {p : Int64} {i : Nat} (hi : i < 8) : (((p.toUInt64 >>> ((nI (8 * i)).toInt64.toUInt64 &&& Int64.toUInt64 63)).toInt64).toInt32) &&& nI 255 = nI (bty p (8 * i)) := by
  have hs : ∀ i, i < 8 → ((nI (8 * i)).toInt64.toUInt64 &&& Int64.toUInt64 63).toNat % 64 = 8 * i := by decide
  have hlt : p.toBitVec.toNat < 2 ^ 64 := p.toBitVec.isLt
  have e := lN_ushr hlt (hs i hi)
  rw [← lN_self p] at e
  rw [e, lN_i, nI_255, Nat.shiftRight_eq_div_pow]
  rfl
theorem byte_m {p : Int64} {i : Nat} (hi : i < 8) : ((p >>> ((nI (8 * i)).toInt64 &&& 63)).toInt32) &&& nI 255 = nI (bty p (8 * i)) := by
  refine i32_ext (fun j hj => ?_)
  have hs : ∀ i, i < 8 → (((nI (8 * i)).toInt64 &&& 63).toBitVec.smod 64).toNat = 8 * i := by decide
  rw [Int32.toBitVec_and, BitVec.getLsbD_and, Int64.toBitVec_toInt32, BitVec.getLsbD_signExtend, if_pos (show j < 64 by omega), Int64.toBitVec_shiftRight, BitVec.sshiftRight', hs i hi, BitVec.getLsbD_sshiftRight, nI_bit, nI_bit, bty_bit, show 255 = 2 ^ 8 - 1 from rfl, Nat.testBit_two_pow_sub_one]
  by_cases c : j < 8
  · have h1 : 8 * i + j < 64 := by omega
    have h2 : ¬ 64 ≤ j := by omega
    rw [BitVec.testBit_toNat]
    simp [c, hj, h1, h2]
  · simp [c]
def okS (b : Nat) : Prop := b = 10 ∨ (32 ≤ b ∧ b ≤ 126)
def lyb (ts : List Nat) (b : Nat) : List Nat := if (b = 10 ∨ (32 ≤ b ∧ b ≤ 126)) ∧ ts.length < 1000 then ts ++ [b] else ts
def lyR (p : Int64) : Nat → List Nat → List Nat
  | 0, ts => ts
  | i + 1, ts => lyR p i (lyb ts (bty p (8 * i)))
def okTp (ts : List Nat) : Prop := ts.length ≤ 1000 ∧ ∀ c ∈ ts, c = 10 ∨ (32 ≤ c ∧ c ≤ 126)
theorem lyb_ok {ts : List Nat} {b : Nat} (h : okTp ts) : okTp (lyb ts b) := by
  unfold lyb
  split
  · rename_i c
    refine ⟨by rw [List.length_append]; show _ + 1 ≤ 1000; omega, fun x hx => ?_⟩
    rcases List.mem_append.mp hx with hx | hx
    · exact h.2 x hx
    · rw [List.mem_singleton.mp hx]; exact c.1
  · exact h
theorem lyR_ok {p : Int64} : ∀ (i : Nat) (ts : List Nat), okTp ts → okTp (lyR p i ts) := by
  intro i
  induction i with
  | zero => intro ts h; exact h
  | succ i ih => intro ts h; exact ih _ (lyb_ok h)
def vvI (i : Nat) : Int32 := nI (8 * i) + mI 8
theorem vv_s {i : Nat} (hi : i < 8) : vvI (i + 1) = nI (8 * i) ∧ vvI (i + 1) + mI 8 = vvI i ∧ ¬ vvI (i + 1) < 0 := by
  have : ∀ i, i < 8 → vvI (i + 1) = nI (8 * i) ∧ vvI (i + 1) + mI 8 = vvI i ∧ ¬ vvI (i + 1) < 0 := by decide
  exact this i hi
theorem tp_app {ts : List Nat} {b blk : Nat} {v : Int32} (z : ∀ i c, ts[i]? = some c → s.2.1 blk i = nI c) (hv : v = nI b) : ∀ i c, (ts ++ [b])[i]? = some c → (jh_setI s blk ts.length v).2.1 blk i = nI c := by
  intro i c e
  by_cases d : i < ts.length
  · rw [List.getElem?_append_left d] at e
    rw [rI_ne (by omega)]
    exact z i c e
  · have hi := (List.getElem?_eq_some_iff.mp e).1
    rw [List.length_append] at hi
    have hi : i < ts.length + 1 := hi
    rw [List.getElem?_append_right (by omega), show i - ts.length = 0 by omega] at e
    obtain rfl := Option.some.inj e
    rw [show i = ts.length by omega, rI_eq]
    exact hv
end FD

/-! ===== the model: costs, turns ===== -/
/-- the model's rows hold the law -/
def mL (L : Option Lws) (σ : JH) : Prop := (L = none ∧ σ.2.1 210 5 = mI 1) ∨ (∃ M, L = some M ∧ σ.2.1 210 5 = nI 0 ∧ M.length ≤ 1000 ∧ okT M 0 1 ∧ (∀ i q, M[i]? = some q → σ.2.1 211 i = nI q.1 ∧ σ.2.1 212 i = q.2) ∧ σ.2.1 211 M.length = nI 0)
theorem mL_f {L : Option Lws} {σ s : JH} {P : Nat → Nat → Prop} (f : Fi P σ s) (hP : ∀ b j, 210 ≤ b → b ≤ 212 → ¬ P b j) (q : mL L σ) : mL L s := by
  have e : ∀ b j, 210 ≤ b → b ≤ 212 → s.2.1 b j = σ.2.1 b j := fun b j h1 h2 => f.2.2 b j (hP b j h1 h2)
  rcases q with ⟨q1, q2⟩ | ⟨M, q1, q2, q3, q4, q5, q6⟩
  · exact Or.inl ⟨q1, (e _ _ (by omega) (by omega)).trans q2⟩
  · exact Or.inr ⟨M, q1, (e _ _ (by omega) (by omega)).trans q2, q3, q4, fun i q h => ⟨(e _ _ (by omega) (by omega)).trans (q5 i q h).1, (e _ _ (by omega) (by omega)).trans (q5 i q h).2⟩, (e _ _ (by omega) (by omega)).trans q6⟩
theorem m_both {c : Nat} {x y : Int32} {σ : JH} (hl : Ly σ) (h1 : 4 ≤ c) (h2 : c ≤ 10) : q_Md_both [.int (nI c), .int x, .int y] σ = some (some (.int (both c x y)), σ) := by
  refine WE_o (w_Md_both _ _ _ hl ?_)
  simp (disch := omega) only [nI_eqN]
  unfold both
  by_cases c1 : c = 4
  · rw [if_pos c1, if_pos c1]
  rw [if_neg c1, if_neg c1]
  by_cases c2 : c = 5
  · rw [if_pos c2, if_pos c2]
  rw [if_neg c2, if_neg c2]
  by_cases c3 : c = 6
  · rw [if_pos c3, if_pos c3]
  rw [if_neg c3, if_neg c3]
  by_cases c4 : c = 7
  · rw [if_pos c4, if_pos c4]
    by_cases d : y ≤ x
    · rw [if_pos d, if_pos d]
    · rw [if_neg d, if_neg d]
  rw [if_neg c4, if_neg c4]
  by_cases c5 : c = 8
  · rw [if_pos c5, if_pos c5]
    by_cases d : x = y
    · rw [if_pos d, if_pos d]
    · rw [if_neg d, if_neg d]
  rw [if_neg c5, if_neg c5]
  by_cases c6 : c = 9
  · rw [if_pos c6, if_pos c6]
    by_cases d : x = 0
    · rw [if_pos d, if_pos d]
    · rw [if_neg d, if_neg d]
      by_cases d2 : y = 0
      · rw [if_pos d2, if_pos d2]
      · rw [if_neg d2, if_neg d2]
  rw [if_neg c6, if_neg c6]
  by_cases d : x = 0
  · rw [if_pos d, if_pos d]
    by_cases d2 : y = 0
    · rw [if_pos d2, if_pos d2]
    · rw [if_neg d2, if_neg d2]
  · rw [if_neg d, if_neg d]
set_option maxHeartbeats 2000000 in
theorem m_worthAt {L : Lws} {σ : JH} {fc : Nat → Int32} (hl : Ly σ) (h1 : L.length ≤ 1000) (h2 : okT L 0 1) (h4 : ∀ i q, L[i]? = some q → σ.2.1 211 i = nI q.1 ∧ σ.2.1 212 i = q.2) (h5 : σ.2.1 211 L.length = nI 0) (h6 : ∀ i, i < 3 → σ.2.1 216 i = fc i) : WM q_Md_worthAt [.ref 204, .int (nI 0)] σ (kI fun x s => x = val fc L ∧ Ly s ∧ Fi (fun b _ => b = 217) σ s) := by
  refine w_Md_worthAt _ hl ?_
  refine Lp4_inv (I := fun k v1 v2 _ s => ∃ i t f R, k = R.length ∧ L.drop i = R ∧ i ≤ L.length ∧ v2 = nI i ∧ v1 = nI t ∧ t ≤ 32 ∧ okT R t 1 ∧ run fc R t f 0 = val fc L ∧ (∀ j, j < 32 → s.2.1 217 j = f j) ∧ Fi (fun b _ => b = 217) σ s) ?_ (m := L.length) ⟨0, 0, fun j => σ.2.1 217 j, L, rfl, rfl, by omega, rfl, rfl, by omega, h2, run_val h2, fun j _ => rfl, Fi_r _ _⟩
  rintro k v1 v2 o s ⟨i, t, f, R, hk, hR, hi, rfl, rfl, ht, hok, hv, hs, hf⟩ X hX
  have hls := Fi_ly hf hl
  refine ⟨hls, ?_⟩
  simp (disch := omega) only [inb_nI, cl_nI, JJ1]
  refine ⟨by omega, ?_⟩
  cases R with
  | nil =>
    have hi' : i = L.length := by have := drop_nil hR; omega
    rw [show s.2.1 211 i = nI 0 from (hf.2.2 211 i (by omega)).trans (by rw [hi']; exact h5), if_pos (by decide)]
    refine ⟨?_, hls, hf⟩
    rw [hs 0 (by omega)]
    exact hv
  | cons q R =>
    obtain ⟨d1, d2, d3⟩ := drop_cons hR
    obtain ⟨hq, hok⟩ := hok
    have e3 : s.2.1 211 i = nI q.1 := (hf.2.2 211 i (by omega)).trans (h4 i q d1).1
    have e4 : s.2.1 212 i = q.2 := (hf.2.2 212 i (by omega)).trans (h4 i q d1).2
    have hq0 : 1 ≤ q.1 ∧ q.1 ≤ 10 := by rcases hq with h | h | h | h <;> omega
    rw [e3, e4]
    simp (disch := omega) only [nI_eqN, nI_eq0]
    rw [if_neg (by omega)]
    have hlen : R.length < k := by rw [hk, List.length_cons]; omega
    have nxt : ∀ (j : Nat) (x : Int32) (o : Option Value) (v1 : Int32), j < 32 → x = stp fc q t f j → (∀ i, i < 32 → i ≠ j → stp fc q t f i = f i) → v1 = nI (dpt q t) → dpt q t ≤ 32 → X v1 (nI i + nI 1) o (jh_setI s 217 j x) := by
      intro j x o v1 hj hx hne hv1 hd
      refine hX R.length _ _ _ _ hlen ⟨i + 1, dpt q t, stp fc q t f, R, rfl, d2, by omega, nI_add i 1, hv1, hd, hok, hv, fun a b => ?_, Fi_s hf rfl⟩
      rw [rI]
      by_cases c : a = j
      · rw [if_pos ⟨rfl, c⟩, c]; exact hx
      · rw [if_neg (fun z => c z.2), hne a b c]; exact hs a b
    refine ⟨by omega, ?_⟩
    by_cases hq1 : q.1 = 1
    · have hd : dpt q t = t + 1 := by unfold dpt; rw [if_pos (by omega)]
      have ht32 : t < 32 := by rcases hq with h | h | h | h <;> omega
      rw [if_pos hq1, if_pos hq1]
      refine ⟨by omega, by omega, nxt t _ _ _ (by omega) (by rw [stp_1 hq1, up1_eq]) (fun a b c => by rw [stp_1 hq1, up1_ne c]) (by rw [hd, nI_add]) (by omega)⟩
    rw [if_neg hq1]
    by_cases hq2 : q.1 = 2
    · have hd : dpt q t = t + 1 := by unfold dpt; rw [if_pos (by omega)]
      obtain ⟨ht32, v, hv3, hqv⟩ : t < 32 ∧ ∃ v, v < 3 ∧ q.2 = nI v := by
        rcases hq with h | h | h | h
        · omega
        · exact h.2
        · omega
        · omega
      rw [if_pos hq2, if_neg hq1]
      have e5 : s.2.1 216 v = fc v := (hf.2.2 216 v (by omega)).trans (h6 v hv3)
      have e6 : stp fc q t f t = fc v := by rw [stp_2 hq2, up1_eq, hqv, cl_nI (by omega)]
      rw [hqv]
      simp (disch := omega) only [inb_nI, cl_nI]
      refine ⟨by omega, by omega, by omega, nxt t _ _ _ (by omega) (by rw [e5, e6]) (fun a b c => by rw [stp_2 hq2, up1_ne c]) (by rw [hd, nI_add]) (by omega)⟩
    rw [if_neg hq2]
    by_cases hq3 : q.1 = 3
    · have ht1 : 1 ≤ t := by rcases hq with h | h | h | h <;> omega
      have hd : dpt q t = t := by unfold dpt; rw [if_neg (by omega), if_pos hq3]
      have ev : stp fc q t f (t - 1) = if f (t - 1) = 0 then nI 1 else nI 0 := by rw [stp_3 hq3, up1_eq]
      have hne : ∀ a, a < 32 → a ≠ t - 1 → stp fc q t f a = f a := fun a b c => by rw [stp_3 hq3, up1_ne c]
      rw [if_pos hq3]
      simp (disch := omega) only [nI_subN, inb_nI, cl_nI]
      refine ⟨by omega, ?_⟩
      rw [hs (t - 1) (by omega)]
      by_cases c : f (t - 1) = 0
      · rw [if_pos c]
        rw [if_pos c] at ev
        exact ⟨by omega, nxt (t - 1) _ _ _ (by omega) ev.symm hne (by rw [hd]) (by omega)⟩
      · rw [if_neg c]
        rw [if_neg c] at ev
        exact ⟨by omega, nxt (t - 1) _ _ _ (by omega) ev.symm hne (by rw [hd]) (by omega)⟩
    rw [if_neg hq3]
    have h4q : 4 ≤ q.1 ∧ q.1 ≤ 10 ∧ 2 ≤ t := by rcases hq with h | h | h | h <;> omega
    have ht' : nI t + mI 1 = nI (t - 1) := by
      have := mI_add (t - 1)
      rwa [show t - 1 + 1 = t by omega] at this
    simp (disch := omega) only [ht', nI_subN, inb_nI, cl_nI]
    refine ⟨by omega, by omega, ?_⟩
    rw [hs (t - 1) (by omega), hs (t - 1 - 1) (by omega)]
    refine WE_i (m_both (c := q.1) hls h4q.1 h4q.2.1) ?_
    have hd : dpt q t = t - 1 := by unfold dpt; rw [if_neg (by omega), if_neg hq3]
    refine ⟨by omega, nxt (t - 1 - 1) _ _ _ (by omega) ?_ (fun a b c => ?_) (by rw [hd]) (by omega)⟩
    · rw [stp_4 h4q.1, show t - 1 - 1 = t - 2 by omega, up1_eq]
    · rw [stp_4 h4q.1, up1_ne (by omega)]
def PF (b _j : Nat) : Prop := b = 216 ∨ b = 217
/-- what lies in the model besides the state -/
def mHL (H : Hou) (L : Option Lws) (σ : JH) : Prop := mH H σ ∧ mL L σ
theorem mHL_f {H : Hou} {L : Option Lws} {σ s : JH} {P : Nat → Nat → Prop} (f : Fi P σ s) (hP : ∀ b j, 210 ≤ b → b ≤ 212 → ¬ P b j) (q : mHL H L σ) : mHL H L s := ⟨mH_f f (fun j => hP 210 j (by omega) (by omega)) q.1, mL_f f hP q.2⟩
theorem val_none (w t m : Int32) : val (fct w t m) (lwl none) = w := rfl
theorem m_costNow {H : Hou} {L : Option Lws} {S : Mud} {b p : Nat} {σ : JH} (hl : Ly σ) (hW : WH H) (hS : WS H S) (hH : mHL H L σ) (hM : mM H S b σ) (hb : b + 91 ≤ 2484) : WM q_Md_costNow [.ref 204, .int (nI b), .int (nI p)] σ (kI fun x s => x = nI (cst L (wrs H S) (tu S) p) ∧ Ly s ∧ Fi PF σ s) := by
  refine w_Md_costNow _ _ hl ?_
  refine WE_i (m_wrongs hl hW hS hH.1 hM hb) ?_
  have et := hM.1
  rw [Nat.add_zero] at et
  simp (disch := omega) only [lt, nI_add, Nat.add_zero, inb_nI, cl_nI, rI_ne, rI_eq, et]
  refine ⟨by omega, ?_⟩
  have f : Fi PF σ (jh_setI (jh_setI (jh_setI σ 216 0 (nI (wrs H S))) 216 1 (nI (tu S))) 216 2 (nI p)) := Fi_s (Fi_s (Fi_s (Fi_r _ _) (Or.inl rfl)) (Or.inl rfl)) (Or.inl rfl)
  have hl2 := Fi_ly f hl
  have hc : wrs H S ≤ 8 := Nat.le_trans (cntB_le _ _) hW.1
  rcases hH.2 with ⟨q1, q2⟩ | ⟨M, q1, q2, q3, q4, q5, q6⟩
  · rw [q2, if_neg (by decide)]
    have e2 : cst L (wrs H S) (tu S) p = wrs H S := by
      rw [q1]
      unfold cst
      rw [val_none]
      unfold clampN
      rw [if_neg (by rw [nI_lt0 (by omega)]; exact id), if_neg (by rw [nI_ltN (by omega) (by omega)]; omega), cl_nI (by omega)]
    rw [if_pos (by rw [nI_0le (by omega)]; trivial), if_pos (by rw [nI_leN (by omega) (by omega)]; omega)]
    exact ⟨by rw [e2], hl2, f⟩
  · rw [q2, if_pos (by decide)]
    refine WM_I (m_worthAt (L := M) (fc := fct (nI (wrs H S)) (nI (tu S)) (nI p)) hl2 q3 q4 (fun i q h => ⟨(f.2.2 211 i (by unfold PF; omega)).trans (q5 i q h).1, (f.2.2 212 i (by unfold PF; omega)).trans (q5 i q h).2⟩) ((f.2.2 211 _ (by unfold PF; omega)).trans q6) (fun i hi => ?_)) fun x s ⟨hx, hs, hf⟩ => ⟨hs, ?_⟩
    · rcases (show i = 0 ∨ i = 1 ∨ i = 2 by omega) with rfl | rfl | rfl
      · rw [rI_ne (by omega), rI_ne (by omega), rI_eq]; rfl
      · rw [rI_ne (by omega), rI_eq]; rfl
      · rw [rI_eq]; rfl
    · have f2 : Fi PF σ s := Fi_t f (Fi_m hf (fun b j h => Or.inr h))
      have e : cst L (wrs H S) (tu S) p = clampN x := by rw [hx, q1]; rfl
      rw [e]
      by_cases c1 : 0 ≤ x
      · rw [if_pos c1]
        by_cases c2 : x ≤ nI 999
        · rw [if_pos c2]
          exact ⟨(clampN_v (Int32.not_lt.mpr c1) (Int32.not_lt.mpr c2)).symm, hs, f2⟩
        · rw [if_neg c2]
          refine ⟨?_, hs, f2⟩
          unfold clampN
          rw [if_neg (Int32.not_lt.mpr c1), if_pos (Int32.not_le.mp c2)]
      · rw [if_neg c1]
        refine ⟨?_, hs, f2⟩
        unfold clampN
        rw [if_pos (Int32.not_le.mp c1)]

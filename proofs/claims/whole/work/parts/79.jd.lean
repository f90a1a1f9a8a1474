/-! ===== judged ===== -/
section JD
variable {Z : Ste} {x y w : Int32} {h pl : Nat} {s t σ : JH} {H : Hou} {L : Option Lws} {S : Mud}
def pln (H : Hou) (L : Option Lws) (q : Lin) (S : Mud) : Option (Mud × Nat) := if q.1 = 1 then (if mayF H S q.2.1 = true then some (ftc S q.2.1, Hp H q.2.1) else none) else if q.1 = 2 then (if mayT H S q.2.1 q.2.2.1 = true then some (trn S q.2.1 q.2.2.1, ctn H L S q.2.1 q.2.2.1) else none) else (if mayR H S q.2.1 q.2.2.1 q.2.2.2 = true then some (rnd S q.2.1 q.2.2.1 q.2.2.2, crn H L S q.2.1 q.2.2.1 q.2.2.2) else none)
theorem pln_WS {q : Lin} {r : Mud × Nat} (hW : WH H) (hS : WS H S) (ok : okP H q) (e : pln H L q S = some r) : WS H r.1 := by
  unfold pln at e
  rcases ok with ⟨k, o1, _⟩ | ⟨k, o1, o2⟩ | ⟨k, o1, o2, o3⟩
  · rw [if_pos k] at e
    split at e
    · obtain rfl := Option.some.inj e; exact WS_ftc hS
    · cases e
  · rw [if_neg (by omega), if_pos k] at e
    split at e
    · rename_i hm; obtain rfl := Option.some.inj e; exact WS_trn hS o1 o2 hm hW
    · cases e
  · rw [if_neg (by omega), if_neg (by omega)] at e
    split at e
    · rename_i hm; obtain rfl := Option.some.inj e; exact WS_rnd hW hS o1 o2 o3 hm
    · cases e
set_option maxHeartbeats 1000000 in
theorem c_playLine {q : Lin} {i : Nat} (hp : IsPl pl) (hW : WH H) (hS : WS H S) (C : Cs H S 118 h σ) (hLw : cL (lwl L) (h + 8) σ) (ok : okP H q) (hi : i < 30) (e1 : σ.2.1 (pl + 1) i = nI q.1) (e2 : σ.2.1 (pl + 2) (3 * i) = nI q.2.1) (e3 : 2 ≤ q.1 → σ.2.1 (pl + 2) (3 * i + 1) = nI q.2.2.1) (e4 : 3 ≤ q.1 → σ.2.1 (pl + 2) (3 * i + 2) = nI q.2.2.2) :
    WM q_Pl_playLine [.ref pl, .ref 118, .int (nI i)] σ (kI fun y s => y = bI (pln H L q S).isSome ∧ Ly s ∧ Cs H ((pln H L q S).getD (S, 0)).1 118 h s ∧ s.2.1 118 9 = σ.2.1 118 9 + nI ((pln H L q S).getD (S, 0)).2 ∧ Fi (PPl 118 h) σ s) := by
  refine w_Pl_playLine pl 118 _ C.1 hp mu_118 ?_
  rw [nI_mulN, nI_add, nI_add, Nat.mul_comm i 3, cl_nI (by omega), cl_nI (by omega), cl_nI (by omega), cl_nI (by omega)]
  refine ⟨by rw [inb_nI (by omega) (by omega)]; omega, by rw [inb_nI (by omega) (by omega)]; omega, by rw [inb_nI (by omega) (by omega)]; omega, by rw [inb_nI (by omega) (by omega)]; omega, ?_⟩
  rw [e1, e2]
  have hno : σ.2.1 118 9 = σ.2.1 118 9 + nI 0 := by rw [nI_z, Int32.add_zero]
  unfold pln
  rcases ok with ⟨k, o1, _⟩ | ⟨k, o1, o2⟩ | ⟨k, o1, o2, o3⟩
  · rw [if_pos (by rw [k]), if_pos k]
    refine WE_i (c_allowsFetch C.1 mu_118 C.2.1 hW C.2.2.1 C.2.2.2 o1) ?_
    cases hm : mayF H S q.2.1
    · exact ⟨bI_bit _, rfl, C.1, C, hno, Fi_r _ _⟩
    · rw [if_neg (by decide), if_pos rfl]
      exact WM_V (c_playFetch mu_118 hW hS C o1) fun s2 ⟨C2, f2, g2⟩ => ⟨C2.1, bI_bit _, rfl, C2.1, C2, g2, Fi_m f2 (fun b j q => Or.inl q)⟩
  · rw [if_neg (by rw [k, nI_eqN (by omega) (by omega)]; omega), if_neg (show ¬ q.1 = 1 by omega)]
    refine ⟨by rw [inb_nI (by omega) (by omega)]; omega, ?_⟩
    rw [if_pos (by rw [k]), if_pos k, e3 (by omega)]
    refine WE_i (c_allows C.1 mu_118 C.2.1 hW C.2.2.1 C.2.2.2 o1 o2) ?_
    cases hm : mayT H S q.2.1 q.2.2.1
    · exact ⟨bI_bit _, rfl, C.1, C, hno, Fi_r _ _⟩
    · rw [if_neg (by decide), if_pos rfl]
      exact WM_V (c_playTurn mu_118 hW hS C hLw o1 o2 (mayT_k hm)) fun s2 ⟨C2, f2, _, g2⟩ => ⟨C2.1, bI_bit _, rfl, C2.1, C2, g2, f2⟩
  · rw [if_neg (by rw [k, nI_eqN (by omega) (by omega)]; omega), if_neg (show ¬ q.1 = 1 by omega)]
    refine ⟨by rw [inb_nI (by omega) (by omega)]; omega, ?_⟩
    rw [if_neg (by rw [k, nI_eqN (by omega) (by omega)]; omega), if_neg (show ¬ q.1 = 2 by omega), e3 (by omega), e4 (by omega)]
    refine WE_i (c_allowsRound C.1 mu_118 C.2.1 hW hS C.2.2.1 C.2.2.2 o1 o2 o3) ?_
    cases hm : mayR H S q.2.1 q.2.2.1 q.2.2.2
    · exact ⟨bI_bit _, rfl, C.1, C, hno, Fi_r _ _⟩
    · rw [if_neg (by decide), if_pos rfl]
      exact WM_V (c_playRound mu_118 hW hS C hLw o1 o2 o3 hm) fun s2 ⟨C2, f2, _, g2⟩ => ⟨C2.1, bI_bit _, rfl, C2.1, C2, g2, f2⟩
set_option maxHeartbeats 1000000 in
theorem m_does {q : Lin} {p3 p4 : Int32} (hW : WH H) (hS : WS H S) (hl : Ly σ) (hH : mHL H L σ) (hM : mM H S 2268 σ) (ok : okP H q) (e3 : 2 ≤ q.1 → p3 = nI q.2.2.1) (e4 : 3 ≤ q.1 → p4 = nI q.2.2.2) :
    WM q_Md_does [.ref 204, .int (nI (wht q.1)), .int (nI q.2.1), .int p3, .int p4] σ (kI fun y s => y = bI (pln H L q S).isSome ∧ Ly s ∧ mM H ((pln H L q S).getD (S, 0)).1 2268 s ∧ s.2.1 218 2269 = σ.2.1 218 2269 + nI ((pln H L q S).getD (S, 0)).2 ∧ Fi (PT 2268) σ s) := by
  refine w_Md_does _ _ _ _ hl ?_
  simp only [JJ1]
  have hno : σ.2.1 218 2269 = σ.2.1 218 2269 + nI 0 := by rw [nI_z, Int32.add_zero]
  unfold pln
  rcases ok with ⟨k, o1, _⟩ | ⟨k, o1, o2⟩ | ⟨k, o1, o2, o3⟩
  · have e0 : wht q.1 = 2 := by rw [k]; rfl
    rw [e0, if_neg (by decide), if_neg (by decide), if_pos k]
    refine WE_i (m_mayFetch hl hW hH.1 hM (by omega) o1) ?_
    cases hm : mayF H S q.2.1
    · exact ⟨bI_bit _, rfl, hl, hM, hno, Fi_r _ _⟩
    · rw [if_neg (by decide), if_neg (by decide), if_neg (by decide), if_neg (by decide), if_neg (by decide), if_pos rfl]
      exact WM_V (m_fetches hl hW hH.1 hM (by omega) o1) fun s2 ⟨l2, f2, M2, g2⟩ => ⟨l2, bI_bit _, rfl, l2, M2, g2, f2⟩
  · have e0 : wht q.1 = 0 := by rw [k]; rfl
    rw [e0, if_pos (by decide), if_neg (show ¬ q.1 = 1 by omega), if_pos k, e3 (by omega)]
    refine WE_i (m_mayTurn hl hW hS hH.1 hM (by omega) o1 o2) ?_
    cases hm : mayT H S q.2.1 q.2.2.1
    · exact ⟨bI_bit _, rfl, hl, hM, hno, Fi_r _ _⟩
    · rw [if_neg (by decide), if_pos (by decide), if_pos rfl]
      exact WM_I (m_turns hl hW hS hH hM (by omega) o1 o2 hm) fun _ s2 ⟨_, l2, f2, M2, g2⟩ => ⟨l2, bI_bit _, rfl, l2, M2, g2, f2⟩
  · have e0 : wht q.1 = 1 := by rw [k]; rfl
    rw [e0, if_neg (by decide), if_pos rfl, if_neg (show ¬ q.1 = 1 by omega), if_neg (show ¬ q.1 = 2 by omega), e3 (by omega), e4 (by omega)]
    refine WE_i (m_mayRound hl hW hS hH.1 hM (by omega) o1 o2 o3) ?_
    cases hm : mayR H S q.2.1 q.2.2.1 q.2.2.2
    · exact ⟨bI_bit _, rfl, hl, hM, hno, Fi_r _ _⟩
    · rw [if_neg (by decide), if_neg (by decide), if_neg (by decide), if_pos rfl, if_pos rfl]
      exact WM_V (m_rounds hl hW hS hH hM (by omega) o1 o2 o3 hm) fun s2 ⟨l2, f2, M2, g2⟩ => ⟨l2, bI_bit _, rfl, l2, M2, g2, f2⟩
abbrev Jst : Type := Option Nat × Mud × Int32
def jdS (H : Hou) (L : Option Lws) (q : Lin) (i : Nat) (j : Jst) : Jst := (if (pln H L q j.2.1).isSome = true then j.1 else (match j.1 with | none => some i | some r => some r), ((pln H L q j.2.1).getD (j.2.1, 0)).1, j.2.2 + nI ((pln H L q j.2.1).getD (j.2.1, 0)).2)
def jdR (H : Hou) (L : Option Lws) : List Lin → Nat → Jst → Jst
  | [], _, j => j
  | q :: l, i, j => jdR H L l (i + 1) (jdS H L q i j)
theorem jdS_WS {q : Lin} {i : Nat} {j : Jst} (hW : WH H) (hS : WS H j.2.1) (ok : okP H q) : WS H (jdS H L q i j).2.1 := by
  show WS H ((pln H L q j.2.1).getD (j.2.1, 0)).1
  cases e : pln H L q j.2.1 with
  | none => exact hS
  | some r => exact pln_WS hW hS ok e
theorem drop_get {α : Type} {l : List α} {i : Nat} {q : α} (e : l[i]? = some q) : l.drop i = q :: l.drop (i + 1) := by
  obtain ⟨h1, h2⟩ := List.getElem?_eq_some_iff.mp e
  rw [List.drop_eq_getElem_cons h1, h2]
end JD

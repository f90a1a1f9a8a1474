section TK2
variable {s t σ : JH} {ts : List Nat} {i c : Nat}
theorem tp_i (ok : okTp ts) (e : ts[i]? = some c) : i < 1000 ∧ c < 127 := by
  have h1 := (List.getElem?_eq_some_iff.mp e).1
  have h2 := ok.2 c (List.mem_of_getElem? e)
  have h3 := ok.1
  omega
theorem c_isLetter (hl : Ly s) (T : cTp ts s) (ok : okTp ts) (e : ts[i]? = some c) : q_Tp_isLetter [.ref 65, .int (nI i)] s = some (some (.int (bI (isLt c))), s) := by
  obtain ⟨h1, h2⟩ := tp_i ok e
  refine WE_o (w_Tp_isLetter _ hl ?_)
  have hin : inb (nI i) 1000 := by rw [inb_nI (by omega) (by omega)]; exact h1
  rw [cl_nI (by omega), T.2 i c e]
  refine ⟨hin, ?_⟩
  unfold isLt
  by_cases c1 : c < 97
  · rw [if_pos (by rw [nI_ltN (by omega) (by omega)]; exact c1), decide_eq_false (show ¬ 97 ≤ c by omega)]; rfl
  · rw [if_neg (by rw [nI_ltN (by omega) (by omega)]; exact c1), decide_eq_true (show 97 ≤ c by omega)]
    refine ⟨hin, ?_⟩
    by_cases c2 : 122 < c
    · rw [if_pos (by rw [nI_ltN (by omega) (by omega)]; exact c2), decide_eq_false (show ¬ c ≤ 122 by omega)]; rfl
    · rw [if_neg (by rw [nI_ltN (by omega) (by omega)]; exact c2), decide_eq_true (show c ≤ 122 by omega)]; rfl
theorem c_isDigit (hl : Ly s) (T : cTp ts s) (ok : okTp ts) (e : ts[i]? = some c) : q_Tp_isDigit [.ref 65, .int (nI i)] s = some (some (.int (bI (isDg c))), s) := by
  obtain ⟨h1, h2⟩ := tp_i ok e
  refine WE_o (w_Tp_isDigit _ hl ?_)
  have hin : inb (nI i) 1000 := by rw [inb_nI (by omega) (by omega)]; exact h1
  rw [cl_nI (by omega), T.2 i c e]
  refine ⟨hin, ?_⟩
  unfold isDg
  by_cases c1 : c < 48
  · rw [if_pos (by rw [nI_ltN (by omega) (by omega)]; exact c1), decide_eq_false (show ¬ 48 ≤ c by omega)]; rfl
  · rw [if_neg (by rw [nI_ltN (by omega) (by omega)]; exact c1), decide_eq_true (show 48 ≤ c by omega)]
    refine ⟨hin, ?_⟩
    by_cases c2 : 57 < c
    · rw [if_pos (by rw [nI_ltN (by omega) (by omega)]; exact c2), decide_eq_false (show ¬ c ≤ 57 by omega)]; rfl
    · rw [if_neg (by rw [nI_ltN (by omega) (by omega)]; exact c2), decide_eq_true (show c ≤ 57 by omega)]; rfl
theorem m_isLetter (hl : Ly s) (hc : c < 127) : q_Md_isLetter [.int (nI c)] s = some (some (.int (bI (isLt c))), s) := by
  refine WE_o (w_Md_isLetter _ hl ?_)
  unfold isLt
  by_cases c1 : c < 97
  · rw [if_pos (by rw [nI_ltN (by omega) (by omega)]; exact c1), decide_eq_false (show ¬ 97 ≤ c by omega)]; rfl
  · rw [if_neg (by rw [nI_ltN (by omega) (by omega)]; exact c1), decide_eq_true (show 97 ≤ c by omega)]
    by_cases c2 : 122 < c
    · rw [if_pos (by rw [nI_ltN (by omega) (by omega)]; exact c2), decide_eq_false (show ¬ c ≤ 122 by omega)]; rfl
    · rw [if_neg (by rw [nI_ltN (by omega) (by omega)]; exact c2), decide_eq_true (show c ≤ 122 by omega)]; rfl
theorem m_isDigit (hl : Ly s) (hc : c < 127) : q_Md_isDigit [.int (nI c)] s = some (some (.int (bI (isDg c))), s) := by
  refine WE_o (w_Md_isDigit _ hl ?_)
  unfold isDg
  by_cases c1 : c < 48
  · rw [if_pos (by rw [nI_ltN (by omega) (by omega)]; exact c1), decide_eq_false (show ¬ 48 ≤ c by omega)]; rfl
  · rw [if_neg (by rw [nI_ltN (by omega) (by omega)]; exact c1), decide_eq_true (show 48 ≤ c by omega)]
    by_cases c2 : 57 < c
    · rw [if_pos (by rw [nI_ltN (by omega) (by omega)]; exact c2), decide_eq_false (show ¬ c ≤ 57 by omega)]; rfl
    · rw [if_neg (by rw [nI_ltN (by omega) (by omega)]; exact c2), decide_eq_true (show c ≤ 57 by omega)]; rfl
end TK2

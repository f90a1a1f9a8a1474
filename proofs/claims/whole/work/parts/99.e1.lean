/-! ===== cells of an exception stand behind all others ===== -/
section AP
variable {s : JH} {T : List (Nat × Nat)} {Z : Ste} {L : Nat} {xs : Nat → Int32}
theorem At_ap {a : Nat} {q : Nat × Nat} (h : s.1[a]? = some q) : (s.1 ++ T)[a]? = some q := by
  rw [List.getElem?_append_left (List.getElem?_eq_some_iff.mp h).1]; exact h
theorem Ly_ap (h : Ly s) : Ly (s.1 ++ T, s.2) := by
  have h5 : ly_sh.length = 230 := by decide +kernel
  refine ⟨fun a g1 g2 => ?_, h.2.1, h.2.2⟩
  have e : ly_sh[a]? = some ly_sh[a] := List.getElem?_eq_getElem (by omega)
  rw [e]; exact At_ap ((h.1 a g1 g2).trans e)
theorem Rm_ap (h : Rm Z s) : Rm Z (s.1 ++ T, s.2) := ⟨Ly_ap h.1, h.2⟩
theorem Rc_ap {h' pl : Nat} (h : Rc Z h' pl s) : Rc Z h' pl (s.1 ++ T, s.2) := ⟨⟨Ly_ap h.1.1, h.1.2⟩, h.2⟩
theorem Jl_ap (h : Jl L xs Z s) : Jl L xs Z (s.1 ++ T, s.2) := by
  obtain ⟨j1, ⟨a, b, j2⟩, j3, j4, j5, j6, j7⟩ := h
  exact ⟨j1, ⟨a, b, Rc_ap j2⟩, Rm_ap j3, j4, At_ap j5, j6, At_ap j7⟩
/-- out[0] is set -/
theorem Jl_out {x : Int64} (h : Jl L xs Z s) : Jl L xs Z (jh_setJ s 229 0 x) := by
  obtain ⟨j1, ⟨a, b, j2⟩, j3, j4, j5, j6, j7⟩ := h
  have f : Fg (fun b _ => b = 229) s (jh_setJ s 229 0 x) := Fg_sJ (Fg_r _ _) rfl
  have l : Ly (jh_setJ s 229 0 x) := j3.1
  exact ⟨j1, ⟨a, b, Rc_f j2 f l (fun b j h1 h2 q => by omega)⟩, Rm_f j1 j3 f l (fun b j h1 h2 q => by omega), Wd_g f (fun b j h q => by omega) j4, j5, fun k hk => j6 k hk, j7⟩
end AP

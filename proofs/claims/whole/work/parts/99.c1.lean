/-! ===== the law's loop: a call of both ===== -/
section LW
variable {L i : Nat} {xs : Nat → Int32} {Z : Ste} {σ s t : JH} {o5 o6 : Option Value} {st : List Value} {os : List JO} {K : JS → Prop}
/-- what holds at the head of the law's loop -/
def Jl (L : Nat) (xs : Nat → Int32) (Z : Ste) (σ : JH) : Prop := WZ Z ∧ (∃ h pl, Rc Z h pl σ) ∧ Rm Z σ ∧ Wd σ ∧ σ.1[24]? = some (200, L) ∧ (∀ j, j < L → σ.2.1 24 j = xs j) ∧ σ.1[229]? = some (101, 1)
/-- the law's locals -/
def lwL (i : Nat) (o5 o6 : Option Value) : JL := [some (.ref 24), some (.ref 64), some (.ref 204), some (.ref 229), some (.int (nI i)), o5, o6]
theorem Jl_c {h pl : Nat} {Z' : Ste} (j : Jl L xs Z σ) (f : Fg (fun b _ => 64 ≤ b ∧ b < 204) σ s) (r : Rc Z' h pl s) : Rm Z s ∧ Wd s ∧ s.1[24]? = some (200, L) ∧ (∀ j, j < L → s.2.1 24 j = xs j) ∧ s.1[229]? = some (101, 1) := by
  obtain ⟨j1, j2, j3, j4, j5, j6, j7⟩ := j
  exact ⟨Rm_f j1 j3 f r.1.1 (fun b j h1 h2 q => absurd q.2 (by omega)), Wd_g f (fun b j h q => absurd q.1 (by omega)) j4, by rw [f.1]; exact j5, fun k hk => (f.2.1 _ _ (by omega)).trans (j6 k hk), by rw [f.1]; exact j7⟩
theorem Jl_m {h pl : Nat} {Z' : Ste} (hZ : WZ Z') (r : Rc Z' h pl s) (w : Wd s) (h24 : s.1[24]? = some (200, L)) (hx : ∀ j, j < L → s.2.1 24 j = xs j) (h229 : s.1[229]? = some (101, 1)) (f : Fg (fun b _ => 204 ≤ b ∧ b < 229) s t) (rm : Rm Z' t) : Jl L xs Z' t :=
  ⟨hZ, ⟨h, pl, Rc_f r f rm.1 (fun b j h1 h2 q => absurd q.1 (by omega))⟩, rm, Wd_g f (fun b j h q => absurd q.1 (by omega)) w, by rw [f.1]; exact h24, fun k hk => (f.2.1 _ _ (by omega)).trans (hx k hk), by rw [f.1]; exact h229⟩
theorem ld_at {j : Nat} {n : Int} (h24 : σ.1[24]? = some (200, L)) (hx : ∀ j, j < L → σ.2.1 24 j = xs j) (hL : L ≤ 3584) (hi : i + j < L) (hn : Int32.ofInt n = nI j) (H : WN (jx_run os) (lwL i o5 o6, .int (xs (i + j)) :: st, σ) K) : WN (jx_run ((4, 0, 0) :: (2, 4, 0) :: (0, 0, n) :: (10, 0, 0) :: (50, 0, 0) :: os)) (lwL i o5 o6, st, σ) K := by
  refine wo_aload (a := 24) rfl (wo_iload (x := nI i) rfl (wo_ipush hn (wo_iadd ?_)))
  rw [nI_add]
  refine wo_ldI (k := i + j) (m := L) h24 (by decide) (by rw [inb_nI (by omega) (by omega)]; omega) (cl_nI (by omega)) ?_
  rw [hx _ hi]
  exact H
/-- a call of both that answers the same -/
theorem lw_two {fC fM : JF} {n ex : Nat} {vs : List Value} {A B : List JO} {Kp : Nat → JS → Prop} (a : Agw fC (.ref 64 :: vs) fM (.ref 204 :: vs) Z) (j : Jl L xs Z σ) (hn : vs.length + 1 = n) (hv : Nat.ble (vs.map (fun v => v.category)).sum 6 = true)
    (hA : ∀ (s : JH) (K : JS → Prop), s.1[24]? = some (200, L) → (∀ j, j < L → s.2.1 24 j = xs j) → K (lwL i o5 o6, vs.reverse ++ [.ref 64], s) → WN (jx_run A) (lwL i o5 o6, [], s) K)
    (hB : ∀ (s : JH) (x : Int32) (K : JS → Prop), s.1[24]? = some (200, L) → (∀ j, j < L → s.2.1 24 j = xs j) → K (lwL i o5 o6, (vs.reverse ++ [.ref 204]) ++ [.int x], s) → WN (jx_run B) (lwL i o5 o6, [.int x], s) K)
    (hK : ∀ Z' s, Jl L xs Z' s → s.1 = σ.1 → Kp 1285 (lwL i o5 o6, [], s)) :
    WP (jb_if (jn (jx_run A) (jn (jx_cv n 10 fC) (jn (jx_run B) (jx_cv n 11 fM)))) 6 1285 ex) (lwL i o5 o6, [], σ) Kp := by
  obtain ⟨x, Z', w', aC, aM⟩ := a
  obtain ⟨h, pl, r⟩ := j.2.1
  refine wp_if (wn_jn (hA σ _ j.2.2.2.2.1 j.2.2.2.2.2.1 (wn_jn ?_)))
  have e : vs.reverse ++ [Value.ref 64] = (vs.reverse ++ [Value.ref 64]) ++ [] := (List.append_nil _).symm
  rw [e]
  refine wc_vI (n := n) (st := []) (vs.reverse ++ [.ref 64]) (ls_64 r.1.1) (by rw [List.reverse_append, List.reverse_reverse]; rfl) (by rw [List.length_append, List.length_reverse]; exact hn) rfl (aC h pl σ j.2.2.2.1 r) fun y s1 ⟨y1, ⟨h', pl', r'⟩, f1⟩ => ?_
  obtain ⟨m1, m2, m3, m4, m5⟩ := Jl_c j f1 r'
  refine wn_jn (hB s1 y _ m3 m4 ?_)
  refine wc_vI (n := n) (st := [.int y]) (vs.reverse ++ [.ref 204]) (ls_204 m1.1) (by rw [List.reverse_append, List.reverse_reverse]; rfl) (by rw [List.length_append, List.length_reverse]; exact hn) rfl (aM s1 m1) fun z s2 ⟨z1, r2, f2⟩ => ?_
  refine ti_6 (A := True) (B := False) (by rw [y1, z1, if_pos rfl]; trivial) (fun _ => hK Z' s2 (Jl_m w' r' m2 m3 m4 m5 f2 r2) (f2.1.trans f1.1)) (fun q => q.elim)
end LW

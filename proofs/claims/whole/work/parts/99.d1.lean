/-! ===== the law's walk, given what pair does ===== -/
theorem whole_of {p : Program} {e : Env} {s : State} {m : MethodId} {below : List Frame} {meth : Method} {c : Code} (l : Launch) {b L : Nat} {xs : Nat → Int32} {fp : JF} (hL : L ≤ 3584) (C0 : lw_At p s m meth c b L xs)
    (hS : ∀ G : JG, jg_l G = l → JSl G 12 false c_Lw_law 52 7 1073 1076 (jx_cs 5 fp))
    (hP : ∀ Z σ i o5 o6, Jl L xs Z σ → i + 7 ≤ L → ∀ K, LwN L i xs σ K → WP (lwp_pair fp) (lwL i o5 o6, [], σ) K) :
    W p l e room_1 s m #[Value.ref b] below meth c s.heap [] 0 0 (lw_Z below #[Value.ref b] s) (entryFrame m ([Value.ref b] : List Value).toArray 7) := by
  obtain ⟨G, g1, g2, g3, g4, g5, g6⟩ := js_start l (by omega) C0
  obtain ⟨hx, hb, hr, hml, hown, hts, hX, hbl, hlk, hgv⟩ := C0
  subst g1
  have X : JX G p room_1 s m meth c c_Lw_law 7 (jh_n (js_0 L xs)) (jh_w (js_0 L xs)) (jh_n (js_0 L xs) + 601024) (jh_w (js_0 L xs) + 7293034) 12 false := ⟨hx, hb, hml, hown, g5, by show 601024 = _; omega, by show 7293034 = _; omega, fun h => by cases h⟩
  obtain ⟨t, s', h1, rfl, h3, h4, h5⟩ := lw_start (fp := fp) (K := fun t s' => t = 1291 ∧ s'.2.1 = [] ∧ jh_n s'.2.2 ≤ 64 + 601024 ∧ jh_w s'.2.2 ≤ 7293034) hL hP (fun i' s1 o5' o6' s0 j n0 q1 q2 => by
    have w := ly_w j.2.2.1.1 n0 j.2.2.2.2.1 j.2.2.2.2.2.2
    exact ⟨rfl, rfl, by show jh_n s1 ≤ _; omega, by show jh_w s1 ≤ _; omega⟩)
  have n0 : jh_n (js_0 L xs) = 64 := rfl
  have hret : meth.sig.returnType = some .boolean := hr
  have hK := (lwf_0 G (hS G rfl)).2 p e room_1 s m #[Value.ref b] below meth c (jh_n (js_0 L xs)) (jh_w (js_0 L xs)) (jh_n (js_0 L xs) + 601024) (jh_w (js_0 L xs) + 7293034) (lw_Z below #[Value.ref b] s) X ⟨by decide, by decide⟩ hret hlk ([some (.ref 24), none, none, none, none, none, none], [], js_0 L xs) (1291, s') h1 (fun q => by cases q) (fun _ => ?_)
  · have hle : (jl_sl [Value.ref 24]).length ≤ 7 := by decide
    have hW := hK.2.2 s.heap [] _ (Nat.le_refl _) (Nat.le_refl _) g6 (fun q hq => absurd hq List.not_mem_nil) (jl_en_ok (G := G) (nL := 7) (vs := [.ref 24]) hle)
    have ev : ([Value.ref 24].map (jv G)) = [Value.ref b] := by
      show [Value.ref (jr G 24)] = _
      unfold jr
      rw [if_pos (by decide), g4]
    rw [ev] at hW
    rw [lg_entry_eq]
    have e0 : jh_n (js_0 L xs) - jh_n (js_0 L xs) = 0 := Nat.sub_self _
    have e1 : jh_w (js_0 L xs) - jh_w (js_0 L xs) = 0 := Nat.sub_self _
    have hW2 : W p (jg_l G) e room_1 s m #[Value.ref b] below meth c s.heap [] (jh_n (js_0 L xs) - jh_n (js_0 L xs)) (jh_w (js_0 L xs) - jh_w (js_0 L xs)) (lw_Z below #[Value.ref b] s) _ := hW
    rw [e0, e1] at hW2
    exact hW2
  · obtain ⟨L1, st1, σ1⟩ := s'
    have h3 : st1 = [] := h3
    subst h3
    have h4 : jh_n σ1 ≤ 64 + 601024 := h4
    have h5 : jh_w σ1 ≤ 7293034 := h5
    have run : JSl G 12 false c_Lw_law 52 7 1291 1292 (jx_run [(0, 0, 1)]) := jsl_run (by decide +kernel)
    refine run.2 p e room_1 s m #[Value.ref b] below meth c _ _ _ _ _ X ⟨by decide, by decide⟩ (L1, [], σ1) (L1, [.int 1], σ1) rfl ?_
    refine ⟨by show jh_n σ1 ≤ _; omega, by show jh_w σ1 ≤ _; omega, fun H locs ls q1 q2 q3 q4 q5 => ?_⟩
    refine va_forget (fun q hq => by have := q4 q hq; rw [g2] at this; exact this) ?_
    refine W.widen (k := 601024) (n := 7293034) (by show jh_n σ1 - _ ≤ _; omega) (by show jh_w σ1 - _ ≤ _; omega) ?_
    exact lw_ret hx hb hr hlk (by decide +kernel)

/-! ===== the law's call of its pair ===== -/
section JW
variable {G : JG} {p : Program} {e : Env} {R : Room} {s : State} {m : MethodId} {args : Array Value} {below : List Frame} {meth : Method} {c : Code} {cc : ByteArray} {n0 w0 nE wE nL own : Nat} {ini : Bool} {Q : State → Prop} {pc : Nat} {σ : JH}
/-- behind a call, however it was run -/
theorem jk_callR {av : List Value} {L : JL} {st st0 : List Value} {v : Option Value} {σ' : JH} (X : JX G p R s m meth c cc nL n0 w0 nE wE own ini) (hmo : jmono σ σ')
    (hr : ∀ (H : Heap) (locs : List Loc) (ls : Array Slot) (cells slots : Nat), ls.size = nL → jm G σ s H →
      cells + (jh_n σ' - jh_n σ) ≤ R.cells ∧ slots + (jh_w σ' - jh_w σ) ≤ R.slots → (∀ U : State, U.heap = H → s.WarmedH U.vm → JPc G av σ (av.map (jv G)).toArray U) →
      va_Run p (jg_l G) e R s m args below meth c H locs cells slots (jh_n σ' - jh_n σ) (jh_w σ' - jh_w σ) (F0 m pc ls (st0.map (jv G))) (st.map (jv G)) (JQc G v σ' (av.map (jv G)).toArray) (fun q => jg_sz G ≤ q))
    (k : JK G p e R s m args below meth c nL n0 w0 nE wE Q (pc + 3) (L, v.toList ++ st, σ')) : JK G p e R s m args below meth c nL n0 w0 nE wE Q pc (L, st0, σ) := by
  obtain ⟨hn, hw⟩ := hmo
  obtain ⟨k1, k2, k3⟩ := k
  have k1 : jh_n σ' ≤ nE := k1
  have k2 : jh_w σ' ≤ wE := k2
  refine ⟨Nat.le_trans hn k1, Nat.le_trans hw k2, fun H locs ls h1 h2 h3 h4 h5 => ?_⟩
  have h1 : n0 ≤ jh_n σ := h1
  have h2 : w0 ≤ jh_w σ := h2
  have hcap : (jh_n σ - n0) + (jh_n σ' - jh_n σ) ≤ R.cells ∧ (jh_w σ - w0) + (jh_w σ' - jh_w σ) ≤ R.slots := by
    rw [X.2.2.2.2.2.1, X.2.2.2.2.2.2.1]
    omega
  have hrun := hr H locs ls (jh_n σ - n0) (jh_w σ - w0) h5.1 h3 hcap (fun U hU hWm => ⟨rfl, by rw [hU]; exact jm.moved hWm.alike h3, X.2.2.2.2.1.warm hWm⟩)
  intro T hT X0
  obtain ⟨v', st₀, t, T', L', e0, X', hL, e1, e2, hQ, hgo⟩ := hrun T hT X0
  obtain ⟨q1, q2⟩ := hQ
  have q1 : v' = v.map (jv G) := Outcome.returned.inj q1
  subst q1
  have hMt : jm G σ' s T'.heap := by
    rw [e1]
    exact jm.moved (by rw [← e2]; exact X'.warmed.alike.symm) q2
  have h9 := k3 T'.heap (locs ++ L') ls (Nat.le_trans h1 hn) (Nat.le_trans h2 hw) hMt (fun q hq => by
    rcases List.mem_append.mp hq with h | h
    · exact h4 q h
    · exact hL q h) h5
  have ec : (jh_n σ - n0) + (jh_n σ' - jh_n σ) = jh_n σ' - n0 := by omega
  have ew : (jh_w σ - w0) + (jh_w σ' - jh_w σ) = jh_w σ' - w0 := by omega
  rw [ec, ew] at X'
  obtain ⟨t2, a1, b1⟩ := h9 T' rfl X'
  refine ⟨t2, hgo t2 ?_, b1⟩
  have es : (v.map (jv G)).toList ++ st.map (jv G) = (v.toList ++ st).map (jv G) := by cases v <;> simp
  show Steps p.tables e below (T'.setTop { method := m, pc := pc + 3, locals := ls, stack := (v.map (jv G)).toList ++ st.map (jv G), locked := none }) t2
  rw [es]
  exact a1
end JW
theorem sl_Lw_pair (G : JG) (hl : (jg_l G).stackTraces = false) : JSl G 12 false c_Lw_law 52 7 1073 1076 (jx_cs 5 q_Lw_pair) := by
  refine ⟨fun S S' q => ?_, fun p e R s m args below meth c n0 w0 nE wE Q X D S S' q kk => ?_⟩
  · obtain ⟨v, σ', h3, h4, h5, rfl⟩ := jx_cs_i q
    exact (jsemW G hl _ _ _ _ h5).1
  · obtain ⟨L, st0, σ⟩ := S
    obtain ⟨v, σ', h3, h4, h5, rfl⟩ := jx_cs_i q
    obtain ⟨hx, hb, hml, hown, hG, hRc, hRs, hini⟩ := id X
    obtain ⟨hmo, hMet⟩ := jsemW G hl _ _ _ _ h5
    refine jk_callR (av := (st0.take 5).reverse) X hmo (fun H locs ls cells slots hls hM hcap hP => ?_) kk
    have hrm := jm_room (k := jh_n σ' - jh_n σ) (n := jh_w σ' - jh_w σ) (d' := 51) (maxL := 6) (by decide) (by decide) D
    exact vx_runSW (Ts := []) (hh := [(0, 12, 15, 13)]) (index := 137) (n := 5) (bytes := c_Lw_pair) (maxL := 6) (ret := some .int) (As := (st0.take 5).reverse.map (jv G)) ⟨hx, hb, hml, hown, fun w hw => absurd hw List.not_mem_nil⟩ hMet
      ⟨⟨rfl, rfl, hrm.1, hrm.2, fun w hw a' U hW => by
          rw [List.mem_singleton.mp hw]
          exact word_at (args := #[]) hW (Or.inl rfl) (hG.1 _ cw_Lw_pair rfl), List.mem_cons_self⟩, jx_word hG cw_Lw_pair rfl rfl, jx_word hG it_Lw_pair rfl rfl, ⟨by decide +kernel, by decide +kernel⟩, jm_par (by decide +kernel), jx_word hG ml_Lw_pair rfl rfl, jx_word hG st_Lw_pair rfl rfl⟩
      ⟨jpc_blind, fun U hU hW => hP U hU hW⟩ rfl (by rw [List.length_map, List.length_reverse]; exact h4) hls jst_splitS (lv_room (jm_cats h3)) (show decode c_Lw_law 1073 = _ by decide +kernel) hcap

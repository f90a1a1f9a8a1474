section WH1
variable {Z : Ste} {x y w : Int32} {h pl : Nat} {s t σ : JH} {P : Nat → Nat → Prop} {H : Hou} {L : Option Lws}
def oV (o : Option Nat) : Int32 := match o with
  | none => mI 1
  | some k => nI k
def whS (H : Hou) (S : Mud) (T : Nat) (b : Option Nat) (k : Nat) : Option Nat := if mayF H S k = true ∧ (∀ c, b = some c → Hp H k < Hp H c) ∧ (fhA H (ftc S k) (T + 1) 0).isSome = true then some k else b
def whR (H : Hou) (S : Mud) (T : Nat) : Nat → Nat → Option Nat → Option Nat
  | 0, _, b => b
  | m + 1, k, b => whR H S T m (k + 1) (whS H S T b k)
set_option maxHeartbeats 1000000 in
theorem c_leadsWith {T k : Nat} (hZ : WZ Z) (z : Rc Z h pl σ) (hT : T ≤ 5) (hk : k < Hn (tH Z)) : WM q_Ct_leadsHomeWith [.ref 64, .int (nI k), .int (nI T)] σ (kI fun y s => y = bI (fhA (tH Z) (ftc (tF Z).1 k) (T + 1) 0).isSome ∧ Rc Z h pl s ∧ Fg (fun b _ => 64 ≤ b ∧ b < 204) σ s) := by
  have hW := hZ.1
  refine w_Ct_leadsHomeWith _ _ z.1.1 ?_
  refine WM_V (c_copy mu_118 mu_114 (by omega) hW (Rc_Cs z)) fun s1 ⟨C1, f1, _⟩ => ⟨C1.1, ?_⟩
  refine WM_V (c_playFetch mu_118 hW hZ.2.1 C1 hk) fun s2 ⟨C2, f2, _⟩ => ⟨C2.1, ?_⟩
  refine WM_I (c_findHome mu_118 (by omega) hW (WS_ftc hZ.2.1) C2 hT) fun y s4 ⟨l4, f4, e4, _⟩ => ⟨l4, by rw [e4]; exact bI_bit _, e4, ?_⟩
  have f : Fg (fun b j => PMc 118 b j ∨ PSk b j) σ s4 := Fg_t (Fg_m f1 (fun b j q => Or.inl q)) (Fg_t (Fg_m (Fi_g f2) (fun b j q => Or.inl q)) (Fg_m f4 (fun b j q => Or.inr q)))
  exact Rc_ok z f l4 (fun b j q => by unfold PMc PSk at q; unfold PcT; omega)
theorem whS_no {S : Mud} {T k : Nat} {b : Option Nat} (h : mayF H S k = false) : whS H S T b k = b := if_neg (fun q => by rw [h] at q; exact absurd q.1 (by decide))
theorem whS_dear {S : Mud} {T k c : Nat} (h : ¬ Hp H k < Hp H c) : whS H S T (some c) k = some c := if_neg (fun q => h (q.2.1 c rfl))
theorem whS_yes {S : Mud} {T k : Nat} {b : Option Nat} (h1 : mayF H S k = true) (h2 : ∀ c, b = some c → Hp H k < Hp H c) (h3 : (fhA H (ftc S k) (T + 1) 0).isSome = true) : whS H S T b k = some k := if_pos ⟨h1, h2, h3⟩
theorem whS_hard {S : Mud} {T k : Nat} {b : Option Nat} (h3 : (fhA H (ftc S k) (T + 1) 0).isSome = false) : whS H S T b k = b := if_neg (fun q => by rw [h3] at q; exact absurd q.2.2 (by decide))
set_option maxHeartbeats 2000000 in
theorem a_which (hZ : WZ Z) : Agr q_Ct_which [.ref 64, .int x] q_Md_which [.ref 204, .int x] Z := by
  have hW := hZ.1
  have n8 := hW.1
  rcases rng_c (m := 5) (by omega) x with ⟨d, hd, rfl⟩ | ⟨g1, g2⟩
  · refine Agr_q (oV (whR (tH Z) (tF Z).1 d (Hn (tH Z)) 0 none)) hZ (fun h pl σ z => w_Ct_which _ z.1.1 ?_) (fun σ z => w_Md_which _ z.1 (lt_thr hZ z fun s z' f' => ?_))
    · rw [if_neg (by rw [nI_lt0 (by omega)]; exact id), if_pos (by rw [nI_leN (by omega) (by omega)]; exact hd)]
      refine Lp4_inv (I := fun m v1 v2 _ s4 => ∃ k b, k ≤ Hn (tH Z) ∧ m = Hn (tH Z) - k ∧ v2 = nI k ∧ v1 = oV b ∧ (∀ c, b = some c → c < Hn (tH Z)) ∧ whR (tH Z) (tF Z).1 d (Hn (tH Z) - k) k b = whR (tH Z) (tF Z).1 d (Hn (tH Z)) 0 none ∧ Rc Z h pl s4 ∧ Fg (fun b _ => 64 ≤ b ∧ b < 204) σ s4) ?_ (m := Hn (tH Z)) ⟨0, none, by omega, by omega, rfl, rfl, fun c e => (by cases e), rfl, z, Fg_r _ _⟩
      rintro m v1 v2 o3 s4 ⟨k, b, hk, rfl, rfl, rfl, hb, hr, z4, f4⟩ X hX
      refine ⟨z4.1.1, ?_⟩
      rw [z4.1.2.2.2.1, (Rc_H z4).1]
      by_cases c : Hn (tH Z) ≤ k
      · rw [if_pos (by rw [nI_leN (by omega) (by omega)]; exact c)]
        rw [show Hn (tH Z) - k = 0 by omega] at hr
        exact ⟨by rw [← hr]; rfl, z4, f4⟩
      · rw [if_neg (by rw [nI_leN (by omega) (by omega)]; exact c)]
        have hkn : k < Hn (tH Z) := by omega
        have nxt : ∀ b' o s', b' = whS (tH Z) (tF Z).1 d b k → Rc Z h pl s' → Fg (fun b _ => 64 ≤ b ∧ b < 204) σ s' → X (oV b') (nI k + nI 1) o s' := by
          intro b' o s' e z5 f5
          refine hX (Hn (tH Z) - (k + 1)) _ _ _ _ (by omega) ⟨k + 1, b', by omega, rfl, nI_add k 1, rfl, ?_, ?_, z5, f5⟩
          · intro c hc
            rw [e] at hc
            unfold whS at hc
            split at hc
            · rw [← Option.some.inj hc]; exact hkn
            · exact hb c hc
          · rw [← hr, show Hn (tH Z) - k = (Hn (tH Z) - (k + 1)) + 1 by omega, e]
            rfl
        have try1 : ∀ o1 o2, (∀ c, b = some c → Hp (tH Z) k < Hp (tH Z) c) → mayF (tH Z) (tF Z).1 k = true → WM q_Ct_leadsHomeWith [.ref 64, .int (nI k), .int (nI d)] s4 (kI fun x7 s8 => Ly s8 ∧ (if x7 = 0 then X (oV b) (nI k + nI 1) o1 s8 else X (nI k) (nI k + nI 1) o2 s8)) := by
          intro o1 o2 h2 h1
          refine WM_I (c_leadsWith hZ z4 hd hkn) fun y s8 ⟨e8, z8, f8⟩ => ⟨z8.1.1, ?_⟩
          rw [e8]
          cases h3 : (fhA (tH Z) (ftc (tF Z).1 k) (d + 1) 0).isSome
          · rw [if_pos (by decide)]
            exact nxt b o1 s8 (whS_hard h3).symm z8 (Fg_t f4 f8)
          · rw [if_neg (by decide)]
            exact nxt (some k) o2 s8 (whS_yes h1 h2 h3).symm z8 (Fg_t f4 f8)
        have af := c_allowsFetch z4.1.1 mu_114 z4.1.2.1 hW (Rc_H z4) (Rc_M z4) hkn
        cases hbb : b with
        | none =>
          rw [if_pos (show oV none = mI 1 from rfl)]
          refine WE_i af ?_
          cases h1 : mayF (tH Z) (tF Z).1 k
          · rw [if_pos (by decide)]
            rw [← hbb]
            exact nxt b _ s4 (whS_no h1).symm z4 f4
          · rw [if_neg (by decide)]
            have := try1 (some (.int (nI 0))) (some (.int (nI 0))) (fun c e => by rw [hbb] at e; cases e) h1
            rw [hbb] at this
            exact this
        | some c0 =>
          have hc0 := hb c0 hbb
          have hp := (Rc_H z4).2.2.2.2.2.1
          rw [if_neg (by show ¬ nI c0 = mI 1; rw [nI_m1 (by omega)]; exact id)]
          refine ⟨by rw [inb_nI (by omega) (by omega)]; omega, by show inb (nI c0) 8; rw [inb_nI (by omega) (by omega)]; omega, ?_⟩
          show if s4.2.1 (h + 3) (cl (nI k)) < s4.2.1 (h + 3) (cl (nI c0)) then _ else _
          have b1 := hW.2.2.2.2.1 k hkn
          have b2 := hW.2.2.2.2.1 c0 hc0
          rw [cl_nI (by omega), cl_nI (by omega), hp k hkn, hp c0 hc0]
          by_cases c2 : Hp (tH Z) k < Hp (tH Z) c0
          · rw [if_pos (by rw [nI_ltN (by omega) (by omega)]; exact c2)]
            refine WE_i af ?_
            cases h1 : mayF (tH Z) (tF Z).1 k
            · rw [if_pos (by decide)]
              rw [← hbb]
              exact nxt b _ s4 (whS_no h1).symm z4 f4
            · rw [if_neg (by decide)]
              have := try1 (some (.int (nI 0))) (some (.int (nI 0))) (fun c e => by rw [hbb] at e; rw [← Option.some.inj e]; exact c2) h1
              rw [hbb] at this
              exact this
          · rw [if_neg (by rw [nI_ltN (by omega) (by omega)]; exact c2)]
            refine WE_i af ?_
            have e0 : b = whS (tH Z) (tF Z).1 d b k := by rw [hbb]; exact (whS_dear c2).symm
            rw [← hbb]
            split
            · exact nxt b _ s4 e0 z4 f4
            · exact nxt b _ s4 e0 z4 f4
    · refine WE_i (yes_m z'.1 hd (by omega)) ?_
      rw [if_neg (by decide)]
      refine Lp3_inv (I := fun m v3 v4 s5 => ∃ k b, k ≤ Hn (tH Z) ∧ m = Hn (tH Z) - k ∧ v4 = nI k ∧ v3 = oV b ∧ (∀ c, b = some c → c < Hn (tH Z)) ∧ whR (tH Z) (tF Z).1 d (Hn (tH Z) - k) k b = whR (tH Z) (tF Z).1 d (Hn (tH Z)) 0 none ∧ Rm Z s5 ∧ Fg (fun b _ => 204 ≤ b ∧ b < 229) σ s5) ?_ (m := Hn (tH Z)) ⟨0, none, by omega, by omega, rfl, rfl, fun c e => (by cases e), rfl, z', f'⟩
      rintro m v3 v4 s5 ⟨k, b, hk, rfl, rfl, rfl, hb, hr, z5, f5⟩ X hX
      refine ⟨z5.1, WE_i (m_bodies z5.1 (Rm_H z5)) ?_⟩
      by_cases c : Hn (tH Z) ≤ k
      · rw [if_pos (by rw [nI_leN (by omega) (by omega)]; exact c)]
        rw [show Hn (tH Z) - k = 0 by omega] at hr
        exact ⟨by rw [← hr]; rfl, z5, f5⟩
      · rw [if_neg (by rw [nI_leN (by omega) (by omega)]; exact c)]
        have hkn : k < Hn (tH Z) := by omega
        have nxt : ∀ b' s', b' = whS (tH Z) (tF Z).1 d b k → Rm Z s' → Fg (fun b _ => 204 ≤ b ∧ b < 229) σ s' → X (oV b') (nI k + nI 1) s' := by
          intro b' s' e z5 f5
          refine hX (Hn (tH Z) - (k + 1)) _ _ _ (by omega) ⟨k + 1, b', by omega, rfl, nI_add k 1, rfl, ?_, ?_, z5, f5⟩
          · intro c hc
            rw [e] at hc
            unfold whS at hc
            split at hc
            · rw [← Option.some.inj hc]; exact hkn
            · exact hb c hc
          · rw [← hr, show Hn (tH Z) - k = (Hn (tH Z) - (k + 1)) + 1 by omega, e]
            rfl
        refine WE_i (m_mayFetch z5.1 hW (Rm_H z5) (Rm_M z5) (by omega) hkn) ?_
        cases h1 : mayF (tH Z) (tF Z).1 k
        · rw [if_pos (by decide)]
          exact nxt b s5 (whS_no h1).symm z5 f5
        rw [if_neg (by decide)]
        simp only [JJ1]
        have try1 : (∀ c, b = some c → Hp (tH Z) k < Hp (tH Z) c) → WM q_Md_copies [.ref 204, .int (nI 0), .int (nI 2376), .int (nI 91)] s5 (kV fun s11 => Ly s11 ∧ WM q_Md_fetches [.ref 204, .int (nI 2376), .int (nI k)] s11 (kV fun s12 => Ly s12 ∧ WM q_Md_fewestIn [.ref 204, .int (nI d)] s12 (kI fun x13 s14 => Ly s14 ∧ (if x13 < 0 then X (oV b) (nI k + nI 1) s14 else X (nI k) (nI k + nI 1) s14)))) := by
          intro h2
          refine m_toOther hW (Rm_Mb z5) fun s11 M1 f1 => ⟨M1.1, ?_⟩
          refine WM_V (m_fetches M1.1 hW M1.2.1.1 M1.2.2.1 (by omega) hkn) fun s12 ⟨l2, f2, M2, e2⟩ => ⟨l2, ?_⟩
          have MM : Ms (tH Z) (tL Z) (ftc (tF Z).1 k) (s12.2.1 218 2377) s12 := ⟨l2, mHL_f f2 (fun b j _ _ => by unfold PT; omega) M1.2.1, M2, rfl⟩
          refine WM_I (m_fewestIn hW (WS_ftc hZ.2.1) MM hd) fun y s14 ⟨hy, M3, f3, _⟩ => ⟨M3.1, ?_⟩
          have f : Fi (fun b j => PC 2376 91 b j ∨ PT 2376 b j ∨ PRw b j) s5 s14 := Fi_t (Fi_m f1 (fun b j q => Or.inl q)) (Fi_t (Fi_m f2 (fun b j q => Or.inr (Or.inl q))) (Fi_m f3 (fun b j q => Or.inr (Or.inr q))))
          obtain ⟨r1, r2⟩ := Rm_ok hZ z5 (Fi_g f) M3.1 (fun b j q => by unfold PC PRw PT at q; unfold PmT; omega)
          rw [hy]
          cases h3 : fhA (tH Z) (ftc (tF Z).1 k) (d + 1) 0 with
          | none =>
            rw [if_pos (by show mI 1 < 0; decide)]
            exact nxt b s14 (whS_hard (by rw [h3]; rfl)).symm r1 (Fg_t f5 r2)
          | some r =>
            have hl := fhA_len hW (d + 1) 0 r h3
            rw [if_neg (by show ¬ nI r.length < 0; rw [nI_lt0 (by omega)]; exact id)]
            exact nxt (some k) s14 (whS_yes h1 h2 (by rw [h3]; rfl)).symm r1 (Fg_t f5 r2)
        cases hbb : b with
        | none =>
          rw [if_pos (show oV none < 0 by decide)]
          have := try1 (fun c e => by rw [hbb] at e; cases e)
          rw [hbb] at this
          exact this
        | some c0 =>
          have hc0 := hb c0 hbb
          have b1 := hW.2.2.2.2.1 k hkn
          have b2 := hW.2.2.2.2.1 c0 hc0
          rw [if_neg (by show ¬ nI c0 < 0; rw [nI_lt0 (by omega)]; exact id)]
          refine WE_i (m_price z5.1 n8 (Rm_H z5) hkn) (WE_i (m_price z5.1 n8 (Rm_H z5) hc0) ?_)
          by_cases c2 : Hp (tH Z) k < Hp (tH Z) c0
          · rw [if_neg (by rw [nI_leN (by omega) (by omega)]; omega)]
            have := try1 (fun c e => by rw [hbb] at e; rw [← Option.some.inj e]; exact c2)
            rw [hbb] at this
            exact this
          · rw [if_pos (by rw [nI_leN (by omega) (by omega)]; omega)]
            have e0 : b = whS (tH Z) (tF Z).1 d b k := by rw [hbb]; exact (whS_dear c2).symm
            rw [← hbb]
            exact nxt b s5 e0 z5 f5
  · refine Agr_q (mI 1) hZ (fun h pl σ z => w_Ct_which _ z.1.1 ?_) (fun σ z => w_Md_which _ z.1 (lt_thr hZ z fun s z' f' => WE_i (m_within z'.1) ?_))
    · rcases g1 with g | ⟨g, g3⟩
      · rw [if_pos g]; exact ⟨rfl, z, Fg_r _ _⟩
      · rw [if_neg g, if_neg (Int32.not_le.mpr g3)]; exact ⟨rfl, z, Fg_r _ _⟩
    · rw [g2]
      exact ⟨rfl, z', f'⟩
end WH1

section JD2
variable {Z : Ste} {x y w : Int32} {h pl : Nat} {s t σ : JH}
theorem cPn_n {ps : List Lin} (z : cPn ps pl σ) : σ.2.1 pl 2 = nI ps.length := z.1
set_option maxHeartbeats 2000000 in
theorem a_judged (hZ : WZ Z) : Agr q_Ct_judged [.ref 64, .int x] q_Md_judged [.ref 204, .int x] Z := by
  have hW := hZ.1
  have n8 := hW.1
  have h30 := hZ.2.2.2.2.2.1
  have hok := hZ.2.2.2.2.2.2.1
  have hS0 : WS (tH Z) (S0 (tH Z)) := WS_0 hW
  rcases rng_c (m := 2) (by omega) x with ⟨d, hd, rfl⟩ | ⟨g1, g2⟩
  · generalize hJ : jdR (tH Z) (tL Z) (tP Z) 0 (none, S0 (tH Z), nI 0) = J
    refine Agr_q (if d = 0 then oV J.1 else if d = 1 then nI (wrs (tH Z) J.2.1) else J.2.2) hZ (fun h pl σ z => w_Ct_judged _ z.1.1 ?_) (fun σ z => w_Md_judged _ z.1 (lt_thr hZ z fun s z' f' => ?_))
    · rw [if_neg (by rw [nI_lt0 (by omega)]; exact id), if_pos (by rw [nI_leN (by omega) (by omega)]; exact hd), z.1.2.2.2.1]
      have hh := ho_is z.1.2.1
      refine WM_V (c_begin mu_118 z.1.2.1 hW z.1.1 (Rc_H z)) fun s1 ⟨C1, f1, e1, _⟩ => ⟨C1.1, ?_⟩
      obtain ⟨z1, r1⟩ := Rc_ok z f1 C1.1 (fun b j q => by unfold PMb at q; unfold PcT; omega)
      rw [z1.1.2.2.2.2.2.1]
      refine w_Pl_playOn pl 118 C1.1 z1.1.2.2.1 mu_118 ?_
      refine Lp3_inv (I := fun m v1 v2 s3 => ∃ i j, i ≤ (tP Z).length ∧ m = (tP Z).length - i ∧ v2 = nI i ∧ v1 = oV j.1 ∧ (∀ c, j.1 = some c → c < 30) ∧ Rc Z h pl s3 ∧ Fg (fun b _ => 64 ≤ b ∧ b < 204) σ s3 ∧ Cs (tH Z) j.2.1 118 h s3 ∧ s3.2.1 118 9 = j.2.2 ∧ WS (tH Z) j.2.1 ∧ jdR (tH Z) (tL Z) ((tP Z).drop i) i j = J) ?_ (m := (tP Z).length) ⟨0, (none, S0 (tH Z), nI 0), by omega, by omega, rfl, rfl, fun c e => (by cases e), z1, r1, C1, e1, hS0, hJ⟩
      rintro m v1 v2 s3 ⟨i, j, hi, rfl, rfl, rfl, hj, z3, f3, C3, e3, S3, hr⟩ X hX
      refine ⟨z3.1.1, ?_⟩
      rw [cPn_n z3.2.2.2.2.2.2.2.1]
      by_cases c : (tP Z).length ≤ i
      · rw [if_pos (by rw [nI_leN (by omega) (by omega)]; exact c)]
        rw [List.drop_eq_nil_of_le c] at hr
        have hr : j = J := hr
        subst hr
        refine ⟨C3.1, ?_⟩
        by_cases d0 : d = 0
        · rw [if_pos (by rw [d0]; rfl), if_pos d0]; exact ⟨rfl, z3, f3⟩
        rw [if_neg (by rw [nI_eq0 (by omega)]; exact d0), if_neg d0]
        by_cases d1 : d = 1
        · rw [if_pos (by rw [d1]), if_pos d1]; exact WE_i (c_wrongOnes C3.1 mu_118 hW C3.2.2.2) ⟨rfl, z3, f3⟩
        rw [if_neg (by rw [nI_eqN (by omega) (by omega)]; exact d1), if_neg d1]
        exact ⟨e3, z3, f3⟩
      · rw [if_neg (by rw [nI_leN (by omega) (by omega)]; exact c)]
        obtain ⟨q, hq⟩ : ∃ q, (tP Z)[i]? = some q := ⟨_, List.getElem?_eq_getElem (by omega)⟩
        obtain ⟨g1, g2, g3, g4⟩ := z3.2.2.2.2.2.2.2.1.2 i q hq
        have okq := hok q (List.mem_of_getElem? hq)
        rw [drop_get hq] at hr
        have hr : jdR (tH Z) (tL Z) ((tP Z).drop (i + 1)) (i + 1) (jdS (tH Z) (tL Z) q i j) = J := hr
        refine WM_I (c_playLine z3.1.2.2.1 hW S3 C3 z3.2.2.1 okq (by omega) g1 g2 g3 g4) fun y s6 ⟨ey, l6, C6, e6, f6⟩ => ⟨l6, ?_⟩
        obtain ⟨z6, r6⟩ := Rc_ok z3 (Fi_g f6) l6 (fun b j q => by unfold PPl PMc at q; unfold PcT; omega)
        have nxt : X (oV (jdS (tH Z) (tL Z) q i j).1) (nI i + nI 1) s6 := by
          refine hX ((tP Z).length - (i + 1)) _ _ _ (by omega) ⟨i + 1, jdS (tH Z) (tL Z) q i j, by omega, rfl, nI_add i 1, rfl, ?_, z6, Fg_t f3 r6, C6, ?_, jdS_WS hW S3 okq, hr⟩
          · intro c hc
            unfold jdS at hc
            split at hc
            · exact hj c hc
            · cases hj1 : j.1 with
              | none => rw [hj1] at hc; rw [← Option.some.inj hc]; omega
              | some r => rw [hj1] at hc; rw [← Option.some.inj hc]; exact hj r hj1
          · rw [e6, e3]; rfl
        rw [ey]
        cases hp : (pln (tH Z) (tL Z) q j.2.1).isSome
        · rw [if_pos (by decide)]
          have e0 : (jdS (tH Z) (tL Z) q i j).1 = (match j.1 with | none => some i | some r => some r) := if_neg (by rw [hp]; decide)
          rw [e0] at nxt
          cases hj1 : j.1 with
          | none =>
            rw [hj1] at nxt
            rw [if_pos (show oV none = mI 1 from rfl)]
            exact nxt
          | some r =>
            rw [hj1] at nxt
            have := hj r hj1
            rw [if_neg (show ¬ oV (some r) = mI 1 by show ¬ nI r = mI 1; rw [nI_m1 (by omega)]; exact id)]
            exact nxt
        · rw [if_neg (by decide)]
          have e0 : (jdS (tH Z) (tL Z) q i j).1 = j.1 := if_pos hp
          rw [e0] at nxt
          exact nxt
    · refine WE_i (yes_m z'.1 hd (by omega)) ?_
      rw [if_neg (by decide)]
      refine WM_V (m_starts z'.1 hW (Rm_H z') (by omega)) fun s3 ⟨l3, f3, M3, e3⟩ => ⟨l3, ?_⟩
      obtain ⟨z3, r3⟩ := Rm_ok hZ z' (Fi_g f3) l3 (fun b j q => by unfold PC at q; unfold PmT; omega)
      refine Lp5_inv (I := fun m v4 v5 _ _ s8 => ∃ i j, i ≤ (tP Z).length ∧ m = (tP Z).length - i ∧ v5 = nI i ∧ v4 = oV j.1 ∧ (∀ c, j.1 = some c → c < 30) ∧ Rm Z s8 ∧ Fg (fun b _ => 204 ≤ b ∧ b < 229) σ s8 ∧ mM (tH Z) j.2.1 2268 s8 ∧ s8.2.1 218 2269 = j.2.2 ∧ WS (tH Z) j.2.1 ∧ jdR (tH Z) (tL Z) ((tP Z).drop i) i j = J) ?_ (m := (tP Z).length) ⟨0, (none, S0 (tH Z), nI 0), by omega, by omega, rfl, rfl, fun c e => (by cases e), z3, Fg_t f' r3, M3, e3, hS0, hJ⟩
      rintro m v4 v5 o6 o7 s8 ⟨i, j, hi, rfl, rfl, rfl, hj, z8, f8, M8, e8, S8, hr⟩ X hX
      refine ⟨z8.1, ?_⟩
      obtain ⟨t1, t2⟩ := z8.2.2.2.2.2.2.2.1
      by_cases c : (tP Z).length ≤ i
      · rw [if_pos (by rw [t1, nI_leN (by omega) (by omega)]; exact c)]
        rw [List.drop_eq_nil_of_le c] at hr
        have hr : j = J := hr
        subst hr
        by_cases d0 : d = 0
        · rw [if_pos (by rw [d0]; rfl), if_pos d0]; exact ⟨rfl, z8, f8⟩
        rw [if_neg (by rw [nI_eq0 (by omega)]; exact d0), if_neg d0]
        by_cases d1 : d = 1
        · rw [if_pos (by rw [d1]), if_pos d1]; exact WE_i (m_wrongs z8.1 hW S8 (Rm_H z8) M8 (by omega)) ⟨rfl, z8, f8⟩
        rw [if_neg (by rw [nI_eqN (by omega) (by omega)]; exact d1), if_neg d1]
        exact ⟨e8, z8, f8⟩
      · rw [if_neg (by rw [t1, nI_leN (by omega) (by omega)]; exact c)]
        obtain ⟨q, hq⟩ : ∃ q, (tP Z)[i]? = some q := ⟨_, List.getElem?_eq_getElem (by omega)⟩
        obtain ⟨g1, g2, g3, g4⟩ := t2 i q hq
        have okq := hok q (List.mem_of_getElem? hq)
        rw [drop_get hq] at hr
        have hr : jdR (tH Z) (tL Z) ((tP Z).drop (i + 1)) (i + 1) (jdS (tH Z) (tL Z) q i j) = J := hr
        rw [nI_mulN, nI_add, nI_add, nI_add, nI_add, cl_nI (by omega), cl_nI (by omega), cl_nI (by omega), cl_nI (by omega)]
        refine ⟨by rw [inb_nI (by omega) (by omega)]; omega, by rw [inb_nI (by omega) (by omega)]; omega, by rw [inb_nI (by omega) (by omega)]; omega, by rw [inb_nI (by omega) (by omega)]; omega, ?_⟩
        rw [g1, g2]
        refine WM_I (m_does hW S8 z8.1 z8.2.1 M8 okq g3 g4) fun y s12 ⟨ey, l6, M6, e6, f6⟩ => ⟨l6, ?_⟩
        obtain ⟨z6, r6⟩ := Rm_ok hZ z8 (Fi_g f6) l6 (fun b j q => by unfold PT at q; unfold PmT; omega)
        have nxt : ∀ o1 o2, X (oV (jdS (tH Z) (tL Z) q i j).1) (nI i + nI 1) o1 o2 s12 := by
          intro o1 o2
          refine hX ((tP Z).length - (i + 1)) _ _ _ _ _ (by omega) ⟨i + 1, jdS (tH Z) (tL Z) q i j, by omega, rfl, nI_add i 1, rfl, ?_, z6, Fg_t f8 r6, M6, ?_, jdS_WS hW S8 okq, hr⟩
          · intro c hc
            unfold jdS at hc
            split at hc
            · exact hj c hc
            · cases hj1 : j.1 with
              | none => rw [hj1] at hc; rw [← Option.some.inj hc]; omega
              | some r => rw [hj1] at hc; rw [← Option.some.inj hc]; exact hj r hj1
          · rw [e6, e8]; rfl
        rw [ey]
        cases hp : (pln (tH Z) (tL Z) q j.2.1).isSome
        · rw [if_pos (by decide)]
          have e0 : (jdS (tH Z) (tL Z) q i j).1 = (match j.1 with | none => some i | some r => some r) := if_neg (by rw [hp]; decide)
          rw [e0] at nxt
          cases hj1 : j.1 with
          | none =>
            rw [hj1] at nxt
            rw [if_neg (show ¬ 0 ≤ oV none by decide)]
            exact nxt _ _
          | some r =>
            rw [hj1] at nxt
            have := hj r hj1
            rw [if_pos (show 0 ≤ oV (some r) by show 0 ≤ nI r; rw [nI_0le (by omega)]; trivial)]
            exact nxt _ _
        · rw [if_neg (by decide)]
          have e0 : (jdS (tH Z) (tL Z) q i j).1 = j.1 := if_pos hp
          rw [e0] at nxt
          exact nxt _ _
  · refine Agr_q (mI 2) hZ (fun h pl σ z => w_Ct_judged _ z.1.1 ?_) (fun σ z => w_Md_judged _ z.1 (lt_thr hZ z fun s z' f' => WE_i (m_within z'.1) ?_))
    · rcases g1 with g | ⟨g, g3⟩
      · rw [if_pos g]; exact ⟨rfl, z, Fg_r _ _⟩
      · rw [if_neg g, if_neg (Int32.not_le.mpr g3)]; exact ⟨rfl, z, Fg_r _ _⟩
    · rw [g2]
      exact ⟨rfl, z', f'⟩
end JD2

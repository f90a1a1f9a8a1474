section RI2
variable {Z : Ste} {x : Int32} {h pl k : Nat} {s t σ : JH} {H : Hou} {S : Mud}
def rgD (f : Nat → Nat) (n : Nat) : List (Nat × Nat) := if (rgF f n n).2.1 % 2 = 1 then (rgF f n n).1 ++ [(8, 9)] else (rgF f n n).1
theorem odd_9 {r : Nat} (hr : r < 9) : nI r &&& nI 1 = nI (r % 2) := by
  have : ∀ r, r < 9 → nI r &&& nI 1 = nI (r % 2) := by decide
  exact this r hr
theorem wkd_no {f : Nat → Nat} {n i y : Nat} (hp : Pn f n) (n8 : n ≤ 8) (hi : i < n) (h : ¬ (f i ≠ i ∧ wkd f i i = false)) : wkd f (i + 1) y = wkd f i y := by
  rw [wkd_s]
  by_cases c : f i = i
  · rw [decide_eq_true c]; simp
  · have z : wkd f i i = true := by
      cases q : wkd f i i
      · exact absurd ⟨c, q⟩ h
      · rfl
    rw [decide_eq_false c]
    cases hr : rg f i y
    · simp
    · unfold wkd at z ⊢
      obtain ⟨b, hb, hz⟩ := List.any_eq_true.mp z
      rw [Bool.and_eq_true] at hz
      have hbn : b < n := by have := List.mem_range.mp hb; omega
      have : (List.range i).any (fun b => !decide (f b = b) && rg f b y) = true := List.any_eq_true.mpr ⟨b, hb, by rw [Bool.and_eq_true]; exact ⟨hz.1, rg_tr hp n8 hbn hz.2 hr⟩⟩
      rw [this]; rfl
def cRg (H : Hou) (S : Mud) (s : JH) : Prop := cT (rgD (mi S) (Hn H)) s ∧ cHb (hbF (mi S) (Hn H) (Hn H)) s ∧ s.2.1 97 3 = nI (rgF (mi S) (Hn H) (Hn H)).2.1 ∧ s.2.1 97 4 = nI (rgF (mi S) (Hn H) (Hn H)).2.2.1 ∧ s.2.1 97 5 = nI (rgF (mi S) (Hn H) (Hn H)).2.2.2
set_option maxHeartbeats 1000000 in
theorem c_ringRead (hW : WH H) (hS : WS H S) (C : Cs H S 114 h σ) : WM q_Ri_read [.ref 97, .ref 114] σ (kV fun s => Cs H S 114 h s ∧ Fi PRi σ s ∧ cRg H S s) := by
  have n8 := hW.1
  have hp := hS.1
  have hho := ho_is C.2.1
  refine w_Ri_read 114 C.1 mu_114 ?_
  simp only [lt]
  have f4 : Fi PRi σ (jh_setI (jh_setI (jh_setI (jh_setI σ 97 2 (nI 0)) 97 3 (nI 0)) 97 4 (nI 0)) 97 5 (nI 0)) := Fi_s (Fi_s (Fi_s (Fi_s (Fi_r _ _) (Or.inl rfl)) (Or.inl rfl)) (Or.inl rfl)) (Or.inl rfl)
  have a2 : (jh_setI (jh_setI (jh_setI (jh_setI σ 97 2 (nI 0)) 97 3 (nI 0)) 97 4 (nI 0)) 97 5 (nI 0)).2.1 97 2 = nI 0 := (rI_ne (by omega)).trans ((rI_ne (by omega)).trans ((rI_ne (by omega)).trans rI_eq))
  have a3 : (jh_setI (jh_setI (jh_setI (jh_setI σ 97 2 (nI 0)) 97 3 (nI 0)) 97 4 (nI 0)) 97 5 (nI 0)).2.1 97 3 = nI 0 := (rI_ne (by omega)).trans ((rI_ne (by omega)).trans rI_eq)
  have a4 : (jh_setI (jh_setI (jh_setI (jh_setI σ 97 2 (nI 0)) 97 3 (nI 0)) 97 4 (nI 0)) 97 5 (nI 0)).2.1 97 4 = nI 0 := (rI_ne (by omega)).trans rI_eq
  have a5 : (jh_setI (jh_setI (jh_setI (jh_setI σ 97 2 (nI 0)) 97 3 (nI 0)) 97 4 (nI 0)) 97 5 (nI 0)).2.1 97 5 = nI 0 := rI_eq
  generalize jh_setI (jh_setI (jh_setI (jh_setI σ 97 2 (nI 0)) 97 3 (nI 0)) 97 4 (nI 0)) 97 5 (nI 0) = s4 at f4 a2 a3 a4 a5 ⊢
  have l4 := Fi_ly f4 C.1
  refine Lp2_inv (I := fun m v5 s6 => ∃ i, i ≤ 8 ∧ m = 8 - i ∧ v5 = nI i ∧ Fi (fun b _ => b = 99) s4 s6 ∧ ∀ b, b < i → s6.2.1 99 b = nI 0) ?_ (m := 8) ⟨0, by omega, by omega, rfl, Fi_r _ _, fun b hb => by omega⟩
  rintro m v5 s6 ⟨i, hi, rfl, rfl, f6, b6⟩ X hX
  refine ⟨Fi_ly f6 l4, ?_⟩
  by_cases c : 8 ≤ i
  · rw [if_pos (by rw [nI_leN (by omega) (by omega)]; exact c)]
    have fσ : Fi PRi σ s6 := Fi_t f4 (Fi_m f6 (fun b j q => Or.inr (Or.inr q)))
    have CC : ∀ t, Fi PRi σ t → Cs H S 114 h t := fun t ft => Cs_f C ft (fun j _ => by unfold PRi; omega) (fun b j _ _ => by unfold PRi; omega) (fun b j _ _ => by unfold PRi; omega)
    refine Lp4_inv (I := fun m v8 v9 _ s11 => ∃ i, i ≤ Hn H ∧ m = Hn H - i ∧ v9 = nI i ∧ v8 = nI (msk (wkd (mi S) i) (Hn H)) ∧ Fi PRi σ s11 ∧ cT (rgF (mi S) (Hn H) i).1 s11 ∧ cHb (hbF (mi S) (Hn H) i) s11 ∧ s11.2.1 97 3 = nI (rgF (mi S) (Hn H) i).2.1 ∧ s11.2.1 97 4 = nI (rgF (mi S) (Hn H) i).2.2.1 ∧ s11.2.1 97 5 = nI (rgF (mi S) (Hn H) i).2.2.2) ?_ (m := Hn H) ⟨0, by omega, by omega, rfl, congrArg nI (msk_0 (fun _ _ => rfl)).symm, fσ, ⟨(f6.2.2 _ _ (by omega)).trans a2, by show 0 ≤ 24; omega, fun j q e => (by cases e)⟩, fun b hb => b6 b (by omega), (f6.2.2 _ _ (by omega)).trans a3, (f6.2.2 _ _ (by omega)).trans a4, (f6.2.2 _ _ (by omega)).trans a5⟩
    rintro m v8 v9 o10 s11 ⟨i, hi, rfl, rfl, rfl, f11, t11, b11, e3, e4, e5⟩ X hX
    have C11 := CC s11 f11
    obtain ⟨n1, n2, n3, n4⟩ := rgF_len hp n8 i hi
    have nc := cntB_le (wkd (mi S) i) (Hn H)
    refine ⟨C11.1, ?_⟩
    rw [C11.2.2.2.1, C11.2.2.1.1]
    by_cases c2 : Hn H ≤ i
    · rw [if_pos (by rw [nI_leN (by omega) (by omega)]; exact c2)]
      have hin : i = Hn H := by omega
      subst hin
      rw [e3, odd_9 (by omega)]
      by_cases c3 : (rgF (mi S) (Hn H) (Hn H)).2.1 % 2 = 1
      · rw [if_pos (by rw [c3])]
        refine WM_V (c_addTurn C11.1 (by omega) (by omega) t11 (by omega)) fun s13 ⟨l13, f13, t13⟩ => ⟨l13, ?_⟩
        have f : Fi PRi σ s13 := Fi_t f11 (Fi_m f13 (fun b j q => by unfold PRi; omega))
        refine ⟨CC _ f, f, by unfold rgD; rw [if_pos c3]; exact t13, fun b hb => (f13.2.2 _ _ (by omega)).trans (b11 b hb), (f13.2.2 _ _ (by omega)).trans e3, (f13.2.2 _ _ (by omega)).trans e4, (f13.2.2 _ _ (by omega)).trans e5⟩
      · rw [if_neg (by rw [nI_eqN (by omega) (by omega)]; exact c3)]
        exact ⟨C11, f11, by unfold rgD; rw [if_neg c3]; exact t11, b11, e3, e4, e5⟩
    · rw [if_neg (by rw [nI_leN (by omega) (by omega)]; exact c2)]
      have hin : i < Hn H := by omega
      have b1 := hp.1 i hin
      refine ⟨by rw [inb_nI (by omega) (by omega)]; omega, ?_⟩
      have em : s11.2.1 (114 + 1) i = nI (mi S i) := C11.2.2.2.2.1 i hin
      rw [cl_nI (by omega), em, bk_get n8 hin]
      have skip : ∀ o, ¬ (mi S i ≠ i ∧ wkd (mi S) i i = false) → X (nI (msk (wkd (mi S) i) (Hn H))) (nI i + nI 1) o s11 := fun o hno => by
        have er : rgF (mi S) (Hn H) (i + 1) = rgF (mi S) (Hn H) i := if_neg hno
        have eh : hbF (mi S) (Hn H) (i + 1) = hbF (mi S) (Hn H) i := if_neg hno
        exact hX (Hn H - (i + 1)) _ _ _ _ (by omega) ⟨i + 1, by omega, rfl, nI_add i 1, congrArg nI (msk_ext (fun y hy => (wkd_no hp n8 hin hno).symm)), f11, by rw [er]; exact t11, by rw [eh]; exact b11, by rw [er]; exact e3, by rw [er]; exact e4, by rw [er]; exact e5⟩
      by_cases d : mi S i = i
      · rw [if_pos (by rw [d])]
        exact skip _ (fun q => q.1 d)
      · rw [if_neg (by rw [nI_eqN (by omega) (by omega)]; exact d)]
        cases z : wkd (mi S) i i
        · rw [if_pos (by decide)]
          refine WE_i (c_ringOf C11.1 mu_114 hW hS C11.2.2.2 hin) (WE_i (j_bcm C11.1 n8) ?_)
          have h2 := per_2 hp n8 hin d
          have hw := wkd_ring hp n8 hin d z
          have hw2 := cntB_le (wkd (mi S) (i + 1)) (Hn H)
          refine WM_V (c_addRing hW hS C11 hin rfl h2 t11 (by omega) b11 e3 e4 e5 n3) fun s16 ⟨C16, f16, t16, b16, g3, g4, g5⟩ => ⟨C16.1, ?_⟩
          have er : rgF (mi S) (Hn H) (i + 1) = ((rgF (mi S) (Hn H) i).1 ++ rtn (mi S) i (cntB (rg (mi S) i) (Hn H)), (rgF (mi S) (Hn H) i).2.1 + 1, max (rgF (mi S) (Hn H) i).2.2.1 (cntB (rg (mi S) i) (Hn H)), (rgF (mi S) (Hn H) i).2.2.2 + (cntB (rg (mi S) i) (Hn H) - 1)) := if_pos ⟨d, z⟩
          have eh : hbF (mi S) (Hn H) (i + 1) = hbS (mi S) i (cntB (rg (mi S) i) (Hn H)) (rgF (mi S) (Hn H) i).1.length (hbF (mi S) (Hn H) i) := if_pos ⟨d, z⟩
          rw [bk_or]
          refine hX (Hn H - (i + 1)) _ _ _ _ (by omega) ⟨i + 1, by omega, rfl, nI_add i 1, congrArg nI (msk_ext (fun y hy => ?_)), Fi_t f11 f16, by rw [er]; exact t16, by rw [eh]; exact b16, by rw [er]; exact g3, by rw [er]; exact g4, by rw [er]; exact g5⟩
          rw [wkd_s]; simp [d]
        · rw [if_neg (by decide)]
          exact skip _ (fun q => by rw [z] at q; cases q.2)
  · rw [if_neg (by rw [nI_leN (by omega) (by omega)]; exact c)]
    refine ⟨by rw [inb_nI (by omega) (by omega)]; omega, ?_⟩
    rw [cl_nI (by omega)]
    refine hX (8 - (i + 1)) _ _ (by omega) ⟨i + 1, by omega, rfl, nI_add i 1, Fi_s f6 rfl, fun b hb => ?_⟩
    by_cases w : b = i
    · rw [w]; exact rI_eq
    · exact (rI_ne (by omega)).trans (b6 b (by omega))
end RI2

/-! ===== the class reads the rings ===== -/
section RI
variable {Z : Ste} {h pl k : Nat} {s t σ : JH} {H : Hou} {S : Mud} {T : List (Nat × Nat)} {hb : Nat → Nat}
def PRi (b _j : Nat) : Prop := b = 97 ∨ b = 98 ∨ b = 99
def cT (T : List (Nat × Nat)) (s : JH) : Prop := s.2.1 97 2 = nI T.length ∧ T.length ≤ 24 ∧ ∀ j q, T[j]? = some q → s.2.1 98 j = nI (10 * q.1 + q.2)
def cHb (hb : Nat → Nat) (s : JH) : Prop := ∀ b, b < 8 → s.2.1 99 b = nI (hb b)
theorem cT_f {P : Nat → Nat → Prop} (f : Fi P s t) (h1 : ¬ P 97 2) (h2 : ∀ j, ¬ P 98 j) (z : cT T s) : cT T t := ⟨(f.2.2 _ _ h1).trans z.1, z.2.1, fun j q e => (f.2.2 _ _ (h2 j)).trans (z.2.2 j q e)⟩
theorem c_addTurn {a b : Nat} (hl : Ly s) (ha : a < 10) (hb : b < 10) (z : cT T s) (h24 : T.length < 24) : WM q_Ri_addTurn [.ref 97, .int (nI a), .int (nI b)] s (kV fun t => Ly t ∧ Fi (fun b j => b = 98 ∨ (b = 97 ∧ j = 2)) s t ∧ cT (T ++ [(a, b)]) t) := by
  refine w_Ri_addTurn _ _ hl ?_
  obtain ⟨z1, z2, z3⟩ := z
  rw [z1, if_neg (by rw [nI_leN (by omega) (by omega)]; omega)]
  refine ⟨by rw [inb_nI (by omega) (by omega)]; omega, ?_⟩
  rw [cl_nI (by omega), nI_mulN, nI_add]
  simp only [lt]
  have f1 : Fi (fun b j => b = 98 ∨ (b = 97 ∧ j = 2)) s (jh_setI s 98 T.length (nI (10 * a + b))) := Fi_s (Fi_r _ _) (Or.inl rfl)
  have e1 : (jh_setI s 98 T.length (nI (10 * a + b))).2.1 98 T.length = nI (10 * a + b) := rI_eq
  have e2 : (jh_setI s 98 T.length (nI (10 * a + b))).2.1 97 2 = nI T.length := (rI_ne (by omega)).trans z1
  have e3 : ∀ j, j ≠ T.length → (jh_setI s 98 T.length (nI (10 * a + b))).2.1 98 j = s.2.1 98 j := fun j hj => rI_ne (by omega)
  generalize jh_setI s 98 T.length (nI (10 * a + b)) = s1 at f1 e1 e2 e3 ⊢
  rw [e2, nI_add]
  have f2 : Fi (fun b j => b = 98 ∨ (b = 97 ∧ j = 2)) s (jh_setI s1 97 2 (nI (T.length + 1))) := Fi_s f1 (Or.inr ⟨rfl, rfl⟩)
  have hlen : (T ++ [(a, b)]).length = T.length + 1 := by rw [List.length_append]; rfl
  refine ⟨Fi_ly f2 hl, f2, by rw [hlen]; exact rI_eq, by omega, fun j q e => ?_⟩
  have hj : j < (T ++ [(a, b)]).length := (List.getElem?_eq_some_iff.mp e).1
  rw [rI_ne (by omega)]
  by_cases c : j < T.length
  · rw [List.getElem?_append_left c] at e
    rw [e3 j (by omega)]
    exact z3 j q e
  · rw [List.getElem?_append_right (by omega), show j - T.length = 0 by omega] at e
    obtain rfl := Option.some.inj e
    rw [show j = T.length by omega]
    exact e1
theorem rg_map (f : Nat → Nat) (k i : Nat) : (List.range (i + 1)).map (fun i => ((8 : Nat), itr f i k)) = (List.range i).map (fun i => (8, itr f i k)) ++ [(8, itr f i k)] := by
  rw [List.range_succ, List.map_append]; rfl
theorem cHb_up {b v : Nat} (hb8 : b < 8) (z : cHb hb s) : cHb (up1 hb b v) (jh_setI s 99 b (nI v)) := by
  intro y hy
  by_cases c : y = b
  · rw [c, up1_eq]; exact rI_eq
  · rw [up1_ne c, rI_ne (by omega)]; exact z y hy
set_option maxHeartbeats 1000000 in
theorem c_addRing {sz r lo wa : Nat} (hW : WH H) (hS : WS H S) (C : Cs H S 114 h σ) (hk : k < Hn H) (hs : sz = cntB (rg (mi S) k) (Hn H)) (h2 : 2 ≤ sz) (zT : cT T σ) (h24 : T.length + sz + 2 ≤ 24) (zH : cHb hb σ) (e3 : σ.2.1 97 3 = nI r) (e4 : σ.2.1 97 4 = nI lo) (e5 : σ.2.1 97 5 = nI wa) (hlo : lo ≤ 8) :
    WM q_Ri_addRing [.ref 97, .ref 114, .int (nI k), .int (nI sz)] σ (kV fun s => Cs H S 114 h s ∧ Fi PRi σ s ∧ cT (T ++ rtn (mi S) k sz) s ∧ cHb (hbS (mi S) k sz T.length hb) s ∧ s.2.1 97 3 = nI (r + 1) ∧ s.2.1 97 4 = nI (max lo sz) ∧ s.2.1 97 5 = nI (wa + (sz - 1))) := by
  have n8 := hW.1
  have hp := hS.1
  have hc := cntB_le (rg (mi S) k) (Hn H)
  have hho := ho_is C.2.1
  obtain ⟨s', p1, p2, p3, p4, p5, p6⟩ := per hp n8 hk
  have hss : s' = sz := by rw [hs, p4]
  subst hss
  refine w_Ri_addRing 114 _ _ C.1 mu_114 ?_
  simp only [lt]
  rw [e3, nI_add]
  have g1 : Fi PRi σ (jh_setI σ 97 3 (nI (r + 1))) := Fi_s (Fi_r _ _) (Or.inl rfl)
  rw [show (jh_setI σ 97 3 (nI (r + 1))).2.1 97 4 = nI lo from (rI_ne (by omega)).trans e4]
  refine WE_i (j_max (Fi_ly g1 C.1) (by omega) (by omega)) ?_
  rw [nI_subN (by omega), show (jh_setI (jh_setI σ 97 3 (nI (r + 1))) 97 4 (nI (max lo s'))).2.1 97 5 = nI wa from (rI_ne (by omega)).trans ((rI_ne (by omega)).trans e5), nI_add]
  have g3 : Fi (fun b j => b = 97 ∧ j ≠ 2) σ (jh_setI (jh_setI (jh_setI σ 97 3 (nI (r + 1))) 97 4 (nI (max lo s'))) 97 5 (nI (wa + (s' - 1)))) := Fi_s (Fi_s (Fi_s (Fi_r _ _) ⟨rfl, by omega⟩) ⟨rfl, by omega⟩) ⟨rfl, by omega⟩
  have d3 : (jh_setI (jh_setI (jh_setI σ 97 3 (nI (r + 1))) 97 4 (nI (max lo s'))) 97 5 (nI (wa + (s' - 1)))).2.1 97 3 = nI (r + 1) := (rI_ne (by omega)).trans ((rI_ne (by omega)).trans rI_eq)
  have d4 : (jh_setI (jh_setI (jh_setI σ 97 3 (nI (r + 1))) 97 4 (nI (max lo s'))) 97 5 (nI (wa + (s' - 1)))).2.1 97 4 = nI (max lo s') := (rI_ne (by omega)).trans rI_eq
  have d5 : (jh_setI (jh_setI (jh_setI σ 97 3 (nI (r + 1))) 97 4 (nI (max lo s'))) 97 5 (nI (wa + (s' - 1)))).2.1 97 5 = nI (wa + (s' - 1)) := rI_eq
  generalize jh_setI (jh_setI (jh_setI σ 97 3 (nI (r + 1))) 97 4 (nI (max lo s'))) 97 5 (nI (wa + (s' - 1))) = s4 at g3 d3 d4 d5 ⊢
  have C4 : ∀ t, Fi PRi s4 t → Cs H S 114 h t := fun t ft => Cs_f C (Fi_t (Fi_m g3 (fun b j q => Or.inl q.1)) ft) (fun j _ => by omega) (fun b j _ _ => by omega) (fun b j _ _ => by omega)
  refine Lp3_inv (I := fun m v5 v6 s7 => ∃ i, i ≤ s' - 1 ∧ m = s' - 1 - i ∧ v5 = nI (itr (mi S) i k) ∧ v6 = nI (i + 1) ∧ Fi (fun b j => b = 98 ∨ b = 99 ∨ (b = 97 ∧ j = 2)) s4 s7 ∧ cT (T ++ (List.range i).map (fun i => (8, itr (mi S) i k))) s7 ∧ cHb (hb1 (mi S) k T.length hb i) s7) ?_ (m := s' - 1) ⟨0, by omega, by omega, rfl, rfl, Fi_r _ _, by
    show cT (T ++ []) s4
    rw [List.append_nil]
    exact cT_f g3 (by omega) (fun j => by omega) zT, fun b hb => (g3.2.2 _ _ (by omega)).trans (zH b hb)⟩
  rintro m v5 v6 s7 ⟨i, hi, rfl, rfl, rfl, f7, t7, b7⟩ X hX
  have C7 := C4 s7 (Fi_m f7 (fun b j q => by unfold PRi; omega))
  have hb8 := itr_lt hp hk i
  have hlen : (T ++ (List.range i).map (fun i => ((8 : Nat), itr (mi S) i k))).length = T.length + i := by rw [List.length_append, List.length_map, List.length_range]
  refine ⟨C7.1, ?_⟩
  by_cases c : s' ≤ i + 1
  · rw [if_pos (by rw [nI_leN (by omega) (by omega)]; exact c)]
    have hi1 : i = s' - 1 := by omega
    refine WM_V (c_addTurn C7.1 (by omega) (by omega) t7 (by omega)) fun s9 ⟨l9, f9, t9⟩ => ⟨l9, ?_⟩
    have hl9 : (T ++ (List.range i).map (fun i => ((8 : Nat), itr (mi S) i k)) ++ [(9, itr (mi S) i k)]).length = T.length + i + 1 := by rw [List.length_append, hlen]; rfl
    refine WM_V (c_addTurn l9 (by omega) (by omega) t9 (by omega)) fun s10 ⟨l10, f10, t10⟩ => ⟨l10, ?_⟩
    have hl10 : (T ++ (List.range i).map (fun i => ((8 : Nat), itr (mi S) i k)) ++ [(9, itr (mi S) i k)] ++ [(8, itr (mi S) i k)]).length = T.length + i + 2 := by rw [List.length_append, hl9]; rfl
    refine ⟨by rw [inb_nI (by omega) (by omega)]; omega, ?_⟩
    rw [cl_nI (by omega), t10.1, hl10]
    have f710 : Fi (fun b j => b = 98 ∨ (b = 97 ∧ j = 2)) s7 s10 := Fi_t f9 f10
    have b10 : cHb (hb1 (mi S) k T.length hb i) s10 := fun b hb => (f710.2.2 _ _ (by omega)).trans (b7 b hb)
    have b11 := cHb_up (b := itr (mi S) i k) (v := T.length + i + 2) (by omega) b10
    have f11 : Fi (fun b _ => b = 99) s10 (jh_setI s10 99 (itr (mi S) i k) (nI (T.length + i + 2))) := Fi_s (Fi_r _ _) rfl
    have l11 := Fi_ly f11 l10
    have t11 := cT_f f11 (by omega) (fun j => by omega) t10
    generalize jh_setI s10 99 (itr (mi S) i k) (nI (T.length + i + 2)) = s11 at b11 f11 l11 t11 ⊢
    refine WM_V (c_addTurn l11 (by omega) (by omega) t11 (by omega)) fun s12 ⟨l12, f12, t12⟩ => ⟨l12, ?_⟩
    have hl12 : (T ++ (List.range i).map (fun i => ((8 : Nat), itr (mi S) i k)) ++ [(9, itr (mi S) i k)] ++ [(8, itr (mi S) i k)] ++ [(9, k)]).length = T.length + i + 3 := by rw [List.length_append, hl10]; rfl
    refine ⟨by rw [inb_nI (by omega) (by omega)]; omega, ?_⟩
    rw [cl_nI (by omega), t12.1, hl12]
    have b12 : cHb (up1 (hb1 (mi S) k T.length hb i) (itr (mi S) i k) (T.length + i + 2)) s12 := fun b hb => (f12.2.2 _ _ (by omega)).trans (b11 b hb)
    have b13 := cHb_up (b := k) (v := T.length + i + 3) (by omega) b12
    have f13 : Fi (fun b _ => b = 99) s12 (jh_setI s12 99 k (nI (T.length + i + 3))) := Fi_s (Fi_r _ _) rfl
    have t13 := cT_f f13 (by omega) (fun j => by omega) t12
    generalize jh_setI s12 99 k (nI (T.length + i + 3)) = s13 at b13 f13 t13 ⊢
    have f413 : Fi (fun b j => b = 98 ∨ b = 99 ∨ (b = 97 ∧ j = 2)) s4 s13 := Fi_t f7 (Fi_t (Fi_m f710 (fun b j q => by omega)) (Fi_t (Fi_m f11 (fun b j q => by omega)) (Fi_t (Fi_m f12 (fun b j q => by omega)) (Fi_m f13 (fun b j q => by omega)))))
    refine ⟨C4 _ (Fi_m f413 (fun b j q => by unfold PRi; omega)), Fi_t (Fi_m g3 (fun b j q => Or.inl q.1)) (Fi_m f413 (fun b j q => by unfold PRi; omega)), ?_, ?_, (f413.2.2 _ _ (by omega)).trans d3, (f413.2.2 _ _ (by omega)).trans d4, (f413.2.2 _ _ (by omega)).trans d5⟩
    · unfold rtn
      rw [← hi1]
      rw [List.append_assoc, List.append_assoc, List.append_assoc] at t13
      exact t13
    · unfold hbS
      rw [← hi1, show T.length + s' + 1 = T.length + i + 2 by omega, show T.length + s' + 2 = T.length + i + 3 by omega]
      exact b13
  · rw [if_neg (by rw [nI_leN (by omega) (by omega)]; exact c)]
    refine WM_V (c_addTurn C7.1 (by omega) (by omega) t7 (by omega)) fun s14 ⟨l14, f14, t14⟩ => ⟨l14, ?_⟩
    have hl14 : (T ++ (List.range i).map (fun i => ((8 : Nat), itr (mi S) i k)) ++ [(8, itr (mi S) i k)]).length = T.length + i + 1 := by rw [List.length_append, hlen]; rfl
    refine ⟨by rw [inb_nI (by omega) (by omega)]; omega, ?_⟩
    rw [cl_nI (by omega), t14.1, hl14]
    have b14 : cHb (hb1 (mi S) k T.length hb i) s14 := fun b hb => (f14.2.2 _ _ (by omega)).trans (b7 b hb)
    have b15 := cHb_up (b := itr (mi S) i k) (v := T.length + i + 1) (by omega) b14
    have f15 : Fi (fun b _ => b = 99) s14 (jh_setI s14 99 (itr (mi S) i k) (nI (T.length + i + 1))) := Fi_s (Fi_r _ _) rfl
    have t15 := cT_f f15 (by omega) (fun j => by omega) t14
    generalize jh_setI s14 99 (itr (mi S) i k) (nI (T.length + i + 1)) = s15 at b15 f15 t15 ⊢
    refine ⟨by rw [inb_nI (by omega) (by omega)]; omega, ?_⟩
    have f415 : Fi (fun b j => b = 98 ∨ b = 99 ∨ (b = 97 ∧ j = 2)) s4 s15 := Fi_t f7 (Fi_t (Fi_m f14 (fun b j q => by omega)) (Fi_m f15 (fun b j q => by omega)))
    have C15 := C4 _ (Fi_m f415 (fun b j q => by unfold PRi; omega))
    have e15 : s15.2.1 (114 + 1) (itr (mi S) i k) = nI (mi S (itr (mi S) i k)) := C15.2.2.2.2.1 _ (by omega)
    rw [e15, ← itr_s (mi S) i k]
    refine hX (s' - 1 - (i + 1)) _ _ _ (by omega) ⟨i + 1, by omega, rfl, rfl, nI_add (i + 1) 1, f415, ?_, b15⟩
    rw [rg_map, ← List.append_assoc]
    exact t15
end RI

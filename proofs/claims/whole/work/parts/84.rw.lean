/-! ===== rows: what class and model count is the same ===== -/
section RW
variable {Z : Ste} {x y w : Int32} {h pl : Nat} {s t σ : JH} {H : Hou} {L : Option Lws} {S : Mud} {sn : Sen} {mnd : Bool}
theorem fold_rel {α β γ : Type} {R : β → γ → Prop} {f : β → α → β} {g : γ → α → γ} : ∀ (l : List α) (b : β) (c : γ), (∀ b c a, a ∈ l → R b c → R (f b a) (g c a)) → R b c → R (l.foldl f b) (l.foldl g c) := by
  intro l
  induction l with
  | nil => intro b c _ q; exact q
  | cons a l ih => intro b c h q; exact ih _ _ (fun b' c' a' ha q' => h b' c' a' (List.mem_cons_of_mem _ ha) q') (h b c a (List.mem_cons_self ..) q)
def Rlr (H : Hou) (mnd : Bool) (st : Rst) (ct : Crs) : Prop := ct.1 = st.1 ∧ (∀ p, (ct.2.1 p = true ↔ st.2.1 p = st.1) ∧ (ct.2.2.1 p = true ↔ 0 < st.2.1 p) ∧ st.2.1 p ≤ st.1) ∧ (mnd = true → ct.2.2.2 = st.2.2) ∧ (∀ q, st.2.2 q ≤ st.1) ∧ (∀ q, Hn H ≤ q % 8 → st.2.2 q = 0)
theorem Rlr_0 : Rlr H mnd (0, fun _ => 0, fun _ => 0) (0, fun _ => true, fun _ => false, fun _ => 0) := ⟨rfl, fun p => ⟨⟨fun _ => rfl, fun _ => rfl⟩, ⟨fun q => (by cases q), fun q => absurd q (by show ¬ 0 < 0; omega)⟩, Nat.le_refl _⟩, fun _ => rfl, fun _ => Nat.le_refl _, fun _ _ => rfl⟩
theorem nodup_cnt {l : List Nat} (h : l.Nodup) (p : Nat) : l.count p = if p ∈ l then 1 else 0 := by
  by_cases c : p ∈ l
  · rw [if_pos c]
    have h1 := List.nodup_iff_count.mp h p
    have h2 := List.count_pos_iff.mpr c
    omega
  · rw [if_neg c]; exact List.count_eq_zero.mpr c
theorem Rlr_add {pre : List Nat} {st : Rst} {ct : Crs} (hS : WS H S) (hn : pre.Nodup) (r : Rlr H mnd st ct) : Rlr H mnd (radd H S pre st) (cadd H mnd S pre ct) := by
  obtain ⟨r1, r2, r3, r4, r5⟩ := r
  refine ⟨by show ct.1 + 1 = st.1 + 1; rw [r1], fun p => ?_, fun hm => ?_, fun q => ?_, fun q hq => ?_⟩
  · obtain ⟨a, b, c⟩ := r2 p
    show ((ct.2.1 p && decide (p ∈ pre)) = true ↔ st.2.1 p + pre.count p = st.1 + 1) ∧ ((ct.2.2.1 p || decide (p ∈ pre)) = true ↔ 0 < st.2.1 p + pre.count p) ∧ st.2.1 p + pre.count p ≤ st.1 + 1
    rw [nodup_cnt hn p]
    by_cases m : p ∈ pre
    · rw [if_pos m, decide_eq_true m, Bool.and_true, Bool.or_true]
      exact ⟨⟨fun q => by rw [a.mp q], fun q => a.mpr (by omega)⟩, ⟨fun _ => by omega, fun _ => rfl⟩, by omega⟩
    · rw [if_neg m, decide_eq_false m, Bool.and_false, Bool.or_false]
      exact ⟨⟨fun q => (by cases q), fun q => by omega⟩, b, by omega⟩
  · show (fun q => ct.2.2.2 q + if mnd = true ∧ q / 8 < Hn H ∧ mi S (q / 8) = q % 8 then 1 else 0) = (fun q => st.2.2 q + if q / 8 < Hn H ∧ mi S (q / 8) = q % 8 then 1 else 0)
    rw [r3 hm]
    funext q
    by_cases c : q / 8 < Hn H ∧ mi S (q / 8) = q % 8
    · rw [if_pos c, if_pos ⟨hm, c⟩]
    · rw [if_neg c, if_neg (fun z => c z.2)]
  · show st.2.2 q + (if q / 8 < Hn H ∧ mi S (q / 8) = q % 8 then 1 else 0) ≤ st.1 + 1
    have := r4 q
    split <;> omega
  · show st.2.2 q + (if q / 8 < Hn H ∧ mi S (q / 8) = q % 8 then 1 else 0) = 0
    rw [r5 q hq, if_neg]
    intro c
    have := hS.1.1 (q / 8) c.1
    omega
theorem Rlr_all (hW : WH H) : ∀ (d : Nat) (S : Mud) (pre : List Nat) (st : Rst) (ct : Crs), WS H S → pre.Nodup → (∀ p ∈ pre, me S (p / 8) (p % 8) = true) → Rlr H mnd st ct → Rlr H mnd (rowsR H sn d S pre st) (frR H sn mnd d S pre ct) := by
  intro d
  induction d with
  | zero =>
    intro S pre st ct hS hn hm r
    unfold rowsR frR
    split
    · exact Rlr_add hS hn r
    · exact r
  | succ d ih =>
    intro S pre st ct hS hn hm r
    unfold rowsR frR
    refine fold_rel _ _ _ (fun b c p hp q => ?_) r
    obtain ⟨m1, m2, m3, m4, m5⟩ := opl_mem hW.1 hp
    have hno : me S (p / 8) (p % 8) = false := by
      unfold mayT at m5
      cases h : me S (p / 8) (p % 8)
      · rfl
      · rw [h] at m5; simp at m5
    have hnp : ¬ p ∈ pre := fun q => by rw [hm p q] at hno; cases hno
    refine ih _ _ _ _ (WS_trnC hW hS hp) ?_ (fun q hq => ?_) q
    · exact List.nodup_append.mpr ⟨hn, List.nodup_cons.mpr ⟨List.not_mem_nil, List.nodup_nil⟩, fun a ha b hb => by rw [List.mem_singleton.mp hb]; exact fun z => hnp (z ▸ ha)⟩
    · show (if (q / 8 = p / 8 ∧ q % 8 = p % 8) ∨ (q / 8 = p % 8 ∧ q % 8 = p / 8) then true else me S (q / 8) (q % 8)) = true
      rcases List.mem_append.mp hq with hq | hq
      · rw [hm q hq]; split <;> rfl
      · rw [List.mem_singleton.mp hq, if_pos (Or.inl ⟨rfl, rfl⟩)]
theorem rows_le (n8 : Hn H ≤ 8) : ∀ (d : Nat) (S : Mud) (pre : List Nat) (st : Rst), (rowsR H sn d S pre st).1 ≤ st.1 + 28 ^ d := by
  intro d
  induction d with
  | zero => intro S pre st; unfold rowsR; split; exact Nat.le_refl _; exact Nat.le_add_right _ _
  | succ d ih =>
    intro S pre st
    unfold rowsR
    have h : ∀ (l : List Nat) (st : Rst), (l.foldl (fun st p => rowsR H sn d (trnC S p) (pre ++ [p]) st) st).1 ≤ st.1 + l.length * 28 ^ d := by
      intro l
      induction l with
      | nil => intro st; exact Nat.le_add_right _ _
      | cons p l ihl =>
        intro st
        have h1 := ihl (rowsR H sn d (trnC S p) (pre ++ [p]) st)
        have h2 := ih (trnC S p) (pre ++ [p]) st
        rw [List.foldl_cons]
        have : (p :: l).length * 28 ^ d = l.length * 28 ^ d + 28 ^ d := by rw [List.length_cons, Nat.add_mul, Nat.one_mul]
        omega
    have h1 := h (opl H S) st
    have h2 := Nat.mul_le_mul_right (28 ^ d) (opl_28 S n8)
    rw [Nat.pow_succ, Nat.mul_comm (28 ^ d)]
    omega
set_option maxHeartbeats 1000000 in
theorem c_countRows {d : Nat} (hZ : WZ Z) (z : Rc Z h pl σ) (h1 : 1 ≤ d) (h3 : d ≤ 3) : WM q_Ta_countRows [.ref 107, .ref 114, .int (nI d), .int (bI mnd)] σ (kV fun s => Ly s ∧ Rc Z h pl s ∧ Fg (fun b _ => 64 ≤ b ∧ b < 204) σ s ∧ cRo mnd (frR (tH Z) (tF Z).2.2 mnd d (tF Z).1 [] (0, fun _ => true, fun _ => false, fun _ => 0)) s ∧ Cs (tH Z) (tF Z).1 110 h s) := by
  have hW := hZ.1
  have hh := ho_is z.1.2.1
  refine w_Ta_countRows 114 _ _ z.1.1 mu_114 ?_
  refine WM_V (c_copySeen mu_110 mu_114 (by omega) hW (Rc_Cs z) z.2.2.2.2.1) fun s1 ⟨l1, F1, f1⟩ => ⟨l1, bI_bit _, ?_⟩
  simp only [lt]
  have C1 : Cs (tH Z) (tF Z).1 110 h s1 := ⟨l1, z.1.2.1, cH_g f1 (fun b j _ _ => by unfold PMs; omega) (Rc_H z), F1.1⟩
  have f5 : Fj (fun b j => b = 107 ∧ 5 ≤ j ∧ j ≤ 8) s1 (jh_setJ (jh_setJ (jh_setI (jh_setI s1 107 8 (bI mnd)) 107 5 (nI 0)) 107 6 (-1)) 107 7 0) := Fj_sJ (Fj_sJ (Fj_sI (Fj_sI (Fj_r _ _) ⟨rfl, by omega, by omega⟩) ⟨rfl, by omega, by omega⟩) ⟨rfl, by omega, by omega⟩) ⟨rfl, by omega, by omega⟩
  have a8 : (jh_setJ (jh_setJ (jh_setI (jh_setI s1 107 8 (bI mnd)) 107 5 (nI 0)) 107 6 (-1)) 107 7 0).2.1 107 8 = bI mnd := by
    rw [rJ_1, rJ_1, rI_ne (by omega), rI_eq]
  have a5 : (jh_setJ (jh_setJ (jh_setI (jh_setI s1 107 8 (bI mnd)) 107 5 (nI 0)) 107 6 (-1)) 107 7 0).2.1 107 5 = nI 0 := by
    rw [rJ_1, rJ_1, rI_eq]
  have a6 : (jh_setJ (jh_setJ (jh_setI (jh_setI s1 107 8 (bI mnd)) 107 5 (nI 0)) 107 6 (-1)) 107 7 0).2.2.1 107 6 = lN (msk (fun _ => true) 64) := by
    rw [rJ_ne (by omega), rJ_eq]; decide
  have a7 : (jh_setJ (jh_setJ (jh_setI (jh_setI s1 107 8 (bI mnd)) 107 5 (nI 0)) 107 6 (-1)) 107 7 0).2.2.1 107 7 = lN (msk (fun _ => false) 64) := by
    rw [rJ_eq]; decide
  generalize jh_setJ (jh_setJ (jh_setI (jh_setI s1 107 8 (bI mnd)) 107 5 (nI 0)) 107 6 (-1)) 107 7 0 = s5 at f5 a8 a5 a6 a7 ⊢
  refine Lp2_inv (I := fun m v6 s7 => ∃ i, i ≤ 64 ∧ m = 64 - i ∧ v6 = nI i ∧ Fi (fun b _ => b = 109) s5 s7 ∧ ∀ q, q < i → s7.2.1 109 q = nI 0) ?_ (m := 64) ⟨0, by omega, by omega, rfl, Fi_r _ _, fun q hq => by omega⟩
  rintro m v6 s7 ⟨i, hi, rfl, rfl, f7, t7⟩ X hX
  have l5 := Fj_ly f5 l1
  have l7 := Fi_ly f7 l5
  refine ⟨l7, ?_⟩
  by_cases c : 64 ≤ i
  · rw [if_pos (by rw [nI_leN (by omega) (by omega)]; exact c)]
    have f17 : Fj (fun b j => b = 109 ∨ (b = 107 ∧ 5 ≤ j ∧ j ≤ 8)) s1 s7 := Fj_t (Fj_m f5 (fun b j q => Or.inr q)) (Fj_m (Fi_j f7) (fun b j q => Or.inl q))
    have C7 : Cs (tH Z) (tF Z).1 110 h s7 := Cs_j C1 f17 (fun j _ => by omega) (fun b j _ _ => by omega) (fun b j _ _ => by omega)
    have N7 : cSn (tH Z) (tF Z).2.2 110 s7 := ⟨(f17.2.2.2 _ _ (by omega)).trans F1.2.2.1, (f17.2.2.1 _ _ (by omega)).trans F1.2.2.2.1, F1.2.2.2.2⟩
    have R7 : cRo mnd (0, fun _ => true, fun _ => false, fun _ => 0) s7 := ⟨(f7.2.2 _ _ (by omega)).trans a5, by rw [f7.2.1]; exact a6, by rw [f7.2.1]; exact a7, fun q hq => t7 q (by omega), (f7.2.2 _ _ (by omega)).trans a8⟩
    have e0 : (0 : Int64) = lN (msk (fun q => decide (q ∈ ([] : List Nat))) 64) := by decide
    rw [e0]
    refine WM_V (c_followRows hW 40 d (by omega) _ [] _ s7 h1 h3 hZ.2.1 C7 N7 R7) fun s9 ⟨C9, f9, R9⟩ => ⟨C9.1, C9.1, ?_⟩
    have f : Fg (fun b j => PMs 110 b j ∨ b = 109 ∨ (b = 107 ∧ 5 ≤ j ∧ j ≤ 8) ∨ PFo b j) σ s9 := Fg_t (Fg_m f1 (fun b j q => Or.inl q)) (Fg_t (Fg_m (Fj_g f17) (fun b j q => by omega)) (Fg_m (Fj_g f9) (fun b j q => Or.inr (Or.inr (Or.inr q)))))
    obtain ⟨r1, r2⟩ := Rc_ok z f C9.1 (fun b j q => by unfold PMs PFo PM PCr at q; unfold PcT; omega)
    exact ⟨r1, r2, R9, C9⟩
  · rw [if_neg (by rw [nI_leN (by omega) (by omega)]; exact c)]
    refine ⟨by rw [inb_nI (by omega) (by omega)]; omega, ?_⟩
    rw [cl_nI (by omega)]
    refine hX (64 - (i + 1)) _ _ (by omega) ⟨i + 1, by omega, rfl, nI_add i 1, Fi_s f7 rfl, fun q hq => ?_⟩
    by_cases w : q = i
    · rw [w]; exact rI_eq
    · exact (rI_ne (by omega)).trans (t7 q (by omega))
end RW

section HM2
variable {f : Nat → Nat} {n p : Nat}
def hm0 (f : Nat → Nat) (n p : Nat) : Hst := (fun y => if y < n then f y else y, if (if p < n then f p else p) = p then some 0 else none)
theorem hm_fold (hp : Pn f n) (n8 : n ≤ 8) (hpn : p < n) : ∀ i, i ≤ n → ∀ st, st = hmR p (rgF f n i).1 0 (hm0 f n p) → st.1 8 = (if (rgF f n i).2.1 % 2 = 0 then 8 else 9) ∧ st.1 9 = (if (rgF f n i).2.1 % 2 = 0 then 9 else 8) ∧ (∀ y, y < n → st.1 y = if wkd f i y = true then y else f y) ∧ hmI p st (hbF f n i) := by
  intro i
  induction i with
  | zero =>
    intro _ st e
    have e : st = hm0 f n p := e
    subst e
    refine ⟨if_neg (by omega), if_neg (by omega), fun y hy => ?_, rfl⟩
    show (if y < n then f y else y) = if wkd f 0 y = true then y else f y
    rw [if_pos hy, if_neg (by show ¬ false = true; decide)]
  | succ i ih =>
    intro hi st e
    obtain ⟨b8, b9, b1, b2⟩ := ih (by omega) _ rfl
    have hin : i < n := by omega
    by_cases c : f i ≠ i ∧ wkd f i i = false
    · obtain ⟨s, p1, p2, p3, p4, p5, p6⟩ := per hp n8 hin
      have h2 := per_2 hp n8 hin c.1
      rw [p4] at h2
      have er : rgF f n (i + 1) = ((rgF f n i).1 ++ rtn f i s, (rgF f n i).2.1 + 1, max (rgF f n i).2.2.1 s, (rgF f n i).2.2.2 + (s - 1)) := by rw [← p4]; exact if_pos c
      have eh : hbF f n (i + 1) = hbS f i s (rgF f n i).1.length (hbF f n i) := by rw [← p4]; exact if_pos c
      rw [er, hmR_app, Nat.zero_add] at e
      generalize hmR p (rgF f n i).1 0 (hm0 f n p) = st0 at b8 b9 b1 b2 e
      have nw : ∀ m, m < s → wkd f i (itr f m i) = false := by
        intro m hm
        cases q : wkd f i (itr f m i)
        · rfl
        · have := wkd_cl hp n8 hin q ((p6 _).mpr ⟨m, hm, rfl⟩)
          rw [c.2] at this
          cases this
      obtain ⟨r8, r9, r1, r2, r3⟩ := ring_sim (p := p) (k := i) (s := s) (l0 := (rgF f n i).1.length) (a := st0.1) (v := st0.2) (hb := hbF f n i) (by omega) h2 (fun m _ => by have := itr_lt hp hin m; omega) p5 p3 b8 b9 (fun m hm => by rw [b1 _ (itr_lt hp hin m), nw m hm, if_neg (by decide), itr_s]) (by split <;> omega) (by split <;> omega) b2 st e
      refine ⟨?_, ?_, fun y hy => ?_, by rw [eh]; exact r3⟩
      · rw [r8, er]
        show _ = if ((rgF f n i).2.1 + 1) % 2 = 0 then 8 else 9
        by_cases d : (rgF f n i).2.1 % 2 = 0
        · rw [if_pos d, if_neg (by omega)]
        · rw [if_neg d, if_pos (by omega)]
      · rw [r9, er]
        show _ = if ((rgF f n i).2.1 + 1) % 2 = 0 then 9 else 8
        by_cases d : (rgF f n i).2.1 % 2 = 0
        · rw [if_pos d, if_neg (by omega)]
        · rw [if_neg d, if_pos (by omega)]
      · rw [wkd_s, decide_eq_false c.1]
        cases hr : rg f i y
        · have hn : ∀ m, m < s → y ≠ itr f m i := fun m hm q => by
            have := (p6 y).mpr ⟨m, hm, q.symm⟩
            rw [hr] at this
            cases this
          rw [r2 y (by omega) hn, b1 y hy]
          simp
        · obtain ⟨m, hm, q⟩ := (p6 y).mp hr
          rw [← q, r1 m hm, if_pos (by simp)]
    · have er : rgF f n (i + 1) = rgF f n i := if_neg c
      have eh : hbF f n (i + 1) = hbF f n i := if_neg c
      rw [er] at e ⊢
      rw [eh, e]
      exact ⟨b8, b9, fun y hy => by rw [b1 y hy, wkd_no hp n8 hin c], b2⟩
theorem hm_all (hp : Pn f n) (n8 : n ≤ 8) (hpn : p < n) : (hmR p (rgD f n) 0 (hm0 f n p)).2 = some (hbF f n n p) := by
  obtain ⟨b8, b9, b1, b2⟩ := hm_fold hp n8 hpn n (Nat.le_refl _) _ rfl
  have home : (hmR p (rgF f n n).1 0 (hm0 f n p)).1 p = p := by
    rw [b1 p hpn]
    split
    · rfl
    · rename_i c
      by_cases d : f p = p
      · exact d
      · exfalso
        refine c ?_
        unfold wkd
        refine List.any_eq_true.mpr ⟨p, List.mem_range.mpr hpn, ?_⟩
        rw [decide_eq_false d, rg_refl]
        rfl
  unfold rgD
  split
  · rw [hmR_app]
    generalize hmR p (rgF f n n).1 0 (hm0 f n p) = st at b2 home
    show (hmS p st _ (8, 9)).2 = _
    have e : swp st.1 8 9 p = st.1 p := swp_o (by omega) (by omega)
    have i1 := hm_step (idx := 0 + (rgF f n n).1.length) (q := (8, 9)) b2 (hb' := hbF f n n) (fun _ _ => rfl) (fun q1 q2 => absurd home q2)
    unfold hmI at i1
    rw [i1]
    show (if swp st.1 8 9 p = p then _ else _) = _
    rw [e, if_pos home]
  · unfold hmI at b2
    rw [b2, if_pos home]
/-- the turns name places below ten -/
theorem rtn_lt (hp : Pn f n) (n8 : n ≤ 8) {k s : Nat} (hk : k < n) : ∀ q ∈ rtn f k s, q.1 < 10 ∧ q.2 < 10 := by
  intro q hq
  unfold rtn at hq
  rcases List.mem_append.mp hq with hq | hq
  · obtain ⟨m, _, e⟩ := List.mem_map.mp hq
    have := itr_lt hp hk m
    rw [← e]
    exact ⟨by show 8 < 10; omega, by show itr f m k < 10; omega⟩
  · have h1 := itr_lt hp hk (s - 1)
    rcases List.mem_cons.mp hq with e | hq
    · rw [e]; exact ⟨by show 9 < 10; omega, by show itr f (s - 1) k < 10; omega⟩
    · rcases List.mem_cons.mp hq with e | hq
      · rw [e]; exact ⟨by show 8 < 10; omega, by show itr f (s - 1) k < 10; omega⟩
      · rw [List.mem_singleton.mp hq]; exact ⟨by show 9 < 10; omega, by show k < 10; omega⟩
theorem rgF_lt (hp : Pn f n) (n8 : n ≤ 8) : ∀ i, i ≤ n → ∀ q ∈ (rgF f n i).1, q.1 < 10 ∧ q.2 < 10 := by
  intro i
  induction i with
  | zero => intro _ q hq; cases hq
  | succ i ih =>
    intro hi q hq
    have hq : q ∈ (rgS f n i (rgF f n i)).1 := hq
    unfold rgS at hq
    split at hq
    · rcases List.mem_append.mp hq with hq | hq
      · exact ih (by omega) q hq
      · exact rtn_lt hp n8 (by omega) q hq
    · exact ih (by omega) q hq
theorem rgD_lt (hp : Pn f n) (n8 : n ≤ 8) : ∀ q ∈ rgD f n, q.1 < 10 ∧ q.2 < 10 := by
  intro q hq
  unfold rgD at hq
  split at hq
  · rcases List.mem_append.mp hq with hq | hq
    · exact rgF_lt hp n8 n (Nat.le_refl _) q hq
    · rw [List.mem_singleton.mp hq]; exact ⟨by show 8 < 10; omega, by show 9 < 10; omega⟩
  · exact rgF_lt hp n8 n (Nat.le_refl _) q hq
end HM2

section MC2
variable {s t σ : JH} {ts : List Nat} {n k : Nat} {Q : Qs} {mm : Nat → Nat} {l : List Nat} {w : Bool}
/-- a body whose name is told, the rest of it not yet -/
def mHp (Q : Qs) (l : List Nat) (w : Bool) (σ : JH) : Prop :=
  (σ.2.1 210 180 = nI (Hn (qH Q)) ∧ σ.2.1 210 181 = nI (ppl Q) ∧ σ.2.1 210 182 = nI (nws Q) ∧ σ.2.1 210 183 = nI (prs (Hx (qH Q)) (Hn (qH Q))) ∧ σ.2.1 210 184 = nI (Ho (qH Q)) ∧ σ.2.1 204 17 = nI (Hn (qH Q) + 1) ∧ σ.2.1 204 18 = nI (onc Q) ∧ σ.2.1 204 19 = nI (msk (qR Q) 8)) ∧
  (∀ k, k < Hn (qH Q) → σ.2.1 210 (188 + 4 * k) = nI (Hk (qH Q) k)) ∧ (∀ k, k < Hn (qH Q) + 1 → σ.2.1 210 (188 + 4 * k + 1) = bI (up1 (Hw (qH Q)) (Hn (qH Q)) w k)) ∧ (∀ k, k < Hn (qH Q) → σ.2.1 210 (188 + 4 * k + 2) = nI (Hp (qH Q) k)) ∧ (∀ k, k < Hn (qH Q) + 1 → σ.2.1 210 (188 + 4 * k + 3) = nI (Hm (qH Q) k)) ∧ (∀ k, Hn (qH Q) ≤ k → k < 8 → σ.2.1 210 (188 + 4 * k) = nI 0 ∧ σ.2.1 210 (188 + 4 * k + 2) = nI 0) ∧
  (∀ k, k < 8 → ∀ e, e < 8 → σ.2.1 210 (220 + 8 * k + e) = bI (Hb (qH Q) k e)) ∧ (∀ k, k < 8 → ∀ e, e < 8 → σ.2.1 210 (284 + 8 * k + e) = bI (Hx (qH Q) k e)) ∧ (∀ k, k < Hn (qH Q) + 1 → σ.2.2.1 214 k = lN (wrd 37 (up1 (qN Q) (Hn (qH Q)) l k))) ∧
  (qL Q = none → σ.2.1 210 185 = mI 1 ∧ mLw [] σ) ∧ (∀ M, qL Q = some M → σ.2.1 210 185 = nI 0 ∧ mLw (M ++ [(0, nI 0)]) σ)
theorem mHp_78 (f : Fg P78 s t) (z : mHp Q l w s) : mHp Q l w t := by
  obtain ⟨⟨a1, a2, a3, a4, a5, a6, a7, a8⟩, b1, b2, b3, b4, b5, b6, b7, b8, b9, b10⟩ := z
  have e : ∀ b j, ¬ (b = 204 ∧ (j = 7 ∨ j = 8)) → t.2.1 b j = s.2.1 b j := f.2.1
  exact ⟨⟨(e _ _ (by omega)).trans a1, (e _ _ (by omega)).trans a2, (e _ _ (by omega)).trans a3, (e _ _ (by omega)).trans a4, (e _ _ (by omega)).trans a5, (e _ _ (by omega)).trans a6, (e _ _ (by omega)).trans a7, (e _ _ (by omega)).trans a8⟩, fun k hk => (e _ _ (by omega)).trans (b1 k hk), fun k hk => (e _ _ (by omega)).trans (b2 k hk), fun k hk => (e _ _ (by omega)).trans (b3 k hk), fun k hk => (e _ _ (by omega)).trans (b4 k hk), fun k h1 h2 => ⟨(e _ _ (by omega)).trans (b5 k h1 h2).1, (e _ _ (by omega)).trans (b5 k h1 h2).2⟩, fun k hk i hi => (e _ _ (by omega)).trans (b6 k hk i hi), fun k hk i hi => (e _ _ (by omega)).trans (b7 k hk i hi), fun k hk => (f.2.2.1 _ _ (by unfold P78; omega)).trans (b8 k hk), fun h => ⟨(e _ _ (by omega)).trans (b9 h).1, mLw_78 f (b9 h).2⟩, fun M h => ⟨(e _ _ (by omega)).trans (b10 M h).1, mLw_78 f (b10 M h).2⟩⟩
theorem mLw_e {a : Lws} (h13 : t.2.1 204 13 = s.2.1 204 13) (h1 : ∀ j, t.2.1 211 j = s.2.1 211 j) (h2 : ∀ j, t.2.1 212 j = s.2.1 212 j) (z : mLw a s) : mLw a t := ⟨h13.trans z.1, fun i q e => ⟨(h1 _).trans (z.2 i q e).1, (h2 _).trans (z.2 i q e).2⟩⟩
/-- the name is laid down -/
theorem m_nm (q : mRd ts n k s) (h1 : nam (tok ts k) = true) (hQ : WQ Q) (n7 : Hn (qH Q) < 8) (z : mHr Q s) (hl : l = Tl (tok ts k)) : let u := jh_setI (jh_setI (jh_setI (jh_setJ (jh_setI s 210 (188 + 4 * Hn (qH Q) + 3) (nI (Hn (qH Q)))) 214 (Hn (qH Q)) (lN (wrd 37 l))) 204 17 (nI (Hn (qH Q) + 1))) 204 7 (nI (k + 1))) 210 (188 + 4 * Hn (qH Q) + 1) (bI w)
    mRd ts n (k + 1) u ∧ mHp Q l w u ∧ Fg PMr s u := by
  intro u
  have hm := (hQ.2.2.2.2.1 _ (Nat.le_refl _)).2.2
  have lu : Ly u := ly_setI (ly_setI (ly_setI (ly_setJ (ly_setI q.1))))
  have fu : Fg (fun b j => (b = 210 ∧ (j = 188 + 4 * Hn (qH Q) + 3 ∨ j = 188 + 4 * Hn (qH Q) + 1)) ∨ (b = 214 ∧ j = Hn (qH Q)) ∨ (b = 204 ∧ (j = 17 ∨ j = 7))) s u := Fg_sI (Fg_sI (Fg_sI (Fg_sJ (Fg_sI (Fg_r _ _) (by omega)) (by omega)) (by omega)) (by omega)) (by omega)
  have u1 : u.2.1 210 (188 + 4 * Hn (qH Q) + 1) = bI w := rI_eq
  have u7 : u.2.1 204 7 = nI (k + 1) := (rI_ne (by omega)).trans rI_eq
  have u17 : u.2.1 204 17 = nI (Hn (qH Q) + 1) := (rI_ne (by omega)).trans ((rI_ne (by omega)).trans rI_eq)
  have u3 : u.2.1 210 (188 + 4 * Hn (qH Q) + 3) = nI (Hn (qH Q)) := (rI_ne (by omega)).trans ((rI_ne (by omega)).trans ((rI_ne (by omega)).trans (rI_eq : (jh_setI s 210 (188 + 4 * Hn (qH Q) + 3) (nI (Hn (qH Q)))).2.1 210 (188 + 4 * Hn (qH Q) + 3) = _)))
  have un : u.2.2.1 214 (Hn (qH Q)) = lN (wrd 37 l) := rJ_eq
  clear_value u
  have e : ∀ b j, ¬ ((b = 210 ∧ (j = 188 + 4 * Hn (qH Q) + 3 ∨ j = 188 + 4 * Hn (qH Q) + 1)) ∨ (b = 214 ∧ j = Hn (qH Q)) ∨ (b = 204 ∧ (j = 17 ∨ j = 7))) → u.2.1 b j = s.2.1 b j := fu.2.1
  obtain ⟨⟨a1, a2, a3, a4, a5, a6, a7, a8⟩, b1, b2, b3, b4, b5, b6, b7, b8, b9, b10⟩ := z
  refine ⟨mRd_at fu lu (fun b j h1 h2 => by omega) q u7 ((e _ _ (by omega)).trans q.2.2.2.1) (mRd_lt q (nam_k h1)), ⟨⟨(e _ _ (by omega)).trans a1, (e _ _ (by omega)).trans a2, (e _ _ (by omega)).trans a3, (e _ _ (by omega)).trans a4, (e _ _ (by omega)).trans a5, u17, (e _ _ (by omega)).trans a7, (e _ _ (by omega)).trans a8⟩, fun k hk => (e _ _ (by omega)).trans (b1 k hk), fun k hk => ?_, fun k hk => (e _ _ (by omega)).trans (b3 k hk), fun k hk => ?_, fun k h1 h2 => ⟨(e _ _ (by omega)).trans (b5 k h1 h2).1, (e _ _ (by omega)).trans (b5 k h1 h2).2⟩, fun k hk i hi => (e _ _ (by omega)).trans (b6 k hk i hi), fun k hk i hi => (e _ _ (by omega)).trans (b7 k hk i hi), fun k hk => ?_, fun h => ⟨(e _ _ (by omega)).trans (b9 h).1, mLw_e (e _ _ (by omega)) (fun j => e _ _ (by omega)) (fun j => e _ _ (by omega)) (b9 h).2⟩, fun M h => ⟨(e _ _ (by omega)).trans (b10 M h).1, mLw_e (e _ _ (by omega)) (fun j => e _ _ (by omega)) (fun j => e _ _ (by omega)) (b10 M h).2⟩⟩, Fg_m fu (fun b j h => by unfold PMr; omega)⟩
  · by_cases c : k = Hn (qH Q)
    · rw [c, u1, up1_eq]
    · rw [up1_ne c, e _ _ (by omega)]; exact b2 k (by omega)
  · by_cases c : k = Hn (qH Q)
    · rw [c, u3, hm]
    · rw [e _ _ (by omega)]; exact b4 k (by omega)
  · by_cases c : k = Hn (qH Q)
    · rw [c, un, up1_eq]
    · rw [up1_ne c, fu.2.2.1 _ _ (by omega)]; exact b8 k (by omega)
theorem prs_up {F : Nat → Nat → Bool} {m : Nat} (h : ∀ e, e < m → F m e = false) : prs F (m + 1) = prs F m := by
  show prs F m + cntB (F m) m = prs F m
  rw [cntB_zero h]
  rfl
/-- the body is done -/
theorem m_bd {c p d ce : Nat} {x : Int32} (hl : Ly s) (hQ : WQ Q) (n7 : Hn (qH Q) < 8) (hd : d = if w = true then 2 else 0) (hce : ce = if w = true then 182 else 181) (hw : if w = true then c = 0 else p = 0) (hx : x = nI (if w = true then p else c)) (z : mHp Q l w s) : let u := jh_setI (jh_setI (jh_setI s 210 (188 + 4 * Hn (qH Q) + d) x) 210 ce (nI ((if w = true then nws Q else ppl Q) + 1))) 210 180 (nI (Hn (qH Q) + 1))
    mHr (addB Q l c w p) u ∧ Fg (fun b j => b = 210 ∧ 180 ≤ j) s u ∧ Ly u := by
  intro u
  have hcd : (d = 0 ∨ d = 2) ∧ (ce = 181 ∨ ce = 182) := by cases w <;> simp at hd hce <;> omega
  have fu : Fi (fun b j => b = 210 ∧ (j = 188 + 4 * Hn (qH Q) + d ∨ j = ce ∨ j = 180)) s u := Fi_s (Fi_s (Fi_s (Fi_r _ _) (by omega)) (by omega)) (by omega)
  have u0 : u.2.1 210 180 = nI (Hn (qH Q) + 1) := rI_eq
  have uc : u.2.1 210 ce = nI ((if w = true then nws Q else ppl Q) + 1) := (rI_ne (by omega)).trans rI_eq
  have ud : u.2.1 210 (188 + 4 * Hn (qH Q) + d) = x := (rI_ne (by omega)).trans ((rI_ne (by omega)).trans rI_eq)
  clear_value u
  have e : ∀ b j, ¬ (b = 210 ∧ (j = 188 + 4 * Hn (qH Q) + d ∨ j = ce ∨ j = 180)) → u.2.1 b j = s.2.1 b j := fu.2.2
  obtain ⟨⟨a1, a2, a3, a4, a5, a6, a7, a8⟩, b1, b2, b3, b4, b5, b6, b7, b8, b9, b10⟩ := z
  have hp' : ppl (addB Q l c w p) = ppl Q + if w = true then 0 else 1 := cnt_upn w
  have hn' : nws (addB Q l c w p) = nws Q + if w = true then 1 else 0 := cnt_up w
  have hpr : prs (Hx (qH Q)) (Hn (qH Q) + 1) = prs (Hx (qH Q)) (Hn (qH Q)) := prs_up (fun i hi => by
    cases q : Hx (qH Q) (Hn (qH Q)) i
    · rfl
    · have := (hQ.2.2.2.2.2.2.1 _ _ q).1; omega)
  have lw : (qL Q = none → u.2.1 210 185 = mI 1 ∧ mLw [] u) ∧ (∀ M, qL Q = some M → u.2.1 210 185 = nI 0 ∧ mLw (M ++ [(0, nI 0)]) u) := ⟨fun h => ⟨(e _ _ (by omega)).trans (b9 h).1, mLw_e (e _ _ (by omega)) (fun j => e _ _ (by omega)) (fun j => e _ _ (by omega)) (b9 h).2⟩, fun M h => ⟨(e _ _ (by omega)).trans (b10 M h).1, mLw_e (e _ _ (by omega)) (fun j => e _ _ (by omega)) (fun j => e _ _ (by omega)) (b10 M h).2⟩⟩
  refine ⟨⟨⟨u0, ?_, ?_, ?_, (e _ _ (by omega)).trans a5, (e _ _ (by omega)).trans a6, (e _ _ (by omega)).trans a7, (e _ _ (by omega)).trans a8⟩, fun k hk => ?_, fun k hk => (e _ _ (by omega)).trans (b2 k hk), fun k hk => ?_, fun k hk => (e _ _ (by omega)).trans (b4 k hk), fun k h1 h2 => ?_, fun k hk i hi => (e _ _ (by omega)).trans (b6 k hk i hi), fun k hk i hi => (e _ _ (by omega)).trans (b7 k hk i hi), fun k hk => by rw [fu.2.1]; exact b8 k hk, lw.1, lw.2⟩, Fi_g (Fi_m fu (fun b j h => by omega)), Fi_ly fu hl⟩
  · rw [hp']
    cases w
    · rw [show (181 : Nat) = ce from hce.symm, uc]; rfl
    · rw [e _ _ (by simp at hce hd; omega)]; exact a2
  · rw [hn']
    cases w
    · rw [e _ _ (by simp at hce hd; omega)]; exact a3
    · rw [show (182 : Nat) = ce from hce.symm, uc]; rfl
  · show u.2.1 210 183 = nI (prs (Hx (qH Q)) (Hn (qH Q) + 1))
    rw [hpr, e _ _ (by omega)]; exact a4
  · have hk : k < Hn (qH Q) + 1 := hk
    show u.2.1 210 (188 + 4 * k) = nI (up1 (Hk (qH Q)) (Hn (qH Q)) c k)
    by_cases g : k = Hn (qH Q)
    · rw [g, up1_eq]
      cases w
      · have : d = 0 := hd
        subst this
        rw [show 188 + 4 * Hn (qH Q) = 188 + 4 * Hn (qH Q) + 0 from rfl, ud, hx]; rfl
      · have : d = 2 := hd
        subst this
        have hw : c = 0 := hw
        rw [e _ _ (by omega), (b5 _ (Nat.le_refl _) n7).1, hw]
    · rw [up1_ne g, e _ _ (by omega)]; exact b1 k (by omega)
  · have hk : k < Hn (qH Q) + 1 := hk
    show u.2.1 210 (188 + 4 * k + 2) = nI (up1 (Hp (qH Q)) (Hn (qH Q)) p k)
    by_cases g : k = Hn (qH Q)
    · rw [g, up1_eq]
      cases w
      · have : d = 0 := hd
        subst this
        have hw : p = 0 := hw
        rw [e _ _ (by omega), (b5 _ (Nat.le_refl _) n7).2, hw]
      · have : d = 2 := hd
        subst this
        rw [ud, hx]; rfl
    · rw [up1_ne g, e _ _ (by omega)]; exact b3 k (by omega)
  · have h1 : Hn (qH Q) + 1 ≤ k := h1
    exact ⟨(e _ _ (by omega)).trans (b5 k (by omega) h2).1, (e _ _ (by omega)).trans (b5 k (by omega) h2).2⟩
end MC2

section EV2
variable {Z : Ste} {x y w : Int32} {h pl : Nat} {s t σ : JH} {H : Hou} {L : Option Lws} {S : Mud}
abbrev Eva : Type := Nat × Int32 × Int32 × Int32
def evA (H : Hou) (L : Option Lws) (S : Mud) (a : Eva) : Eva := ((evT H L 6 (S, a.1, nI 0)).2.1, a.2.1 + nI (wrs H (evT H L 6 (S, a.1, nI 0)).1), a.2.2.1 + (if wrs H (evT H L 6 (S, a.1, nI 0)).1 = 0 then nI 1 else nI 0), a.2.2.2 + (evT H L 6 (S, a.1, nI 0)).2.2)
def evR (H : Hou) (L : Option Lws) (S : Mud) : Nat → Eva → Eva
  | 0, a => a
  | m + 1, a => evR H L S m (evA H L S a)
theorem cnt_msk {f : Nat → Bool} {n : Nat} : cntB f n = 0 ↔ msk f n = 0 := by
  constructor
  · intro h
    refine msk_0 (fun k hk => ?_)
    cases e : f k with
    | false => rfl
    | true =>
      exfalso
      have : ∀ m, k < m → m ≤ n → 1 ≤ cntB f m := by
        intro m
        induction m with
        | zero => intro h1; omega
        | succ m ih =>
          intro h1 h2
          show 1 ≤ cntB f m + if f m = true then 1 else 0
          by_cases q : k = m
          · rw [← q, e]; show 1 ≤ cntB f k + 1; omega
          · have := ih (by omega) (by omega); omega
      have := this n hk (Nat.le_refl _)
      omega
  · intro h
    exact cntB_zero (msk_z h)
set_option maxHeartbeats 1000000 in
theorem m_drawn {r : Nat} {c : Int32} (hZ : WZ Z) (z : Rm Z σ) (hr : r < 2147483648) (e44 : σ.2.2.1 204 44 = lN r) {v8 : Int32} {o : Option Value} {F : Int32 → Int32 → Option Value → JH → Prop}
    (hF : ∀ o s, Rm Z s → Fg (fun b _ => 204 ≤ b ∧ b < 229) σ s → Ms (tH Z) (tL Z) (evT (tH Z) (tL Z) 6 ((tF Z).1, r, nI 0)).1 (s.2.1 218 2377) s → WS (tH Z) (evT (tH Z) (tL Z) 6 ((tF Z).1, r, nI 0)).1 → (evT (tH Z) (tL Z) 6 ((tF Z).1, r, nI 0)).2.1 < 2147483648 → s.2.2.1 204 44 = lN (evT (tH Z) (tL Z) 6 ((tF Z).1, r, nI 0)).2.1 → F (v8 + (evT (tH Z) (tL Z) 6 ((tF Z).1, r, nI 0)).2.2) (nI 6) o s) :
    WM q_Md_copies [.ref 204, .int (nI 0), .int (nI 2376), .int (nI 91)] σ (kV fun s14 => Ly s14 ∧ Lp4 (fun (v15 : Int32) (v16 : Int32) (o17 : Option Value) (s18 : JH) X19 => Ly s18 ∧ (if nI 6 ≤ v16 then F v15 v16 o17 s18 else WE q_Md_pairsLeft [.ref 204, .int (nI 2376)] s18 (fun x22 => (if x22 ≤ 0 then X19 (v15 + nI 0) (v16 + nI 1) (some (.int x22)) s18 else WM q_Md_draw [.ref 204, .int x22] s18 (kI fun x23 s24 => Ly s24 ∧ WM q_Md_turnsBy [.ref 204, .int x23] s24 (kI fun x25 s26 => Ly s26 ∧ X19 (v15 + x25) (v16 + nI 1) (some (.int x22)) s26)))))) v8 (nI 0) o s14) := by
  have hW := hZ.1
  have n8 := hW.1
  refine m_toOther hW (Rm_Mb z) fun s1 M1 f1 => ⟨M1.1, ?_⟩
  obtain ⟨z1, r1⟩ := Rm_ok hZ z (Fi_g f1) M1.1 (fun b j q => by unfold PC at q; unfold PmT; omega)
  have e1 : s1.2.2.1 204 44 = lN r := by rw [f1.2.1]; exact e44
  refine Lp4_inv (I := fun m v15 v16 _ s18 => ∃ i e' c', i ≤ 6 ∧ m = 6 - i ∧ v16 = nI i ∧ v15 = v8 + e'.2.2 ∧ Ms (tH Z) (tL Z) e'.1 c' s18 ∧ WS (tH Z) e'.1 ∧ e'.2.1 < 2147483648 ∧ s18.2.2.1 204 44 = lN e'.2.1 ∧ Rm Z s18 ∧ Fg (fun b _ => 204 ≤ b ∧ b < 229) σ s18 ∧ evT (tH Z) (tL Z) (6 - i) e' = evT (tH Z) (tL Z) 6 ((tF Z).1, r, nI 0)) ?_ (m := 6) ⟨0, ((tF Z).1, r, nI 0), _, by omega, by omega, rfl, (Int32.add_zero _).symm, M1, hZ.2.1, hr, e1, z1, r1, rfl⟩
  rintro m v15 v16 o17 s18 ⟨i, e', c', hi, rfl, rfl, rfl, M7, S7, r7, e7, z7, f7, ht⟩ X hX
  refine ⟨M7.1, ?_⟩
  by_cases c : 6 ≤ i
  · rw [if_pos (by rw [nI_leN (by omega) (by omega)]; exact c)]
    rw [show 6 - i = 0 by omega] at ht
    have ht : e' = evT (tH Z) (tL Z) 6 ((tF Z).1, r, nI 0) := ht
    rw [show i = 6 by omega, ht]
    rw [ht] at M7 S7 r7 e7
    exact hF _ s18 z7 f7 ⟨M7.1, M7.2.1, M7.2.2.1, rfl⟩ S7 r7 e7
  · rw [if_neg (by rw [nI_leN (by omega) (by omega)]; exact c)]
    refine WE_i (m_pairsLeft M7.1 hW S7 M7.2.1.1 M7.2.2.1 (by omega)) ?_
    have h28 := opl_28 e'.1 n8
    have hstep : evT (tH Z) (tL Z) (6 - (i + 1)) (evS (tH Z) (tL Z) e') = evT (tH Z) (tL Z) 6 ((tF Z).1, r, nI 0) := by
      rw [← ht, show 6 - i = (6 - (i + 1)) + 1 by omega]; rfl
    by_cases ho : opl (tH Z) e'.1 = []
    · rw [if_pos (by rw [ho]; decide)]
      rw [evS_nil ho] at hstep
      exact hX (6 - (i + 1)) _ _ _ _ (by omega) ⟨i + 1, e', c', by omega, rfl, nI_add i 1, by rw [nI_z, Int32.add_zero], M7, S7, r7, e7, z7, f7, hstep⟩
    · have hl : 0 < (opl (tH Z) e'.1).length := List.length_pos_iff.mpr ho
      have hp := evP_get ho
      have hlt := Nat.mod_lt (nxr e'.2.1 / 65536) hl
      have hn := nxr_lt e'.2.1
      rw [if_neg (by rw [nI_le0 (by omega)]; omega)]
      refine w_Md_draw _ M7.1 ?_
      simp only [lt]
      rw [e7, draw_1 r7]
      refine ⟨draw_3 (by omega) (by omega), ?_⟩
      rw [rJ_eq, draw_2 hn (by omega)]
      have f8 : Fg (fun b j => b = 204 ∧ j = 44) s18 (jh_setJ s18 204 44 (lN (nxr e'.2.1))) := Fg_sJ (Fg_r _ _) ⟨rfl, rfl⟩
      have e8 : (jh_setJ s18 204 44 (lN (nxr e'.2.1))).2.2.1 204 44 = lN (nxr e'.2.1) := rJ_eq
      have M8 : Ms (tH Z) (tL Z) e'.1 c' (jh_setJ s18 204 44 (lN (nxr e'.2.1))) := M7
      generalize jh_setJ s18 204 44 (lN (nxr e'.2.1)) = s24 at f8 e8 M8 ⊢
      refine ⟨M8.1, ?_⟩
      refine WM_I (m_turnsBy hW S7 M8 hp) fun y s26 ⟨ey, M9, f9⟩ => ⟨M9.1, ?_⟩
      have f : Fg (fun b j => (b = 204 ∧ j = 44) ∨ PT 2376 b j) s18 s26 := Fg_t (Fg_m f8 (fun b j q => Or.inl q)) (Fg_m (Fi_g f9) (fun b j q => Or.inr q))
      obtain ⟨z9, r9⟩ := Rm_ok hZ z7 f M9.1 (fun b j q => by unfold PT at q; unfold PmT; omega)
      have he : evS (tH Z) (tL Z) e' = (trnC e'.1 (evP (tH Z) e'), nxr e'.2.1, e'.2.2 + nI (ctn (tH Z) (tL Z) e'.1 (evP (tH Z) e' / 8) (evP (tH Z) e' % 8))) := if_neg ho
      refine hX (6 - (i + 1)) _ _ _ _ (by omega) ⟨i + 1, evS (tH Z) (tL Z) e', _, by omega, rfl, nI_add i 1, ?_, by rw [he]; exact M9, evS_WS hW S7, evS_r r7, ?_, z9, Fg_t f7 r9, hstep⟩
      · rw [ey, he, Int32.add_assoc]
      · rw [he, f9.2.1]; exact e8
end EV2

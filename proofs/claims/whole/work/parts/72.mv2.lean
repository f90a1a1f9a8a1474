/-! ===== undo, see, mark ===== -/
section MV2
variable {Z : Ste} {x y w : Int32} {h pl : Nat} {s t σ : JH} {P : Nat → Nat → Prop}
theorem j_fmm {pe : Nat} (hl : Ly σ) (hp : pe < 16) : q_Ma_floorMod [.int (nI pe - nI 1), .int (nI 16)] σ = some (some (.int (nI ((pe + 15) % 16))), σ) := by
  by_cases c : pe = 0
  · subst c
    exact WE_o (w_Ma_floorMod _ _ hl (by decide))
  · rw [nI_subN (by omega), j_floorMod hl (by omega) (by omega) (by omega)]
    rw [show (pe - 1) % 16 = (pe + 15) % 16 by omega]
theorem lst_cat {α : Type} (l : List α) : l = [] ∨ ∃ v q, l = v ++ [q] := by
  rcases List.eq_nil_or_concat l with h | ⟨v, q, h⟩
  · exact Or.inl h
  · exact Or.inr ⟨v, q, by rw [h, List.concat_eq_append]⟩
set_option maxHeartbeats 1000000 in
theorem a_undo (hZ : WZ Z) : Agr q_Ct_undo [.ref 64] q_Md_undo [.ref 204] Z := by
  have hW := hZ.1
  have n8 := hW.1
  have h16 := hZ.2.2.2.2.2.2.2.1
  rcases lst_cat (tU Z) with hU | ⟨V, q, hU⟩
  · refine Agr_q (nI 0) hZ (fun h pl σ z => ?_) (fun σ z => w_Md_undo z.1 (lt_thr hZ z fun s z' f' => ?_))
    · obtain ⟨pe, p1, p2, p3, p4⟩ := z.2.2.2.2.2.1
      refine w_Ct_undo z.1.1 ?_
      rw [p3, hU]
      exact ⟨rfl, z, Fg_r _ _⟩
    · rw [z'.2.2.2.2.2.1.1, hU]
      exact ⟨rfl, z', f'⟩
  · have hlen : (tU Z).length = V.length + 1 := by rw [hU, List.length_append]; rfl
    have hV : ∀ i r, V[i]? = some r → (tU Z)[i]? = some r := fun i r e => by
      rw [hU, List.getElem?_append_left (List.getElem?_eq_some_iff.mp e).1]; exact e
    have hq : (tU Z)[V.length]? = some q := by
      rw [hU, List.getElem?_append_right (by omega), Nat.sub_self]; rfl
    refine ⟨nI 1, zF Z (q.1, q.2, (tF Z).2.2) V (tK Z), ?_, fun h pl σ z => ?_, fun σ z => ?_⟩
    · exact WZ_up hZ (hZ.2.2.1 q (by rw [hU]; exact List.mem_append.mpr (Or.inr (List.mem_singleton.mpr rfl)))) (fun r hr => hZ.2.2.1 r (by rw [hU]; exact List.mem_append.mpr (Or.inl hr))) (by omega) hZ.2.2.2.1
    · obtain ⟨pe, p1, p2, p3, p4⟩ := z.2.2.2.2.2.1
      have hh := ho_is z.1.2.1
      refine w_Ct_undo z.1.1 ?_
      rw [if_neg (by rw [p3, nI_eq0 (by omega)]; omega)]
      simp only [lt]
      have f1 : Fi (fun b j => b = 64 ∧ j = 14) σ (jh_setI σ 64 14 (σ.2.1 64 14 - nI 1)) := Fi_s (Fi_r _ _) ⟨rfl, rfl⟩
      have e13 : (jh_setI σ 64 14 (σ.2.1 64 14 - nI 1)).2.1 64 13 = nI pe := (rI_ne (by omega)).trans p2
      have e14 : (jh_setI σ 64 14 (σ.2.1 64 14 - nI 1)).2.1 64 14 = nI V.length := by rw [rI_eq, p3, nI_subN (by omega), hlen, Nat.add_sub_cancel]
      generalize jh_setI σ 64 14 (σ.2.1 64 14 - nI 1) = s1 at f1 e13 e14 ⊢
      rw [e13]
      refine WE_i (j_fmm (Fi_ly f1 z.1.1) p1) ?_
      have f2 : Fi (fun b j => b = 64 ∧ j = 13) s1 (jh_setI s1 64 13 (nI ((pe + 15) % 16))) := Fi_s (Fi_r _ _) ⟨rfl, rfl⟩
      have d13 : (jh_setI s1 64 13 (nI ((pe + 15) % 16))).2.1 64 13 = nI ((pe + 15) % 16) := rI_eq
      have f3 : Fi (fun b j => b = 64 ∧ (j = 13 ∨ j = 14)) σ (jh_setI s1 64 13 (nI ((pe + 15) % 16))) := Fi_t (Fi_m f1 (fun b j q => by omega)) (Fi_m f2 (fun b j q => by omega))
      have d14 : (jh_setI s1 64 13 (nI ((pe + 15) % 16))).2.1 64 14 = nI V.length := (rI_ne (by omega)).trans e14
      generalize jh_setI s1 64 13 (nI ((pe + 15) % 16)) = s3 at f2 d13 f3 d14 ⊢
      rw [d13]
      have hin : inb (nI ((pe + 15) % 16)) 16 := by rw [inb_nI (by omega) (by omega)]; omega
      refine ⟨hin, ?_⟩
      have hmp := mu_past hin
      rw [cl_nI (by omega)] at hmp ⊢
      obtain ⟨a, b⟩ := p4 _ q hq
      rw [hlen, show (pe + 16 - (V.length + 1) + V.length) % 16 = (pe + 15) % 16 by omega] at a b
      have l3 := Fi_ly f3 z.1.1
      have C : Cs (tH Z) q.1 (123 + 4 * ((pe + 15) % 16)) h s3 := ⟨l3, z.1.2.1, cH_f f3 (fun b j _ _ => by omega) (Rc_H z), cM_g (Fi_g f3) (fun b j _ _ => by omega) a⟩
      refine WM_V (c_copy mu_114 hmp (by omega) hW C) fun s5 ⟨C5, f5, e5⟩ => ⟨C5.1, trivial, ⟨h, pl, ?_⟩, ?_⟩
      · have f : Fg (fun b j => PMc 114 b j ∨ (b = 64 ∧ (j = 13 ∨ j = 14))) σ s5 := Fg_t (Fg_m (Fi_g f3) (fun b j q => Or.inr q)) (Fg_m f5 (fun b j q => Or.inl q))
        refine Rc_up z f C5.1 (fun b j _ _ q => by unfold PMc at q; unfold PcU; omega) ⟨C5.2.2.2, ?_, (f.2.2.1 _ _ (by unfold PMc; omega)).trans z.2.2.2.2.1.2.2.1, (f.2.1 _ _ (by unfold PMc; omega)).trans z.2.2.2.2.1.2.2.2.1, z.2.2.2.2.1.2.2.2.2⟩ ⟨(pe + 15) % 16, by omega, (f5.2.1 _ _ (by unfold PMc; omega)).trans d13, (f5.2.1 _ _ (by unfold PMc; omega)).trans d14, fun i r e => ?_⟩ (cMk_g f (by unfold PMc; omega) (fun b j _ _ => by unfold PMc; omega) z.2.2.2.2.2.2.1)
        · exact e5.trans ((f3.2.2 _ _ (by omega)).trans b)
        · have hi := (List.getElem?_eq_some_iff.mp e).1
          obtain ⟨a2, b2⟩ := p4 i r (hV i r e)
          rw [hlen, show (pe + 16 - (V.length + 1) + i) % 16 = ((pe + 15) % 16 + 16 - V.length + i) % 16 by omega] at a2 b2
          exact ⟨cM_g f (fun b j _ _ => by unfold PMc; omega) a2, (f.2.1 _ _ (by unfold PMc; omega)).trans b2⟩
      · exact Fg_t (Fg_m (Fi_g f3) (fun b j q => by omega)) (Fg_m f5 (fun b j q => by unfold PMc at q; omega))
    · refine w_Md_undo z.1 (lt_thr hZ z fun s z' f' => ?_)
      obtain ⟨u1, u2⟩ := z'.2.2.2.2.2.1
      rw [if_neg (by rw [u1, nI_eq0 (by omega)]; omega)]
      simp only [lt]
      have f1 : Fi (fun b j => b = 204 ∧ j = 24) s (jh_setI s 204 24 (s.2.1 204 24 - nI 1)) := Fi_s (Fi_r _ _) ⟨rfl, rfl⟩
      have e24 : (jh_setI s 204 24 (s.2.1 204 24 - nI 1)).2.1 204 24 = nI V.length := by rw [rI_eq, u1, nI_subN (by omega), hlen, Nat.add_sub_cancel]
      generalize jh_setI s 204 24 (s.2.1 204 24 - nI 1) = s1 at f1 e24 ⊢
      rw [e24, nI_add, nI_mulN]
      refine WM_V (m_copies (Fi_ly f1 z'.1) (by omega) (by omega) (Or.inr (by omega))) fun s3 ⟨l3, f3, q3⟩ => ⟨l3, trivial, ?_, ?_⟩
      · have f : Fi (fun b j => PC 0 91 b j ∨ (b = 204 ∧ j = 24)) s s3 := Fi_t (Fi_m f1 (fun b j q => Or.inr q)) (Fi_m f3 (fun b j q => Or.inl q))
        obtain ⟨a, b⟩ := u2 _ q hq
        obtain ⟨s1', s2', s3'⟩ := z'.2.2.2.2.1.2.2
        refine Rm_up hZ z' (Fi_g f) l3 (fun b j _ _ q => by unfold PC at q; unfold PmU; omega) ⟨mM_copy n8 q3 (mM_g n8 (Fi_g f1) (fun j _ _ => by omega) a), (q3 1 (by omega)).trans ((f1.2.2 _ _ (by omega)).trans b), (f.2.2 _ _ (by unfold PC; omega)).trans s1', s2', fun i r e => ?_⟩ ⟨(f3.2.2 _ _ (by unfold PC; omega)).trans e24, fun i r e => ?_⟩ (mMk_g n8 (Fi_g f) (fun j => by unfold PC; omega) (fun j _ _ => by unfold PC; omega) z'.2.2.2.2.2.2.1)
        · obtain ⟨a, b, d⟩ := s3' i r e
          exact ⟨(f.2.2 _ _ (by unfold PC; omega)).trans a, (f.2.2 _ _ (by unfold PC; omega)).trans b, d⟩
        · obtain ⟨a2, b2⟩ := u2 i r (hV i r e)
          exact ⟨mM_g n8 (Fi_g f) (fun j _ _ => by unfold PC; omega) a2, (f.2.2 _ _ (by unfold PC; omega)).trans b2⟩
      · exact Fg_t f' (Fg_t (Fg_m (Fi_g f1) (fun b j q => by omega)) (Fg_m (Fi_g f3) (fun b j q => by unfold PC at q; omega)))
theorem lN_sl6 (m : Nat) : lN m <<< ((nI 6).toInt64 &&& 63) = lN (64 * m) := by
  refine i64_ext (fun p hp => ?_)
  rw [Int64.toBitVec_shiftLeft]
  have : (((nI 6).toInt64 &&& 63).toBitVec.smod 64).toNat = 6 := by decide
  rw [BitVec.shiftLeft_eq', this, BitVec.getLsbD_shiftLeft, lN_bit, lN_bit, show 64 * m = 2 ^ 6 * m from rfl, Nat.testBit_two_pow_mul]
  by_cases c : p < 6
  · have h6 : ¬ 6 ≤ p := by omega
    simp [c]
    intro _ h
    omega
  · have h6 : 6 ≤ p := by omega
    have h7 : p - 6 < 64 := by omega
    simp [c, h6, h7, hp]
end MV2

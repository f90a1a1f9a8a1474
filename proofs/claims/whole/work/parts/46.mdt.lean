/-! ===== the model: two change, and back ===== -/
section MT
variable {H : Hou} {L : Option Lws} {S : Mud} {b k e i : Nat} {σ : JH}
theorem m_swaps (hl : Ly σ) (n8 : Hn H ≤ 8) (hM : mM H S b σ) (hb : b + 91 ≤ 2484) (hk : k < Hn H) (he : e < Hn H) : WM q_Md_swaps [.ref 204, .int (nI b), .int (nI k), .int (nI e)] σ (kV fun s => Ly s ∧ Fi (PS b) σ s ∧ mM H (mswp S k e) b s) := by
  obtain ⟨q1, q2, q3, q4, q5, q6⟩ := hM
  refine w_Md_swaps _ _ _ hl ?_
  simp (disch := omega) only [lt, nI_add, inb_nI, cl_nI, q3 k hk, q3 e he]
  refine ⟨by omega, by omega, by omega, by omega, ?_⟩
  have f : ∀ x y, Fi (PS b) σ (jh_setI (jh_setI σ 218 (b + 3 + k) x) 218 (b + 3 + e) y) := fun x y => Fi_s (Fi_s (Fi_r _ _) (by unfold PS; omega)) (by unfold PS; omega)
  refine ⟨Fi_ly (f _ _) hl, f _ _, ?_, ?_, fun j hj => ?_, fun j hj => ?_, fun j hj => ?_, fun i hi j hj => ?_⟩
  · rw [rI_ne (by omega), rI_ne (by omega)]; exact q1
  · rw [rI_ne (by omega), rI_ne (by omega)]; exact q2
  · rw [rI, rI]
    show _ = nI (swp (mi S) k e j)
    unfold swp
    by_cases c1 : j = e
    · rw [if_pos ⟨rfl, by omega⟩, c1]
      by_cases c2 : e = k
      · rw [if_pos c2, c2]
      · rw [if_neg c2, if_pos rfl]
    · rw [if_neg (by omega)]
      by_cases c2 : j = k
      · rw [if_pos ⟨rfl, by omega⟩, if_pos c2]
      · rw [if_neg (by omega), if_neg c2, if_neg c1]
        exact q3 j hj
  · rw [rI_ne (by omega), rI_ne (by omega)]; exact q4 j hj
  · rw [rI_ne (by omega), rI_ne (by omega)]; exact q5 j hj
  · rw [rI_ne (by omega), rI_ne (by omega)]; exact q6 i hi j hj
theorem m_meets (hl : Ly σ) (n8 : Hn H ≤ 8) (hM : mM H S b σ) (hb : b + 91 ≤ 2484) (hk : k < Hn H) (he : e < Hn H) (hne : k ≠ e) : WM q_Md_meets [.ref 204, .int (nI b), .int (nI k), .int (nI e), .int (nI 1)] σ (kV fun s => Ly s ∧ Fi (PS b) σ s ∧ mM H (mjoin S k e) b s) := by
  obtain ⟨q1, q2, q3, q4, q5, q6⟩ := hM
  refine w_Md_meets _ _ _ _ hl ?_
  rw [if_neg (by decide)]
  simp (disch := omega) only [lt, nI_add, nI_mulN, inb_nI, cl_nI]
  refine ⟨by omega, ?_⟩
  rw [if_neg (by decide)]
  simp (disch := omega) only [rI_ne, q2, q4 k hk, q4 e he, nI_add]
  refine ⟨by omega, by omega, by omega, by omega, by omega, by omega, by omega, ?_⟩
  have f : ∀ x1 x2 x3 x4 x5, Fi (PS b) σ (jh_setI (jh_setI (jh_setI (jh_setI (jh_setI σ 218 (b + 27 + 8 * k + e) x1) 218 (b + 27 + 8 * e + k) x2) 218 (b + 11 + k) x3) 218 (b + 11 + e) x4) 218 (b + 2) x5) := fun x1 x2 x3 x4 x5 => Fi_s (Fi_s (Fi_s (Fi_s (Fi_s (Fi_r _ _) (by unfold PS; omega)) (by unfold PS; omega)) (by unfold PS; omega)) (by unfold PS; omega)) (by unfold PS; omega)
  refine ⟨Fi_ly (f _ _ _ _ _) hl, f _ _ _ _ _, ?_, rI_eq, fun j hj => ?_, fun j hj => ?_, fun j hj => ?_, fun i hi j hj => ?_⟩
  · simp (disch := omega) only [rI_ne]; exact q1
  · simp (disch := omega) only [rI_ne]; exact q3 j hj
  · rw [sa_mjoin, rI_ne (by omega), rI, rI]
    by_cases c1 : j = e
    · rw [if_pos ⟨rfl, by omega⟩, if_pos (Or.inr c1), c1]
    · rw [if_neg (by omega)]
      by_cases c2 : j = k
      · rw [if_pos ⟨rfl, by omega⟩, if_pos (Or.inl c2), c2]
      · rw [if_neg (by omega), if_neg (by omega)]
        simp (disch := omega) only [rI_ne]
        exact q4 j hj
  · simp (disch := omega) only [rI_ne]; exact q5 j hj
  · rw [me_mjoin, rI_ne (by omega), rI_ne (by omega), rI_ne (by omega), rI, rI]
    by_cases c1 : i = e ∧ j = k
    · rw [if_pos (by omega), if_pos (by omega)]; rfl
    · rw [if_neg (by omega)]
      by_cases c2 : i = k ∧ j = e
      · rw [if_pos (by omega), if_pos (by omega)]; rfl
      · rw [if_neg (by omega), if_neg (by omega)]
        exact q6 i hi j hj
theorem m_unmeets {S' : Mud} (hl : Ly σ) (n8 : Hn H ≤ 8) (hM : mM H S' b σ) (hb : b + 91 ≤ 2484) (hk : k < Hn H) (he : e < Hn H) (hne : k ≠ e)
    (h1 : tu S' = tu S + 1) (h2 : pa S' = pa S + 1) (h3 : mi S' = mi S) (h4 : ∀ j, sa S' j = if j = k ∨ j = e then sa S j + 1 else sa S j) (h5 : th S' = th S) (h6 : ∀ i j, me S' i j = if (i = k ∧ j = e) ∨ (i = e ∧ j = k) then true else me S i j) (h7 : me S k e = false) (h8 : me S e k = false) :
    WM q_Md_meets [.ref 204, .int (nI b), .int (nI k), .int (nI e), .int (mI 1)] σ (kV fun s => Ly s ∧ Fi (PS b) σ s ∧ mM H (mtu S) b s) := by
  obtain ⟨q1, q2, q3, q4, q5, q6⟩ := hM
  have mm : ∀ a : Nat, nI (a + 1) + mI 1 = nI a := mI_add
  have a1 := h4 k
  have a2 := h4 e
  rw [if_pos (Or.inl rfl)] at a1
  rw [if_pos (Or.inr rfl)] at a2
  refine w_Md_meets _ _ _ _ hl ?_
  rw [if_pos (by decide)]
  simp (disch := omega) only [lt, nI_add, nI_mulN, inb_nI, cl_nI]
  refine ⟨by omega, ?_⟩
  rw [if_pos (by decide)]
  simp (disch := omega) only [rI_ne, q2, q4 k hk, q4 e he, a1, a2, h2, mm]
  refine ⟨by omega, by omega, by omega, by omega, by omega, by omega, by omega, ?_⟩
  have f : ∀ x1 x2 x3 x4 x5, Fi (PS b) σ (jh_setI (jh_setI (jh_setI (jh_setI (jh_setI σ 218 (b + 27 + 8 * k + e) x1) 218 (b + 27 + 8 * e + k) x2) 218 (b + 11 + k) x3) 218 (b + 11 + e) x4) 218 (b + 2) x5) := fun x1 x2 x3 x4 x5 => Fi_s (Fi_s (Fi_s (Fi_s (Fi_s (Fi_r _ _) (by unfold PS; omega)) (by unfold PS; omega)) (by unfold PS; omega)) (by unfold PS; omega)) (by unfold PS; omega)
  refine ⟨Fi_ly (f _ _ _ _ _) hl, f _ _ _ _ _, ?_, rI_eq, fun j hj => ?_, fun j hj => ?_, fun j hj => ?_, fun i hi j hj => ?_⟩
  · simp (disch := omega) only [rI_ne]; rw [q1, h1]; rfl
  · simp (disch := omega) only [rI_ne]; rw [q3 j hj, h3]; rfl
  · show _ = nI (sa S j)
    rw [rI_ne (by omega), rI, rI]
    by_cases c1 : j = e
    · rw [if_pos ⟨rfl, by omega⟩, c1]
    · rw [if_neg (by omega)]
      by_cases c2 : j = k
      · rw [if_pos ⟨rfl, by omega⟩, c2]
      · rw [if_neg (by omega)]
        simp (disch := omega) only [rI_ne]
        rw [q4 j hj, h4 j, if_neg (by omega)]
  · simp (disch := omega) only [rI_ne]; rw [q5 j hj, h5]; rfl
  · show _ = bI (me S i j)
    rw [rI_ne (by omega), rI_ne (by omega), rI_ne (by omega), rI, rI]
    by_cases c1 : i = e ∧ j = k
    · rw [if_pos (by omega), c1.1, c1.2, h8]; rfl
    · rw [if_neg (by omega)]
      by_cases c2 : i = k ∧ j = e
      · rw [if_pos (by omega), c2.1, c2.2, h7]; rfl
      · rw [if_neg (by omega), q6 i hi j hj, h6 i j, if_neg (by omega)]
/-- the places that a turn of the muddle from b on changes -/
def PT (b c j : Nat) : Prop := c = 216 ∨ c = 217 ∨ (c = 218 ∧ b ≤ j ∧ j < b + 91)
theorem PS_PT {b c j : Nat} (h : PS b c j) : PT b c j := by unfold PS at h; unfold PT; omega
theorem PF_PT {b c j : Nat} (h : PF c j) : PT b c j := by unfold PF at h; unfold PT; omega
def ctn (H : Hou) (L : Option Lws) (S : Mud) (k e : Nat) : Nat := cst L (wrs H (trn S k e)) (tu S) (pa S)
theorem WS_swp (hS : WS H S) (hk : k < Hn H) (he : e < Hn H) (t1 : th S k = true) (t2 : th S e = true) : WS H (mswp S k e) := by
  obtain ⟨s1, s2, s3, s4, s5⟩ := hS
  refine ⟨Pn_swp s1 hk he, fun j hj ht => ?_, s3, s4, s5⟩
  have ht : th S j = false := ht
  have c1 : j ≠ k := fun q => by rw [q] at ht; exact absurd (t1.symm.trans ht) (by decide)
  have c2 : j ≠ e := fun q => by rw [q] at ht; exact absurd (t2.symm.trans ht) (by decide)
  show swp (mi S) k e j = j
  rw [swp_o c1 c2]
  exact s2 j hj ht
theorem may_th (h : mayT H S k e = true) : th S k = true ∧ th S e = true ∧ k ≠ e ∧ me S k e = false ∧ Hx H k e = false ∧ sa S k < lim H k ∧ sa S e < lim H e := by
  unfold mayT opn at h
  simp only [Bool.and_eq_true, decide_eq_true_eq, Bool.not_eq_true', decide_eq_false_iff_not] at h
  obtain ⟨⟨⟨⟨⟨t1, l1⟩, t2, l2⟩, n1⟩, n2⟩, n3⟩ := h
  exact ⟨t1, t2, n1, n2, n3, l1, l2⟩
theorem m_turns (hl : Ly σ) (hW : WH H) (hS : WS H S) (hH : mHL H L σ) (hM : mM H S b σ) (hb : b + 91 ≤ 2484) (hk : k < Hn H) (he : e < Hn H) (hm : mayT H S k e = true) : WM q_Md_turns [.ref 204, .int (nI b), .int (nI k), .int (nI e)] σ (kI fun x s => x = nI (ctn H L S k e) ∧ Ly s ∧ Fi (PT b) σ s ∧ mM H (trn S k e) b s ∧ s.2.1 218 (b + 1) = σ.2.1 218 (b + 1) + nI (ctn H L S k e)) := by
  have n8 := hW.1
  obtain ⟨t1, t2, hne, -⟩ := may_th hm
  refine w_Md_turns _ _ _ hl ?_
  refine WM_V (m_swaps hl n8 hM hb hk he) fun s1 ⟨l1, f1, M1⟩ => ⟨l1, ?_⟩
  simp (disch := omega) only [nI_add, inb_nI, cl_nI, M1.2.1]
  refine ⟨by omega, ?_⟩
  have H1 : mHL H L s1 := mHL_f f1 (fun b j h1 h2 => by unfold PS; omega) hH
  refine WM_I (m_costNow (L := L) (p := pa S) l1 hW (WS_swp hS hk he t1 t2) H1 M1 hb) fun x s2 ⟨hx, l2, f2⟩ => ⟨l2, ?_⟩
  have M2 : mM H (mswp S k e) b s2 := mM_f n8 f2 (fun j h1 h2 h3 => by unfold PF; omega) M1
  refine WM_V (m_meets l2 n8 M2 hb hk he hne) fun s3 ⟨l3, f3, M3⟩ => ⟨l3, ?_⟩
  have et := M3.1
  rw [Nat.add_zero] at et
  have f13 : Fi (PT b) σ s3 := Fi_t (Fi_m f1 (fun _ _ => PS_PT)) (Fi_t (Fi_m f2 (fun _ _ => PF_PT)) (Fi_m f3 (fun _ _ => PS_PT)))
  have ec : s3.2.1 218 (b + 1) = σ.2.1 218 (b + 1) := by
    rw [f3.2.2 218 (b + 1) (by unfold PS; omega), f2.2.2 218 (b + 1) (by unfold PF; omega), f1.2.2 218 (b + 1) (by unfold PS; omega)]
  simp (disch := omega) only [lt, Nat.add_zero, nI_add, inb_nI, cl_nI, rI_ne, et, ec]
  refine ⟨by omega, by omega, by omega, by omega, hx, ?_⟩
  have f4 : ∀ y z, Fi (PT b) σ (jh_setI (jh_setI s3 218 b y) 218 (b + 1) z) := fun y z => Fi_s (Fi_s f13 (by unfold PT; omega)) (by unfold PT; omega)
  refine ⟨Fi_ly (f4 _ _) hl, f4 _ _, ?_, ?_⟩
  · obtain ⟨q1, q2, q3, q4, q5, q6⟩ := M3
    refine ⟨?_, ?_, fun j hj => ?_, fun j hj => ?_, fun j hj => ?_, fun i hi j hj => ?_⟩
    · rw [rI_ne (by omega)]; exact rI_eq
    · simp (disch := omega) only [rI_ne]; exact q2
    · simp (disch := omega) only [rI_ne]; exact q3 j hj
    · simp (disch := omega) only [rI_ne]; exact q4 j hj
    · simp (disch := omega) only [rI_ne]; exact q5 j hj
    · simp (disch := omega) only [rI_ne]; exact q6 i hi j hj
  · rw [rI_eq, hx]; rfl
theorem m_unturns {x : Int32} (hl : Ly σ) (hW : WH H) (hS : WS H S) (hM : mM H (trn S k e) b σ) (hb : b + 91 ≤ 2484) (hk : k < Hn H) (he : e < Hn H) (hm : mayT H S k e = true) : WM q_Md_unturns [.ref 204, .int (nI b), .int (nI k), .int (nI e), .int x] σ (kV fun s => Ly s ∧ Fi (PT b) σ s ∧ mM H S b s ∧ s.2.1 218 (b + 1) = σ.2.1 218 (b + 1) - x) := by
  have n8 := hW.1
  obtain ⟨t1, t2, hne, hme, -⟩ := may_th hm
  refine w_Md_unturns _ _ _ _ hl ?_
  refine WM_V (m_swaps hl n8 hM hb hk he) fun s1 ⟨l1, f1, M1⟩ => ⟨l1, ?_⟩
  refine WM_V (m_unmeets (S := S) l1 n8 M1 hb hk he hne rfl rfl (swp_swp _ _ _) (fun j => rfl) rfl (fun i j => rfl) hme (by rw [hS.2.2.1]; exact hme)) fun s3 ⟨l3, f3, M3⟩ => ⟨l3, ?_⟩
  have et := M3.1
  rw [Nat.add_zero, show tu (mtu S) = tu S + 1 from rfl] at et
  have f13 : Fi (PT b) σ s3 := Fi_t (Fi_m f1 (fun _ _ => PS_PT)) (Fi_m f3 (fun _ _ => PS_PT))
  have ec : s3.2.1 218 (b + 1) = σ.2.1 218 (b + 1) := by
    rw [f3.2.2 218 (b + 1) (by unfold PS; omega), f1.2.2 218 (b + 1) (by unfold PS; omega)]
  simp (disch := omega) only [lt, Nat.add_zero, nI_add, nI_subN, Nat.add_sub_cancel, inb_nI, cl_nI, rI_ne, et, ec]
  refine ⟨by omega, by omega, by omega, by omega, ?_⟩
  have f4 : ∀ y z, Fi (PT b) σ (jh_setI (jh_setI s3 218 b y) 218 (b + 1) z) := fun y z => Fi_s (Fi_s f13 (by unfold PT; omega)) (by unfold PT; omega)
  refine ⟨Fi_ly (f4 _ _) hl, f4 _ _, ?_, rI_eq⟩
  obtain ⟨q1, q2, q3, q4, q5, q6⟩ := M3
  refine ⟨?_, ?_, fun j hj => ?_, fun j hj => ?_, fun j hj => ?_, fun i hi j hj => ?_⟩
  · rw [rI_ne (by omega)]; exact rI_eq
  · simp (disch := omega) only [rI_ne]; exact q2
  · simp (disch := omega) only [rI_ne]; exact q3 j hj
  · simp (disch := omega) only [rI_ne]; exact q4 j hj
  · simp (disch := omega) only [rI_ne]; exact q5 j hj
  · simp (disch := omega) only [rI_ne]; exact q6 i hi j hj
end MT

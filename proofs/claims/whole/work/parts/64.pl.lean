section C5
variable {H : Hou} {L : Option Lws} {S : Mud} {a h k e i p d b : Nat} {σ s : JH}
theorem opn_rnd {j : Nat} (h1 : j ≠ k) (h2 : j ≠ e) (h3 : j ≠ i) : opn H (rnd S k e i) j = opn H S j := by
  unfold opn
  have : sa (rnd S k e i) j = sa S j := by
    show (if j = k ∨ j = i then (if j = e ∨ j = i then (if j = k ∨ j = e then sa S j + 1 else sa S j) + 1 else (if j = k ∨ j = e then sa S j + 1 else sa S j)) + 1 else (if j = e ∨ j = i then (if j = k ∨ j = e then sa S j + 1 else sa S j) + 1 else (if j = k ∨ j = e then sa S j + 1 else sa S j))) = _
    rw [if_neg (by omega), if_neg (by omega), if_neg (by omega)]
  rw [this]
  rfl
theorem ast_rnd {j : Nat} (h1 : j ≠ k) (h2 : j ≠ e) (h3 : j ≠ i) : ast H (rnd S k e i) j = ast H S j := by
  unfold ast
  have : mi (rnd S k e i) j = mi S j := by
    show rot (mi S) k e i j = _
    unfold rot
    rw [if_neg h1, if_neg h2, if_neg h3]
  rw [this]
set_option maxHeartbeats 1000000 in
theorem c_playRound (ha : IsMu a) (hW : WH H) (hS : WS H S) (q : Cs H S a h σ) (hLw : cL (lwl L) (h + 8) σ) (hk : k < Hn H) (he : e < Hn H) (hi : i < Hn H) (hm : mayR H S k e i = true) : WM q_Mu_playRound [.ref a, .int (nI k), .int (nI e), .int (nI i)] σ (kV fun s => Cs H (rnd S k e i) a h s ∧ Fi (PPl a h) σ s ∧ cL (lwl L) (h + 8) s ∧ s.2.1 a 9 = σ.2.1 a 9 + nI (crn H L S k e i)) := by
  have n8 := hW.1
  have hho := ho_lt q.2.1
  have hg := mu_ge ha
  have hWR := WS_rnd hW hS hk he hi hm
  have hn : k ≠ e ∧ e ≠ i ∧ k ≠ i := by
    unfold mayR at hm
    simp only [Bool.and_eq_true] at hm
    obtain ⟨⟨⟨⟨⟨m1, m2⟩, m3⟩, _⟩, _⟩, _⟩ := hm
    exact ⟨(may_th m1).2.2.1, (may_th m2).2.2.1, (may_th m3).2.2.1⟩
  obtain ⟨n1, n2, n3⟩ := hn
  obtain ⟨hl, hh, hH, hM⟩ := q
  have hM0 := hM
  obtain ⟨m0, m1, m2, m3, m4, m5, m6, m7, m8⟩ := hM
  refine w_Mu_playRound a _ _ _ hl ha ?_
  simp (disch := omega) only [lt, inb_nI, cl_nI, rI_ne, m1 k hk, m1 e he, m1 i hi]
  refine ⟨by omega, by omega, by omega, by omega, by omega, by omega, ?_⟩
  have f1 : Fi (PM a) σ (jh_setI (jh_setI (jh_setI σ (a + 1) i (nI (mi S e))) (a + 1) e (nI (mi S k))) (a + 1) k (nI (mi S i))) := Fi_s (Fi_s (Fi_s (Fi_r _ _) (by unfold PM; omega)) (by unfold PM; omega)) (by unfold PM; omega)
  have M1 : cMx H (rmi S k e i) (opn H S) (ast H S) a h (jh_setI (jh_setI (jh_setI σ (a + 1) i (nI (mi S e))) (a + 1) e (nI (mi S k))) (a + 1) k (nI (mi S i))) := by
    refine ⟨m0, fun j hj => ?_, fun j hj => ?_, fun j hj => ?_, ?_, ?_, ?_, ?_, ?_⟩
    · show _ = nI (rot (mi S) k e i j)
      rw [rI, rI, rI]
      unfold rot
      by_cases c1 : j = k
      · rw [if_pos ⟨rfl, c1⟩, if_pos c1]
      · rw [if_neg (fun z => c1 z.2), if_neg c1]
        by_cases c2 : j = e
        · rw [if_pos ⟨rfl, c2⟩, if_pos c2]
        · rw [if_neg (fun z => c2 z.2), if_neg c2]
          by_cases c3 : j = i
          · rw [if_pos ⟨rfl, c3⟩, if_pos c3]
          · rw [if_neg (fun z => c3 z.2), if_neg c3]; exact m1 j hj
    · simp (disch := omega) only [rI_ne]; exact m2 j hj
    · simp (disch := omega) only [rI_ne]; exact m3 j hj
    · simp (disch := omega) only [rI_ne]; exact m4
    · simp (disch := omega) only [rI_ne]; exact m5
    · simp (disch := omega) only [rI_ne]; exact m6
    · simp (disch := omega) only [rI_ne]; exact m7
    · simp (disch := omega) only [rI_ne]; exact m8
  refine WM_V (c_join (Fi_ly f1 hl) ha n8 M1 hk he n1) fun s1 ⟨l1, g1, N1⟩ => ⟨l1, ?_⟩
  refine WM_V (c_join l1 ha n8 N1 he hi n2) fun s2 ⟨l2, g2, N2⟩ => ⟨l2, ?_⟩
  refine WM_V (c_join l2 ha n8 N2 hk hi n3) fun s3 ⟨l3, g3, N3⟩ => ⟨l3, ?_⟩
  have f3 : Fi (PM a) σ (jh_setI s3 a 7 (s3.2.1 a 7 + nI 1)) := Fi_s (Fi_t f1 (Fi_t g1 (Fi_t g2 g3))) (by unfold PM; omega)
  have M3 : cMx H (rnd S k e i) (opn H S) (ast H S) a h (jh_setI s3 a 7 (s3.2.1 a 7 + nI 1)) := by
    obtain ⟨m0, m1, m2, m3, m4, m5, m6, m7, m8⟩ := N3
    refine ⟨m0, fun j hj => ?_, fun j hj => ?_, fun j hj => ?_, ?_, ?_, ?_, ?_, ?_⟩
    · rw [rI_ne (by omega)]; exact m1 j hj
    · rw [rI_ne (by omega)]; exact m2 j hj
    · rw [rI_ne (by omega)]; exact m3 j hj
    · rw [rI_ne (by omega)]; exact m4
    · rw [rI_ne (by omega)]; exact m5
    · rw [rI_ne (by omega)]; exact m6
    · rw [rI_eq, m7, nI_add]; rfl
    · rw [rI_ne (by omega)]; exact m8
  have hs : ∀ j, j < Hn H → sa (rnd S k e i) j < 1001 := fun j hj => by have := hWR.2.2.2.1 j hj; omega
  have hmm := hWR.1.1
  refine WM_V (c_settle (Fi_ly f3 hl) ha hW (cH_m ha hh f3 hH) M3 hs hmm hk) fun s4 ⟨l4, f4, M4⟩ => ⟨l4, ?_⟩
  refine WM_V (c_settle l4 ha hW (cH_m ha hh (Fi_t f3 f4) hH) M4 hs hmm he) fun s5 ⟨l5, f5, M5⟩ => ⟨l5, ?_⟩
  refine WM_V (c_settle l5 ha hW (cH_m ha hh (Fi_t (Fi_t f3 f4) f5) hH) M5 hs hmm hi) fun s6 ⟨l6, f6, M6⟩ => ⟨l6, ?_⟩
  have F6 := Fi_t (Fi_t (Fi_t f3 f4) f5) f6
  have N6 : cM H (rnd S k e i) a h s6 := by
    obtain ⟨m0, m1, m2, m3, m4, m5, m6, m7, m8⟩ := M6
    refine ⟨m0, m1, m2, m3, m4, m5.trans (congrArg nI (msk_ext fun j hj => ?_)), m6.trans (congrArg nI (msk_ext fun j hj => ?_)), m7, m8⟩
    · unfold up1
      by_cases c1 : j = i
      · rw [if_pos c1, c1]
      · rw [if_neg c1]
        by_cases c2 : j = e
        · rw [if_pos c2, c2]
        · rw [if_neg c2]
          by_cases c3 : j = k
          · rw [if_pos c3, c3]
          · rw [if_neg c3, opn_rnd c3 c2 c1]
    · unfold up1
      by_cases c1 : j = i
      · rw [if_pos c1, c1]
      · rw [if_neg c1]
        by_cases c2 : j = e
        · rw [if_pos c2, c2]
        · rw [if_neg c2]
          by_cases c3 : j = k
          · rw [if_pos c3, c3]
          · rw [if_neg c3, ast_rnd c3 c2 c1]
  have C6 : Cs H (rnd S k e i) a h s6 := ⟨l6, hh, cH_m ha hh F6 hH, N6⟩
  refine WE_i (c_wrongOnes l6 ha hW N6) ?_
  have L6 := cL_m hh ha F6 hLw
  rw [N6.1, N6.2.2.2.2.2.2.2.1, show tu (rnd S k e i) = tu S + 1 from rfl, nI_subN (by omega), Nat.add_sub_cancel, m8]
  refine WM_I (c_costOf (L := L) l6 (la_Ho hh) L6) fun y s7 ⟨hy, l7, f7⟩ => ⟨l7, ?_⟩
  have f8 : Fi (PPl a h) σ (jh_setI s7 a 9 (s6.2.1 a 9 + y)) := Fi_s (Fi_t (Fi_m F6 (fun b j z => by unfold PM at z; unfold PPl PMc; omega)) (Fi_m f7 (fun b j z => by unfold PPl; omega))) (by unfold PPl PMc; omega)
  have f9 : Fi (fun b j => b = h + 10 ∨ (b = a ∧ j = 9)) s6 (jh_setI s7 a 9 (s6.2.1 a 9 + y)) := Fi_s (Fi_m f7 (fun b j z => by omega)) (by omega)
  refine ⟨Cs_f C6 f9 (fun j _ => by omega) (fun b j _ _ => by omega) (fun b j _ _ => by omega), f8, cL_f f9 (by omega) (fun j => by omega) L6, ?_⟩
  rw [rI_eq, hy, F6.2.2 a 9 (by unfold PM; omega)]
  rfl
/-- a new one is fetched -/
def ftc (S : Mud) (k : Nat) : Mud := (mi S, sa S, up1 (th S) k true, me S, tu S, pa S)
theorem WS_ftc (hS : WS H S) : WS H (ftc S k) := by
  obtain ⟨s1, s2, s3, s4, s5⟩ := hS
  refine ⟨s1, fun j hj ht => s2 j hj ?_, s3, s4, fun j hj hw => ?_⟩
  · have ht : up1 (th S) k true j = false := ht
    unfold up1 at ht
    split at ht
    · cases ht
    · exact ht
  · show up1 (th S) k true j = true
    unfold up1
    split
    · rfl
    · exact s5 j hj hw
theorem c_playFetch (ha : IsMu a) (hW : WH H) (hS : WS H S) (q : Cs H S a h σ) (hk : k < Hn H) : WM q_Mu_playFetch [.ref a, .int (nI k)] σ (kV fun s => Cs H (ftc S k) a h s ∧ Fi (PMc a) σ s ∧ s.2.1 a 9 = σ.2.1 a 9 + nI (Hp H k)) := by
  have n8 := hW.1
  have hho := ho_lt q.2.1
  have hg := mu_ge ha
  obtain ⟨hl, hh, hH, hM⟩ := q
  obtain ⟨m0, m1, m2, m3, m4, m5, m6, m7, m8⟩ := hM
  refine w_Mu_playFetch a _ hl ha ?_
  simp (disch := omega) only [lt, inb_nI, cl_nI, rI_ne, rI_f, m0, m4, bk_set n8 hk, hH.2.2.2.2.2.1 k hk]
  refine ⟨by omega, ?_⟩
  have f1 : Fi (PMc a) σ (jh_setI (jh_setI σ a 4 (nI (msk (up1 (th S) k true) (Hn H)))) a 9 (σ.2.1 a 9 + nI (Hp H k))) := Fi_s (Fi_s (Fi_r _ _) (by unfold PMc; omega)) (by unfold PMc; omega)
  have H1 := cH_f f1 (fun b j _ _ => by unfold PMc; omega) hH
  have M1 : cMx H (ftc S k) (opn H S) (ast H S) a h (jh_setI (jh_setI σ a 4 (nI (msk (up1 (th S) k true) (Hn H)))) a 9 (σ.2.1 a 9 + nI (Hp H k))) := by
    refine ⟨m0, fun j hj => ?_, fun j hj => ?_, fun j hj => ?_, ?_, ?_, ?_, ?_, ?_⟩
    · simp (disch := omega) only [rI_ne]; exact m1 j hj
    · simp (disch := omega) only [rI_ne]; exact m2 j hj
    · simp (disch := omega) only [rI_ne]; exact m3 j hj
    · rw [rI_ne (by omega), rI_eq]; rfl
    · simp (disch := omega) only [rI_ne]; exact m5
    · simp (disch := omega) only [rI_ne]; exact m6
    · simp (disch := omega) only [rI_ne]; exact m7
    · simp (disch := omega) only [rI_ne]; exact m8
  refine WM_V (c_settle (Fi_ly f1 hl) ha hW H1 M1 (fun j hj => by have := hS.2.2.2.1 j hj; show sa S j < 1001; omega) hS.1.1 hk) fun s2 ⟨l2, f2, M2⟩ => ⟨l2, ⟨l2, hh, cH_m ha hh f2 H1, ?_⟩, Fi_t f1 (Fi_m f2 (fun b j z => by unfold PM at z; unfold PMc; omega)), ?_⟩
  · obtain ⟨m0, m1, m2, m3, m4, m5, m6, m7, m8⟩ := M2
    refine ⟨m0, m1, m2, m3, m4, m5.trans (congrArg nI (msk_ext fun j hj => ?_)), m6.trans (congrArg nI (msk_ext fun j hj => ?_)), m7, m8⟩
    · unfold up1
      by_cases c : j = k
      · rw [if_pos c, c]
      · rw [if_neg c]
        unfold opn
        have : th (ftc S k) j = th S j := up1_ne c
        rw [this]; rfl
    · unfold up1
      by_cases c : j = k
      · rw [if_pos c, c]
      · rw [if_neg c]; rfl
  · rw [f2.2.2 a 9 (by unfold PM; omega), rI_eq]
end C5
/-! ===== the model: rounds, new ones, the begin ===== -/
section M5
variable {H : Hou} {L : Option Lws} {S : Mud} {k e i b : Nat} {σ s : JH}
set_option maxHeartbeats 1000000 in
theorem m_rounds (hl : Ly σ) (hW : WH H) (hS : WS H S) (hH : mHL H L σ) (hM : mM H S b σ) (hb : b + 91 ≤ 2484) (hk : k < Hn H) (he : e < Hn H) (hi : i < Hn H) (hm : mayR H S k e i = true) : WM q_Md_rounds [.ref 204, .int (nI b), .int (nI k), .int (nI e), .int (nI i)] σ (kV fun s => Ly s ∧ Fi (PT b) σ s ∧ mM H (rnd S k e i) b s ∧ s.2.1 218 (b + 1) = σ.2.1 218 (b + 1) + nI (crn H L S k e i)) := by
  have n8 := hW.1
  have hWR := WS_rnd hW hS hk he hi hm
  have hn : k ≠ e ∧ e ≠ i ∧ k ≠ i := by
    unfold mayR at hm
    simp only [Bool.and_eq_true] at hm
    obtain ⟨⟨⟨⟨⟨m1, m2⟩, m3⟩, _⟩, _⟩, _⟩ := hm
    exact ⟨(may_th m1).2.2.1, (may_th m2).2.2.1, (may_th m3).2.2.1⟩
  obtain ⟨n1, n2, n3⟩ := hn
  obtain ⟨q1, q2, q3, q4, q5, q6⟩ := hM
  refine w_Md_rounds _ _ _ _ hl ?_
  simp (disch := omega) only [lt, nI_add, inb_nI, cl_nI, rI_ne, q3 k hk, q3 e he, q3 i hi, q2]
  refine ⟨by omega, by omega, by omega, by omega, by omega, by omega, by omega, ?_⟩
  have f1 : Fi (PS b) σ (jh_setI (jh_setI (jh_setI σ 218 (b + 3 + i) (nI (mi S e))) 218 (b + 3 + e) (nI (mi S k))) 218 (b + 3 + k) (nI (mi S i))) := Fi_s (Fi_s (Fi_s (Fi_r _ _) (by unfold PS; omega)) (by unfold PS; omega)) (by unfold PS; omega)
  have M1 : mM H (rmi S k e i) b (jh_setI (jh_setI (jh_setI σ 218 (b + 3 + i) (nI (mi S e))) 218 (b + 3 + e) (nI (mi S k))) 218 (b + 3 + k) (nI (mi S i))) := by
    refine ⟨?_, ?_, fun j hj => ?_, fun j hj => ?_, fun j hj => ?_, fun x hx j hj => ?_⟩
    · simp (disch := omega) only [rI_ne]; exact q1
    · simp (disch := omega) only [rI_ne]; exact q2
    · show _ = nI (rot (mi S) k e i j)
      rw [rI, rI, rI]
      unfold rot
      by_cases c1 : j = k
      · rw [if_pos ⟨rfl, by omega⟩, if_pos c1]
      · rw [if_neg (by omega), if_neg c1]
        by_cases c2 : j = e
        · rw [if_pos ⟨rfl, by omega⟩, if_pos c2]
        · rw [if_neg (by omega), if_neg c2]
          by_cases c3 : j = i
          · rw [if_pos ⟨rfl, by omega⟩, if_pos c3]
          · rw [if_neg (by omega), if_neg c3]; exact q3 j hj
    · simp (disch := omega) only [rI_ne]; exact q4 j hj
    · simp (disch := omega) only [rI_ne]; exact q5 j hj
    · simp (disch := omega) only [rI_ne]; exact q6 x hx j hj
  have hWr : WS H (rmi S k e i) := ⟨hWR.1, hWR.2.1, hS.2.2.1, hS.2.2.2.1, hS.2.2.2.2⟩
  have l1 := Fi_ly f1 hl
  have H1 := mHL_f f1 (fun b j h1 h2 => by unfold PS; omega) hH
  refine WM_I (m_costNow (L := L) (p := pa S) l1 hW hWr H1 M1 hb) fun x s2 ⟨hx, l2, f2⟩ => ⟨l2, ?_⟩
  have M2 : mM H (rmi S k e i) b s2 := mM_f n8 f2 (fun j h1 h2 h3 => by unfold PF; omega) M1
  refine WM_V (m_meets l2 n8 M2 hb hk he n1) fun s3 ⟨l3, f3, M3⟩ => ⟨l3, ?_⟩
  refine WM_V (m_meets l3 n8 M3 hb he hi n2) fun s4 ⟨l4, f4, M4⟩ => ⟨l4, ?_⟩
  refine WM_V (m_meets l4 n8 M4 hb hk hi n3) fun s5 ⟨l5, f5, M5⟩ => ⟨l5, ?_⟩
  have et := M5.1
  rw [Nat.add_zero] at et
  have f15 : Fi (PT b) σ s5 := Fi_t (Fi_m f1 (fun _ _ => PS_PT)) (Fi_t (Fi_m f2 (fun _ _ => PF_PT)) (Fi_m (Fi_t f3 (Fi_t f4 f5)) (fun _ _ => PS_PT)))
  have ec : s5.2.1 218 (b + 1) = σ.2.1 218 (b + 1) := by
    rw [f5.2.2 218 (b + 1) (by unfold PS; omega), f4.2.2 218 (b + 1) (by unfold PS; omega), f3.2.2 218 (b + 1) (by unfold PS; omega), f2.2.2 218 (b + 1) (by unfold PF; omega), f1.2.2 218 (b + 1) (by unfold PS; omega)]
  simp (disch := omega) only [Nat.add_zero, nI_add, inb_nI, cl_nI, rI_ne, et, ec]
  refine ⟨by omega, by omega, by omega, by omega, ?_⟩
  have f6 : ∀ y z, Fi (PT b) σ (jh_setI (jh_setI s5 218 b y) 218 (b + 1) z) := fun y z => Fi_s (Fi_s f15 (by unfold PT; omega)) (by unfold PT; omega)
  refine ⟨Fi_ly (f6 _ _) hl, f6 _ _, ?_, ?_⟩
  · obtain ⟨q1, q2, q3, q4, q5, q6⟩ := M5
    refine ⟨?_, ?_, fun j hj => ?_, fun j hj => ?_, fun j hj => ?_, fun x hx j hj => ?_⟩
    · rw [rI_ne (by omega)]; exact rI_eq
    · simp (disch := omega) only [rI_ne]; exact q2
    · simp (disch := omega) only [rI_ne]; exact q3 j hj
    · simp (disch := omega) only [rI_ne]; exact q4 j hj
    · simp (disch := omega) only [rI_ne]; exact q5 j hj
    · simp (disch := omega) only [rI_ne]; exact q6 x hx j hj
  · rw [rI_eq, hx]; rfl
theorem m_fetches (hl : Ly σ) (hW : WH H) (hH : mH H σ) (hM : mM H S b σ) (hb : b + 91 ≤ 2484) (hk : k < Hn H) : WM q_Md_fetches [.ref 204, .int (nI b), .int (nI k)] σ (kV fun s => Ly s ∧ Fi (PT b) σ s ∧ mM H (ftc S k) b s ∧ s.2.1 218 (b + 1) = σ.2.1 218 (b + 1) + nI (Hp H k)) := by
  have n8 := hW.1
  obtain ⟨q1, q2, q3, q4, q5, q6⟩ := hM
  refine w_Md_fetches _ _ hl ?_
  simp (disch := omega) only [lt, nI_add, inb_nI, cl_nI, rI_ne]
  refine ⟨by omega, by omega, ?_⟩
  have f1 : Fi (PT b) σ (jh_setI σ 218 (b + 19 + k) (nI 1)) := Fi_s (Fi_r _ _) (by unfold PT; omega)
  refine WE_i (m_price (Fi_ly f1 hl) n8 (mH_f f1 (fun j => by unfold PT; omega) hH) hk) ?_
  have f2 : ∀ x, Fi (PT b) σ (jh_setI (jh_setI σ 218 (b + 19 + k) (nI 1)) 218 (b + 1) x) := fun x => Fi_s f1 (by unfold PT; omega)
  refine ⟨by omega, Fi_ly (f2 _) hl, f2 _, ⟨?_, ?_, fun j hj => ?_, fun j hj => ?_, fun j hj => ?_, fun x hx j hj => ?_⟩, rI_eq⟩
  · simp (disch := omega) only [rI_ne]; exact q1
  · simp (disch := omega) only [rI_ne]; exact q2
  · simp (disch := omega) only [rI_ne]; exact q3 j hj
  · simp (disch := omega) only [rI_ne]; exact q4 j hj
  · show _ = bI (up1 (th S) k true j)
    rw [rI_ne (by omega), rI]
    unfold up1
    by_cases c : j = k
    · rw [if_pos ⟨rfl, by omega⟩, if_pos c]; rfl
    · rw [if_neg (by omega), if_neg c]; exact q5 j hj
  · simp (disch := omega) only [rI_ne]; exact q6 x hx j hj
set_option maxHeartbeats 2000000 in
theorem m_starts (hl : Ly σ) (hW : WH H) (hH : mH H σ) (hb : b + 91 ≤ 2484) : WM q_Md_starts [.ref 204, .int (nI b)] σ (kV fun s => Ly s ∧ Fi (PC b 91) σ s ∧ mM H (S0 H) b s ∧ s.2.1 218 (b + 1) = nI 0) := by
  have n8 := hW.1
  refine w_Md_starts _ hl ?_
  refine Lp2_inv (I := fun m v s => ∃ i, i ≤ 91 ∧ m = 91 - i ∧ v = nI i ∧ Fi (PC b 91) σ s ∧ ∀ j, j < i → s.2.1 218 (b + j) = nI 0) ?_ (m := 91) ⟨0, by omega, by omega, rfl, Fi_r _ _, fun j hj => by omega⟩
  rintro m v s ⟨i, hi, rfl, rfl, f, hz⟩ X hX
  refine ⟨Fi_ly f hl, ?_⟩
  by_cases c : 91 ≤ i
  · rw [if_pos (by rw [nI_leN (by omega) (by omega)]; exact c)]
    have hz : ∀ j, j < 91 → s.2.1 218 (b + j) = nI 0 := fun j hj => hz j (by omega)
    -- bodies one by one
    refine Lp3_inv (I := fun m v _ t => ∃ k, k ≤ Hn H ∧ m = Hn H - k ∧ v = nI k ∧ Fi (PC b 91) σ t ∧ t.2.1 218 (b + 0) = nI 0 ∧ t.2.1 218 (b + 1) = nI 0 ∧ t.2.1 218 (b + 2) = nI (prs (Hb H) k) ∧ (∀ j, j < 8 → t.2.1 218 (b + 11 + j) = nI 0) ∧ (∀ j, j < k → t.2.1 218 (b + 3 + j) = nI (Hm H j) ∧ t.2.1 218 (b + 19 + j) = bI (!Hw H j) ∧ ∀ e, e < Hn H → t.2.1 218 (b + 27 + 8 * j + e) = bI (Hb H j e))) ?_ (m := Hn H) ⟨0, by omega, by omega, rfl, f, hz 0 (by omega), hz 1 (by omega), hz 2 (by omega), fun j hj => by rw [Nat.add_assoc]; exact hz _ (by omega), fun j hj => by omega⟩
    rintro m' v' o t ⟨k, hk, rfl, rfl, ft, z0, z1, z2, z3, z4⟩ X' hX'
    have Ht := mH_f ft (fun j => by unfold PC; omega) hH
    have lt' := Fi_ly ft hl
    refine ⟨lt', WE_i (m_bodies lt' Ht) ?_⟩
    by_cases d : Hn H ≤ k
    · rw [if_pos (by rw [nI_leN (by omega) (by omega)]; exact d)]
      have ek : k = Hn H := by omega
      refine ⟨lt', ft, ⟨z0, by rw [z2, ek]; rfl, fun j hj => (z4 j (by omega)).1, fun j hj => z3 j (by omega), fun j hj => (z4 j (by omega)).2.1, fun j hj e he => (z4 j (by omega)).2.2 e he⟩, z1⟩
    · rw [if_neg (by rw [nI_leN (by omega) (by omega)]; exact d)]
      have hkn : k < Hn H := by omega
      refine WE_i (m_mind0 lt' n8 Ht hkn) ?_
      simp (disch := omega) only [lt, nI_add, inb_nI, cl_nI]
      refine ⟨by omega, ?_⟩
      have f1 : Fi (PC b 91) σ (jh_setI t 218 (b + 3 + k) (nI (Hm H k))) := Fi_s ft (by unfold PC; omega)
      refine WE_i (m_new (Fi_ly f1 hl) n8 (mH_f f1 (fun j => by unfold PC; omega) hH) hkn) ?_
      refine ⟨by omega, ?_⟩
      have eb : nI 1 - bI (Hw H k) = bI (!Hw H k) := by cases Hw H k <;> decide
      rw [eb]
      have f2 : Fi (PC b 91) σ (jh_setI (jh_setI t 218 (b + 3 + k) (nI (Hm H k))) 218 (b + 19 + k) (bI (!Hw H k))) := Fi_s f1 (by unfold PC; omega)
      refine Lp2_inv (I := fun m v u => ∃ e, e ≤ Hn H ∧ m = Hn H - e ∧ v = nI e ∧ Fi (PC b 91) σ u ∧ Fi (fun c j => c = 218 ∧ ((b + 27 + 8 * k ≤ j ∧ j < b + 27 + 8 * k + 8) ∨ j = b + 2)) (jh_setI (jh_setI t 218 (b + 3 + k) (nI (Hm H k))) 218 (b + 19 + k) (bI (!Hw H k))) u ∧ u.2.1 218 (b + 2) = nI (prs (Hb H) k + cntB (Hb H k) (min e k)) ∧ ∀ x, x < e → u.2.1 218 (b + 27 + 8 * k + x) = bI (Hb H k x)) ?_ (m := Hn H) ⟨0, by omega, by omega, rfl, f2, Fi_r _ _, by rw [rI_ne (by omega), rI_ne (by omega), z2, Nat.zero_min]; rfl, fun x hx => by omega⟩
      rintro m2 v2 u ⟨e, he, rfl, rfl, fu, fv, y2, y4⟩ X2 hX2
      have Hu := mH_f fu (fun j => by unfold PC; omega) hH
      have lu := Fi_ly fu hl
      refine ⟨lu, WE_i (m_bodies lu Hu) ?_⟩
      by_cases dd : Hn H ≤ e
      · rw [if_pos (by rw [nI_leN (by omega) (by omega)]; exact dd)]
        have ee : e = Hn H := by omega
        refine hX' _ _ _ _ (by omega) ⟨k + 1, by omega, rfl, rfl, fu, ?_, ?_, ?_, fun j hj => ?_, fun j hj => ?_⟩
        · rw [fv.2.2 218 (b + 0) (by omega), rI_ne (by omega), rI_ne (by omega)]; exact z0
        · rw [fv.2.2 218 (b + 1) (by omega), rI_ne (by omega), rI_ne (by omega)]; exact z1
        · rw [y2, Nat.min_eq_right (by omega)]; rfl
        · rw [fv.2.2 218 (b + 11 + j) (by omega), rI_ne (by omega), rI_ne (by omega)]; exact z3 j hj
        · by_cases zz : j = k
          · subst zz
            refine ⟨?_, ?_, fun x hx => y4 x (by omega)⟩
            · rw [fv.2.2 218 (b + 3 + j) (by omega), rI_ne (by omega), rI_eq]
            · rw [fv.2.2 218 (b + 19 + j) (by omega), rI_eq]
          · obtain ⟨a1, a2, a3⟩ := z4 j (by omega)
            refine ⟨?_, ?_, fun x hx => ?_⟩
            · rw [fv.2.2 218 (b + 3 + j) (by omega), rI_ne (by omega), rI_ne (by omega)]; exact a1
            · rw [fv.2.2 218 (b + 19 + j) (by omega), rI_ne (by omega), rI_ne (by omega)]; exact a2
            · rw [fv.2.2 218 (b + 27 + 8 * j + x) (by omega), rI_ne (by omega), rI_ne (by omega)]; exact a3 x hx
      · rw [if_neg (by rw [nI_leN (by omega) (by omega)]; exact dd)]
        have eh : u.2.1 210 (40 + 8 * k + e) = bI (Hb H k e) := Hu.2.2.2.2.2.2.1 k hkn e (by omega)
        simp (disch := omega) only [nI_mulN, nI_add, inb_nI, cl_nI, nI_leN, rI_ne, eh, y2]
        refine ⟨by omega, by omega, by omega, ?_⟩
        have nx : ∀ y, y = nI (prs (Hb H) k + cntB (Hb H k) (min (e + 1) k)) → X2 (nI (e + 1)) (jh_setI (jh_setI u 218 (b + 27 + 8 * k + e) (bI (Hb H k e))) 218 (b + 2) y) := fun y hy => by
          refine hX2 _ _ _ (by omega) ⟨e + 1, by omega, rfl, rfl, Fi_s (Fi_s fu (by unfold PC; omega)) (by unfold PC; omega), Fi_s (Fi_s fv (by omega)) (by omega), by rw [rI_eq, hy], fun x hx => ?_⟩
          rw [rI_ne (by omega), rI]
          by_cases zz : x = e
          · rw [if_pos ⟨rfl, by omega⟩, zz]
          · rw [if_neg (by omega)]; exact y4 x (by omega)
        by_cases q : k ≤ e
        · rw [if_pos q]
          refine ⟨by omega, nx _ ?_⟩
          rw [Nat.min_eq_right q, Nat.min_eq_right (by omega), Nat.add_zero]
        · rw [if_neg q]
          refine ⟨by omega, by omega, nx _ ?_⟩
          rw [Nat.min_eq_left (by omega), Nat.min_eq_left (by omega), cntB_succ]
          cases Hb H k e
          · show _ + nI 0 = _
            rw [nI_add]; rfl
          · show _ + nI 1 = _
            rw [nI_add]; rfl
  · rw [if_neg (by rw [nI_leN (by omega) (by omega)]; exact c)]
    simp (disch := omega) only [lt, nI_add, inb_nI, cl_nI]
    refine ⟨by omega, hX _ _ _ (by omega) ⟨i + 1, by omega, rfl, rfl, Fi_s f (by unfold PC; omega), fun j hj => ?_⟩⟩
    rw [rI]
    by_cases z : j = i
    · rw [if_pos ⟨rfl, by omega⟩]
    · rw [if_neg (by omega)]; exact hz j (by omega)
end M5

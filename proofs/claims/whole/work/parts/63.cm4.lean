/-! ===== the class: a muddle begins; turns, rounds, new ones ===== -/
def prs (F : Nat → Nat → Bool) : Nat → Nat
  | 0 => 0
  | k + 1 => prs F k + cntB (F k) k
def tot (F : Nat → Nat → Bool) (N : Nat) : Nat → Nat
  | 0 => 0
  | k + 1 => tot F N k + cntB (F k) N
theorem tot_s (F : Nat → Nat → Bool) (N i : Nat) : tot F (N + 1) i = tot F N i + cntB (fun k => F k N) i := by
  induction i with
  | zero => rfl
  | succ i ih =>
    show tot F (N + 1) i + cntB (F i) (N + 1) = tot F N i + cntB (F i) N + (cntB (fun k => F k N) i + if F i N = true then 1 else 0)
    rw [ih, cntB_succ]
    omega
theorem tot_prs {F : Nat → Nat → Bool} (h1 : ∀ k e, F k e = F e k) (h2 : ∀ k, F k k = false) : ∀ n, tot F n n = 2 * prs F n := by
  intro n
  induction n with
  | zero => rfl
  | succ n ih =>
    show tot F (n + 1) n + cntB (F n) (n + 1) = 2 * (prs F n + cntB (F n) n)
    rw [tot_s, ih, cntB_succ, h2 n, cntB_ext (f := fun k => F k n) (g := F n) (fun k _ => h1 k n)]
    simp
    omega
/-- as it is at the begin -/
def S0 (H : Hou) : Mud := (Hm H, (fun _ => 0), (fun k => !Hw H k), Hb H, 0, prs (Hb H) (Hn H))
theorem WS_0 {H : Hou} (hW : WH H) : WS H (S0 H) := by
  obtain ⟨w1, w2, w3, w4, w5, w6, w7, w8, w9, w10, w11, w12, w13⟩ := hW
  refine ⟨w6, fun k hk ht => w7 k hk ?_, w9, fun k _ => by show 0 < 1000; omega, fun k hk hw => ?_⟩
  · have ht : (!Hw H k) = false := ht
    simpa using ht
  · show (!Hw H k) = true
    rw [hw]; rfl
section C4
variable {H : Hou} {L : Option Lws} {S : Mud} {a h k e i p d : Nat} {σ s : JH}
theorem c_peopleBits (hl : Ly σ) (hh : IsHo h) (hW : WH H) (hH : cH H h σ) : q_Ho_peopleBits [.ref h] σ = some (some (.int (nI (msk (fun k => !Hw H k) (Hn H)))), σ) := by
  have n8 := hW.1
  refine WE_o (w_Ho_peopleBits h hl hh ?_)
  have e : q_Ho_allBits [.ref h] σ = some (some (.int (nI (msk (fun _ => true) (Hn H)))), σ) := by
    refine WE_o (w_Ho_allBits h hl hh ?_)
    rw [hH.1, all_bits _ (by omega), msk_true]
  refine WE_i e ?_
  rw [hH.2.1, bk_sub]
  exact congrArg nI (msk_ext (fun k hk => by rw [Bool.true_and]))
theorem c_pairsIn {F : Nat → Nat → Bool} {q : Nat} (hl : Ly σ) (hh : IsHo h) (hW : WH H) (hn : σ.2.1 h 8 = nI (Hn H)) (hq : IsA8 q) (hF : ∀ k, k < Hn H → σ.2.1 q k = nI (msk (F k) (Hn H))) (h1 : ∀ k e, F k e = F e k) (h2 : ∀ k, F k k = false) : q_Ho_pairsIn [.ref h, .ref q] σ = some (some (.int (nI (prs F (Hn H)))), σ) := by
  have n8 := hW.1
  refine WE_o (w_Ho_pairsIn h q hl hh hq ?_)
  rw [hn]
  have tl : ∀ i, tot F (Hn H) i ≤ i * Hn H := by
    intro i
    induction i with
    | zero => exact Nat.zero_le _
    | succ i ih =>
      have := cntB_le (F i) (Hn H)
      rw [Nat.succ_mul]
      show tot F (Hn H) i + cntB (F i) (Hn H) ≤ _
      omega
  refine Lp2_inv (I := fun m v1 v2 => ∃ i, i ≤ Hn H ∧ m = Hn H - i ∧ v2 = nI i ∧ v1 = nI (tot F (Hn H) i)) ?_ (m := Hn H) ⟨0, by omega, by omega, rfl, rfl⟩
  rintro m v1 v2 ⟨i, hi, rfl, rfl, rfl⟩ X hX
  by_cases c : Hn H ≤ i
  · rw [if_pos (by rw [nI_leN (by omega) (by omega)]; exact c), show i = Hn H by omega]
    have h3 := tl (Hn H)
    have h4 : Hn H * Hn H ≤ 8 * 8 := Nat.mul_le_mul n8 n8
    rw [nI_divN (by omega) (by omega), tot_prs h1 h2, Nat.mul_div_cancel_left _ (by omega)]
  · rw [if_neg (by rw [nI_leN (by omega) (by omega)]; exact c)]
    simp (disch := omega) only [inb_nI, cl_nI, hF i (show i < Hn H by omega)]
    refine ⟨by omega, ?_⟩
    refine WE_i (j_bcm hl n8) ?_
    exact hX _ _ _ (by omega) ⟨i + 1, by omega, rfl, nI_add i 1, by rw [nI_add]; rfl⟩
theorem a8_5 (hh : IsHo h) : IsA8 (h + 5) := by rcases hh with rfl | rfl <;> exact ⟨by omega, by omega, by decide +kernel⟩
theorem a8_6 (hh : IsHo h) : IsA8 (h + 6) := by rcases hh with rfl | rfl <;> exact ⟨by omega, by omega, by decide +kernel⟩
def PMb (a b _j : Nat) : Prop := a ≤ b ∧ b < a + 4
set_option maxHeartbeats 1000000 in
theorem c_begin (ha : IsMu a) (hh : IsHo h) (hW : WH H) (hl : Ly σ) (hH : cH H h σ) : WM q_Mu_begin [.ref a, .ref h] σ (kV fun s => Cs H (S0 H) a h s ∧ Fg (PMb a) σ s ∧ s.2.1 a 9 = nI 0 ∧ cSn H [] a s) := by
  have n8 := hW.1
  have hho := ho_lt hh
  have hg := mu_ge ha
  refine w_Mu_begin a h hl ha hh ?_
  simp only [lt]
  have hl1 := ly_put_Mu_3 hl ha hh
  have g1 : Fg (PMb a) σ (jh_setR σ a 3 (some h)) := Fg_sR (Fg_r _ _) (by unfold PMb; omega)
  have H1 : cH H h (jh_setR σ a 3 (some h)) := cH_g g1 (fun b j _ _ => by unfold PMb; omega) hH
  have r1 : rf (jh_setR σ a 3 (some h)) a 3 = h := by rw [rR_f, if_pos ⟨rfl, rfl⟩]
  generalize jh_setR σ a 3 (some h) = s1 at hl1 g1 H1 r1
  refine WE_i (c_peopleBits hl1 hh hW H1) ?_
  have f2 : ∀ x, Fi (PMb a) s1 (jh_setI (jh_setI (jh_setI (jh_setI s1 a 4 x) a 5 (nI 0)) a 6 (nI 0)) a 7 (nI 0)) := fun x => Fi_s (Fi_s (Fi_s (Fi_s (Fi_r _ _) (by unfold PMb; omega)) (by unfold PMb; omega)) (by unfold PMb; omega)) (by unfold PMb; omega)
  have f2 := f2 (nI (msk (fun k => !Hw H k) (Hn H)))
  have v4 : (jh_setI (jh_setI (jh_setI (jh_setI s1 a 4 (nI (msk (fun k => !Hw H k) (Hn H)))) a 5 (nI 0)) a 6 (nI 0)) a 7 (nI 0)).2.1 a 4 = nI (msk (fun k => !Hw H k) (Hn H)) := by simp (disch := omega) only [rI_ne, rI_eq]
  have v5 : (jh_setI (jh_setI (jh_setI (jh_setI s1 a 4 (nI (msk (fun k => !Hw H k) (Hn H)))) a 5 (nI 0)) a 6 (nI 0)) a 7 (nI 0)).2.1 a 5 = nI 0 := by simp (disch := omega) only [rI_ne, rI_eq]
  have v6 : (jh_setI (jh_setI (jh_setI (jh_setI s1 a 4 (nI (msk (fun k => !Hw H k) (Hn H)))) a 5 (nI 0)) a 6 (nI 0)) a 7 (nI 0)).2.1 a 6 = nI 0 := by simp (disch := omega) only [rI_ne, rI_eq]
  have v7 : (jh_setI (jh_setI (jh_setI (jh_setI s1 a 4 (nI (msk (fun k => !Hw H k) (Hn H)))) a 5 (nI 0)) a 6 (nI 0)) a 7 (nI 0)).2.1 a 7 = nI 0 := rI_eq
  generalize jh_setI (jh_setI (jh_setI (jh_setI s1 a 4 (nI (msk (fun k => !Hw H k) (Hn H)))) a 5 (nI 0)) a 6 (nI 0)) a 7 (nI 0) = s2 at f2 v4 v5 v6 v7
  have H2 := cH_f f2 (fun b j _ _ => by unfold PMb; omega) H1
  have hl2 := Fi_ly f2 hl1
  refine WE_i (c_pairsIn (F := Hb H) hl2 hh hW H2.1 (a8_5 hh) H2.2.2.2.2.2.2.2.1 hW.2.2.2.2.2.2.2.2.1 hW.2.2.2.2.2.2.2.2.2.2.2.1) ?_
  have g3 : Fg (PMb a) σ (jh_setI (jh_setJ (jh_setI (jh_setI s2 a 8 (nI (prs (Hb H) (Hn H)))) a 9 (nI 0)) a 10 0) a 11 (nI 0)) := Fg_sI (Fg_sJ (Fg_sI (Fg_sI (Fg_t g1 (Fi_g f2)) (by unfold PMb; omega)) (by unfold PMb; omega)) (by unfold PMb; omega)) (by unfold PMb; omega)
  have hl3 : Ly (jh_setI (jh_setJ (jh_setI (jh_setI s2 a 8 (nI (prs (Hb H) (Hn H)))) a 9 (nI 0)) a 10 0) a 11 (nI 0)) := hl2
  have r3 : rf (jh_setI (jh_setJ (jh_setI (jh_setI s2 a 8 (nI (prs (Hb H) (Hn H)))) a 9 (nI 0)) a 10 0) a 11 (nI 0)) a 3 = h := (Fi_rf f2 a 3).trans r1
  have v3 : ∀ j, j ≤ 7 → (jh_setI (jh_setJ (jh_setI (jh_setI s2 a 8 (nI (prs (Hb H) (Hn H)))) a 9 (nI 0)) a 10 0) a 11 (nI 0)).2.1 a j = s2.2.1 a j := fun j hj => by
    rw [rI_ne (by omega), rJ_1, rI_ne (by omega), rI_ne (by omega)]
  have v8 : (jh_setI (jh_setJ (jh_setI (jh_setI s2 a 8 (nI (prs (Hb H) (Hn H)))) a 9 (nI 0)) a 10 0) a 11 (nI 0)).2.1 a 8 = nI (prs (Hb H) (Hn H)) := by
    rw [rI_ne (by omega), rJ_1, rI_ne (by omega), rI_eq]
  have v9 : (jh_setI (jh_setJ (jh_setI (jh_setI s2 a 8 (nI (prs (Hb H) (Hn H)))) a 9 (nI 0)) a 10 0) a 11 (nI 0)).2.1 a 9 = nI 0 := by
    rw [rI_ne (by omega), rJ_1, rI_eq]
  have v11 : (jh_setI (jh_setJ (jh_setI (jh_setI s2 a 8 (nI (prs (Hb H) (Hn H)))) a 9 (nI 0)) a 10 0) a 11 (nI 0)).2.1 a 11 = nI 0 := rI_eq
  have v10 : (jh_setI (jh_setJ (jh_setI (jh_setI s2 a 8 (nI (prs (Hb H) (Hn H)))) a 9 (nI 0)) a 10 0) a 11 (nI 0)).2.2.1 a 10 = 0 := by
    rw [rJ_I, rJ_eq]
  rw [← v3 4 (by omega)] at v4
  rw [← v3 5 (by omega)] at v5
  rw [← v3 6 (by omega)] at v6
  rw [← v3 7 (by omega)] at v7
  generalize jh_setI (jh_setJ (jh_setI (jh_setI s2 a 8 (nI (prs (Hb H) (Hn H)))) a 9 (nI 0)) a 10 0) a 11 (nI 0) = s3 at g3 hl3 r3 v4 v5 v6 v7 v8 v9 v10 v11
  have H3 := cH_g g3 (fun b j _ _ => by unfold PMb; omega) hH
  refine Lp2_inv (I := fun m v t => ∃ i, i ≤ 8 ∧ m = 8 - i ∧ v = nI i ∧ Fi (fun b _ => a < b ∧ b < a + 4) s3 t ∧ ∀ j, j < i → t.2.1 (a + 1) j = s3.2.1 (h + 4) j ∧ t.2.1 (a + 2) j = s3.2.1 (h + 5) j ∧ t.2.1 (a + 3) j = nI 0) ?_ (m := 8) ⟨0, by omega, by omega, rfl, Fi_r _ _, fun j hj => by omega⟩
  rintro m v t ⟨i, hi, rfl, rfl, f, hv⟩ X hX
  have hlt := Fi_ly f hl3
  refine ⟨hlt, ?_⟩
  by_cases c : 8 ≤ i
  · rw [if_pos (by rw [nI_leN (by omega) (by omega)]; exact c)]
    have gt : Fg (PMb a) σ t := Fg_t g3 (Fg_m (Fi_g f) (fun b j q => by unfold PMb; omega))
    have Ht := cH_g gt (fun b j _ _ => by unfold PMb; omega) hH
    have M0 : cMx H (S0 H) (fun _ => false) (fun _ => false) a h t := by
      refine ⟨(Fi_rf f a 3).trans r3, fun k hk => ?_, fun k hk => ?_, fun k hk => ?_, ?_, ?_, ?_, ?_, ?_⟩
      · rw [(hv k (by omega)).1]; exact H3.2.2.2.2.2.2.1 k hk
      · rw [(hv k (by omega)).2.1]; exact H3.2.2.2.2.2.2.2.1 k hk
      · exact (hv k (by omega)).2.2
      · rw [f.2.2 a 4 (by omega)]; exact v4
      · rw [f.2.2 a 5 (by omega), v5, msk_0 (fun _ _ => rfl)]
      · rw [f.2.2 a 6 (by omega), v6, msk_0 (fun _ _ => rfl)]
      · rw [f.2.2 a 7 (by omega)]; exact v7
      · rw [f.2.2 a 8 (by omega)]; exact v8
    have w9 : t.2.1 a 9 = nI 0 := (f.2.2 a 9 (by omega)).trans v9
    have w11 : t.2.1 a 11 = nI 0 := (f.2.2 a 11 (by omega)).trans v11
    have w10 : t.2.2.1 a 10 = 0 := by rw [f.2.1]; exact v10
    have hS0 := WS_0 hW
    refine Lp2_inv (I := fun m v u => ∃ i op as, i ≤ Hn H ∧ m = Hn H - i ∧ v = nI i ∧ Fi (PM a) t u ∧ Ly u ∧ cMx H (S0 H) op as a h u ∧ ∀ j, j < i → op j = opn H (S0 H) j ∧ as j = ast H (S0 H) j) ?_ (m := Hn H) ⟨0, _, _, by omega, by omega, rfl, Fi_r _ _, hlt, M0, fun j hj => by omega⟩
    rintro m' v' u ⟨i', op, as, hi', rfl, rfl, fu, lu, Mu, hu⟩ X' hX'
    refine ⟨lu, ?_⟩
    have Hu := cH_f fu (fun b j _ _ => by unfold PM; omega) Ht
    rw [Hu.1]
    by_cases d : Hn H ≤ i'
    · rw [if_pos (by rw [nI_leN (by omega) (by omega)]; exact d)]
      obtain ⟨m0, m1, m2, m3, m4, m5, m6, m7, m8⟩ := Mu
      refine ⟨⟨lu, hh, Hu, m0, m1, m2, m3, m4, m5.trans (congrArg nI (msk_ext (fun j hj => (hu j (by omega)).1))), m6.trans (congrArg nI (msk_ext (fun j hj => (hu j (by omega)).2))), m7, m8⟩, Fg_t gt (Fg_m (Fi_g fu) (fun b j q => by unfold PM at q; unfold PMb; omega)), ?_, ?_, ?_, by simp, fun q hq => by cases hq⟩
      · exact (fu.2.2 a 9 (by unfold PM; omega)).trans w9
      · rw [fu.2.1]; exact w10
      · exact (fu.2.2 a 11 (by unfold PM; omega)).trans w11
    · rw [if_neg (by rw [nI_leN (by omega) (by omega)]; exact d)]
      refine WM_V (c_settle lu ha hW Hu Mu (fun j hj => by show 0 < 1001; omega) hS0.1.1 (show i' < Hn H by omega)) fun u2 ⟨l2, f2, M2⟩ => ⟨l2, ?_⟩
      refine hX' _ _ _ (by omega) ⟨i' + 1, _, _, by omega, rfl, nI_add i' 1, Fi_t fu f2, l2, M2, fun j hj => ?_⟩
      by_cases z : j = i'
      · rw [z, up1_eq, up1_eq]; exact ⟨rfl, rfl⟩
      · rw [up1_ne z, up1_ne z]; exact hu j (by omega)
  · rw [if_neg (by rw [nI_leN (by omega) (by omega)]; exact c)]
    have e1 : t.2.1 (h + 4) i = s3.2.1 (h + 4) i := f.2.2 _ _ (by omega)
    have e2 : t.2.1 (h + 5) i = s3.2.1 (h + 5) i := f.2.2 _ _ (by omega)
    simp (disch := omega) only [inb_nI, cl_nI, rI_ne, e1, e2]
    refine ⟨by omega, by omega, by omega, by omega, by omega, hX _ _ _ (by omega) ⟨i + 1, by omega, rfl, nI_add i 1, Fi_s (Fi_s (Fi_s f (by omega)) (by omega)) (by omega), fun j hj => ?_⟩⟩
    by_cases z : j = i
    · rw [z]
      simp (disch := omega) only [rI_ne, rI_eq]
      exact ⟨by first | trivial | rfl, by first | trivial | rfl, by first | trivial | rfl⟩
    · rw [rI_ne (by omega), rI_ne (by omega), rI_ne (by omega), rI_ne (by omega), rI_ne (by omega), rI_ne (by omega), rI_ne (by omega), rI_ne (by omega), rI_ne (by omega)]
      exact hv j (by omega)
/-- the law's rows are somewhere else -/
theorem cL_m {M : Lws} (hh : IsHo h) (ha : IsMu a) {t : JH} (f : Fi (PM a) s t) (q : cL M (h + 8) s) : cL M (h + 8) t := by
  have h1 := ho_lt hh
  have h2 := mu_ge ha
  exact cL_f f (by unfold PM; omega) (fun j => by unfold PM; omega) q
def PPl (a h b j : Nat) : Prop := PMc a b j ∨ b = h + 10
theorem c_playTurn (ha : IsMu a) (hW : WH H) (hS : WS H S) (q : Cs H S a h σ) (hLw : cL (lwl L) (h + 8) σ) (hk : k < Hn H) (he : e < Hn H) (hne : k ≠ e) : WM q_Mu_playTurn [.ref a, .int (nI k), .int (nI e)] σ (kV fun s => Cs H (trn S k e) a h s ∧ Fi (PPl a h) σ s ∧ cL (lwl L) (h + 8) s ∧ s.2.1 a 9 = σ.2.1 a 9 + nI (ctn H L S k e)) := by
  have hho := ho_lt q.2.1
  have hg := mu_ge ha
  refine w_Mu_playTurn a _ _ q.1 ha ?_
  refine c_chg ha hW hS q hk he hne fun s1 C1 f1 => ⟨C1.1, ?_⟩
  refine WE_i (c_wrongOnes C1.1 ha hW C1.2.2.2) ?_
  have L1 := cL_m q.2.1 ha f1 hLw
  rw [C1.2.2.2.1, C1.2.2.2.2.2.2.2.2.2.2.1, show tu (trn S k e) = tu S + 1 from rfl, nI_subN (by omega), Nat.add_sub_cancel, q.2.2.2.2.2.2.2.2.2.2.2]
  refine WM_I (c_costOf (L := L) C1.1 (la_Ho q.2.1) L1) fun y s2 ⟨hy, l2, f2⟩ => ⟨l2, ?_⟩
  simp only [lt]
  have f3 : Fi (PPl a h) σ (jh_setI s2 a 9 (s1.2.1 a 9 + y)) := Fi_s (Fi_t (Fi_m f1 (fun b j z => by unfold PM at z; unfold PPl PMc; omega)) (Fi_m f2 (fun b j z => by unfold PPl; omega))) (by unfold PPl PMc; omega)
  have f4 : Fi (fun b j => b = h + 10 ∨ (b = a ∧ j = 9)) s1 (jh_setI s2 a 9 (s1.2.1 a 9 + y)) := Fi_s (Fi_m f2 (fun b j z => by omega)) (by omega)
  refine ⟨Cs_f C1 f4 (fun j _ => by omega) (fun b j _ _ => by omega) (fun b j _ _ => by omega), f3, cL_f f4 (by omega) (fun j => by omega) L1, ?_⟩
  rw [rI_eq, hy, f1.2.2 a 9 (by unfold PM; omega)]
  rfl
/-- a round of three -/
def rot (f : Nat → Nat) (k e i : Nat) : Nat → Nat := fun j => if j = k then f i else if j = e then f k else if j = i then f e else f j
def rmi (S : Mud) (k e i : Nat) : Mud := (rot (mi S) k e i, sa S, th S, me S, tu S, pa S)
def rnd (S : Mud) (k e i : Nat) : Mud := mtu (mjoin (mjoin (mjoin (rmi S k e i) k e) e i) k i)
def crn (H : Hou) (L : Option Lws) (S : Mud) (k e i : Nat) : Nat := cst L (wrs H (rnd S k e i)) (tu S) (pa S)
theorem Pn_rot {f : Nat → Nat} {n : Nat} (hp : Pn f n) (hk : k < n) (he : e < n) (hi : i < n) (h1 : k ≠ e) (h2 : e ≠ i) (h3 : k ≠ i) : Pn (rot f k e i) n := by
  have e1 : rot f k e i = swp (swp f e i) k e := by
    funext j
    unfold rot swp
    by_cases c1 : j = k
    · have : ¬ e = i := h2
      simp [c1]
    · by_cases c2 : j = e
      · have a1 : ¬ k = e := h1
        have a2 : ¬ k = i := h3
        simp [c1, c2, a1, a2, fun z : e = k => h1 z.symm]
      · simp [c1, c2]
  rw [e1]
  exact Pn_swp (Pn_swp hp he hi) hk he
theorem WS_rnd (hW : WH H) (hS : WS H S) (hk : k < Hn H) (he : e < Hn H) (hi : i < Hn H) (hm : mayR H S k e i = true) : WS H (rnd S k e i) := by
  unfold mayR at hm
  simp only [Bool.and_eq_true] at hm
  obtain ⟨⟨⟨⟨⟨m1, m2⟩, m3⟩, d1⟩, d2⟩, d3⟩ := hm
  obtain ⟨t1, t2, n1, -⟩ := may_th m1
  obtain ⟨-, t3, n2, -⟩ := may_th m2
  obtain ⟨-, -, n3, -⟩ := may_th m3
  have d1 := of_decide_eq_true d1
  have d2 := of_decide_eq_true d2
  have d3 := of_decide_eq_true d3
  have b1 := lim_lt hW k
  have b2 := lim_lt hW e
  have b3 := lim_lt hW i
  obtain ⟨s1, s2, s3, s4, s5⟩ := hS
  refine ⟨Pn_rot s1 hk he hi n1 n2 n3, fun j hj ht => ?_, fun x y => ?_, fun j hj => ?_, s5⟩
  · have ht : th S j = false := ht
    have c1 : j ≠ k := fun z => by rw [z, t1] at ht; cases ht
    have c2 : j ≠ e := fun z => by rw [z, t2] at ht; cases ht
    have c3 : j ≠ i := fun z => by rw [z, t3] at ht; cases ht
    show rot (mi S) k e i j = j
    unfold rot
    rw [if_neg c1, if_neg c2, if_neg c3]
    exact s2 j hj ht
  · show (if _ then true else if _ then true else if _ then true else me S x y) = (if _ then true else if _ then true else if _ then true else me S y x)
    have sy : ∀ a b, ((x = a ∧ y = b) ∨ (x = b ∧ y = a)) = ((y = a ∧ x = b) ∨ (y = b ∧ x = a)) := fun a b => propext (by omega)
    rw [s3 x y]
    simp only [sy]
  · have := s4 j hj
    show (if j = k ∨ j = i then (if j = e ∨ j = i then (if j = k ∨ j = e then sa S j + 1 else sa S j) + 1 else (if j = k ∨ j = e then sa S j + 1 else sa S j)) + 1 else (if j = e ∨ j = i then (if j = k ∨ j = e then sa S j + 1 else sa S j) + 1 else (if j = k ∨ j = e then sa S j + 1 else sa S j))) < 1000
    by_cases c1 : j = k
    · subst c1; split <;> split <;> split <;> omega
    · by_cases c2 : j = e
      · subst c2; split <;> split <;> split <;> omega
      · by_cases c3 : j = i
        · subst c3; split <;> split <;> split <;> omega
        · rw [if_neg (by omega), if_neg (by omega), if_neg (by omega)]; exact this
end C4

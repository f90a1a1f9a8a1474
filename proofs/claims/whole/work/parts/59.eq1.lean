/-! ===== what a turn can change: rings, those who are stuck, those who are wrong ===== -/
def wal (f : Nat → Nat) (i y : Nat) : Bool := (List.range i).any (fun b => rg f b y)
theorem wal_s (f : Nat → Nat) (i y : Nat) : wal f (i + 1) y = (wal f i y || rg f i y) := by
  unfold wal
  rw [List.range_succ, List.any_append]
  simp
theorem wal_d (f : Nat → Nat) (i y : Nat) : wal f i y = true ↔ ∃ b, b < i ∧ rg f b y = true := by
  unfold wal
  rw [List.any_eq_true]
  exact ⟨fun ⟨b, h1, h2⟩ => ⟨b, List.mem_range.mp h1, h2⟩, fun ⟨b, h1, h2⟩ => ⟨b, List.mem_range.mpr h1, h2⟩⟩
theorem rg_fix {f : Nat → Nat} {b y : Nat} (h : f b = b) (hr : rg f b y = true) : y = b := by
  obtain ⟨m, _, hm⟩ := (rg_d f b y).mp hr
  have : ∀ m, itr f m b = b := by
    intro m
    induction m with
    | zero => rfl
    | succ m ih => show itr f m (f b) = b; rw [h]; exact ih
  rw [← hm, this]
theorem nd_cyc {f : Nat → Nat} {n : Nat} (hp : Pn f n) (hn : n ≤ 8) (ct : Nat → Bool) : ndR f n ct n + cyc f n ct = cntB (fun k => !ct k) n := by
  have key : ∀ i, i ≤ n → ndR f n ct i + cntB (fun b => rep f n b && cfr f n ct b) i = cntB (fun y => wal f i y && !ct y) n := by
    intro i
    induction i with
    | zero => intro _; exact (cntB_zero (f := fun y => wal f 0 y && !ct y) (n := n) (fun k hk => rfl)).symm
    | succ i ih =>
      intro hi
      have ih := ih (by omega)
      have hin : i < n := by omega
      show ndR f n ct i + (if f i ≠ i ∧ wkd f i i = false then _ else 0) + (cntB (fun b => rep f n b && cfr f n ct b) i + if (rep f n i && cfr f n ct i) = true then 1 else 0) = _
      cases hw : wal f i i
      · -- a new ring
        have hdis : ∀ y, y < n → wal f i y = true → rg f i y = false := by
          intro y hy h1
          cases h2 : rg f i y
          · rfl
          · obtain ⟨b, b1, b2⟩ := (wal_d f i y).mp h1
            have h3 := rg_tr hp hn (by omega) b2 (rg_sy hp hn hin h2)
            rw [(wal_d f i i).mpr ⟨b, b1, h3⟩] at hw
            cases hw
        have hA : cntB (fun y => wal f (i + 1) y && !ct y) n = cntB (fun y => wal f i y && !ct y) n + cntB (fun y => rg f i y && !ct y) n := by
          rw [← cntB_or]
          · exact cntB_ext (fun k hk => by rw [wal_s]; cases wal f i k <;> cases rg f i k <;> cases ct k <;> rfl)
          · intro k hk q
            rw [Bool.and_eq_true] at q
            rw [hdis k hk q.1]; rfl
        have hrep : rep f n i = true := decide_eq_true (fun y hy hr => by
          refine Nat.not_lt.mp (fun q => ?_)
          rw [(wal_d f i i).mpr ⟨y, q, rg_sy hp hn hin hr⟩] at hw
          cases hw)
        have hsp := cntB_split (rg f i) ct n
        have hcf : cfr f n ct i = true ↔ cntB (fun y => rg f i y && ct y) n = 0 := by
          unfold cfr
          rw [decide_eq_true_iff]
          constructor
          · intro h
            exact cntB_zero (fun k hk => by
              cases hr : rg f i k
              · rfl
              · rw [h k hk hr]; rfl)
          · intro h y hy hr
            cases hc : ct y
            · rfl
            · have := cntB_has (f := fun y => rg f i y && ct y) hy (by rw [hr, hc]; rfl)
              omega
        have hwk : f i ≠ i → wkd f i i = false := by
          intro hf
          cases h : wkd f i i
          · rfl
          · unfold wkd at h
            rw [List.any_eq_true] at h
            obtain ⟨b, b1, b2⟩ := h
            rw [Bool.and_eq_true] at b2
            rw [(wal_d f i i).mpr ⟨b, List.mem_range.mp b1, b2.2⟩] at hw
            cases hw
        have hpos := ring_pos (f := f) hin
        rw [hrep, Bool.true_and, hA, ← ih]
        by_cases hf : f i = i
        · rw [if_neg (fun q => q.1 hf)]
          have e1 : cntB (rg f i) n = 1 := by
            have : cntB (rg f i) n = cntB (fun k => decide (k = i) && true) n := cntB_ext (fun k hk => by
              rw [Bool.eq_iff_iff]
              simp only [Bool.and_true, decide_eq_true_iff]
              exact ⟨fun q => rg_fix hf q, fun q => by rw [q]; exact rg_refl i⟩)
            rw [this, cntB_one true hin]; rfl
          by_cases hc : cfr f n ct i = true
          · rw [if_pos hc]
            have := hcf.mp hc
            omega
          · rw [if_neg hc]
            have : ¬ cntB (fun y => rg f i y && ct y) n = 0 := fun q => hc (hcf.mpr q)
            omega
        · rw [if_pos ⟨hf, hwk hf⟩]
          by_cases hc : cfr f n ct i = true
          · rw [if_pos hc]
            have := hcf.mp hc
            omega
          · rw [if_neg hc]
            have : ¬ cntB (fun y => rg f i y && ct y) n = 0 := fun q => hc (hcf.mpr q)
            omega
      · -- walked already
        obtain ⟨b, b1, b2⟩ := (wal_d f i i).mp hw
        have hA : cntB (fun y => wal f (i + 1) y && !ct y) n = cntB (fun y => wal f i y && !ct y) n := by
          refine cntB_ext (fun k hk => ?_)
          rw [wal_s]
          cases hr : rg f i k
          · rw [Bool.or_false]
          · rw [(wal_d f i k).mpr ⟨b, b1, rg_tr hp hn (by omega) b2 hr⟩]; rfl
        have hrep : rep f n i = false := decide_eq_false (fun q => by
          have := q b (by omega) (rg_sy hp hn (by omega) b2)
          omega)
        rw [hrep, Bool.false_and, hA, ← ih, if_neg]
        · rw [if_neg (by decide)]
          omega
        · rintro ⟨h1, h2⟩
          have hb : f b ≠ b := fun q => by have := rg_fix q b2; omega
          have : wkd f i i = true := by
            unfold wkd
            rw [List.any_eq_true]
            exact ⟨b, List.mem_range.mpr b1, by rw [b2]; simp [hb]⟩
          rw [this] at h2
          cases h2
  have h := key n (Nat.le_refl _)
  rw [show cyc f n ct = cntB (fun b => rep f n b && cfr f n ct b) n from rfl, h]
  exact cntB_ext (fun k hk => by rw [(wal_d f n k).mpr ⟨k, hk, rg_refl k⟩]; rfl)
section EQ
variable {H : Hou} {L : Option Lws} {S : Mud} {k e p d : Nat}
theorem ned_cyc (hW : WH H) (hS : WS H S) : ned H S + cyc (mi S) (Hn H) (ctb H) = cntB (fun k => !ctb H k) (Hn H) := nd_cyc hS.1 hW.1 (ctb H)
theorem ned_trn (hW : WH H) (hS : WS H S) (hp : p ∈ opl H S) : ned H S ≤ ned H (trnC S p) + 1 ∧ (rg (mi S) (p / 8) (p % 8) = false → ned H S ≤ ned H (trnC S p)) ∧ (nocat H = true → (ned H (trnC S p) + ned H S) % 2 = 1) := by
  obtain ⟨p1, p2, p3, p4, p5⟩ := opl_mem hW.1 hp
  have h1 := ned_cyc hW hS
  have h2 := ned_cyc hW (WS_trnC hW hS hp)
  have h3 := cyc_swp hS.1 hW.1 (ctb H) p2 p3 (show p / 8 ≠ p % 8 by omega)
  have e : cyc (mi (trnC S p)) (Hn H) (ctb H) = cyc (swp (mi S) (p / 8) (p % 8)) (Hn H) (ctb H) := rfl
  rw [e] at h2
  refine ⟨by omega, fun q => by have := h3.2.1 q; omega, fun q => ?_⟩
  rcases h3.2.2 (of_decide_eq_true q) with z | z <;> omega
theorem ned_wrs (hW : WH H) (hS : WS H S) : ned H S ≤ wrs H S ∧ (nocat H = true → 0 < ned H S → ned H S + 1 ≤ wrs H S) := by
  have n8 := hW.1
  have h1 := ned_cyc hW hS
  -- those at home, cats aside
  have h2 : cntB (fun k => !ctb H k && decide (mi S k = k)) (Hn H) + wrs H S = cntB (fun k => !ctb H k) (Hn H) := by
    rw [cntB_split (fun k => !ctb H k) (fun k => decide (mi S k = k))]
    refine congrArg (_ + ·) (cntB_ext (fun k hk => ?_))
    unfold ast ctb
    rw [Bool.and_comm]
  have hfix : ∀ k, k < Hn H → (!ctb H k && decide (mi S k = k)) = true → (rep (mi S) (Hn H) k && cfr (mi S) (Hn H) (ctb H) k) = true := by
    intro k hk q
    rw [Bool.and_eq_true, decide_eq_true_iff] at q
    rw [Bool.and_eq_true]
    refine ⟨decide_eq_true (fun y hy hr => by rw [rg_fix q.2 hr]; exact Nat.le_refl _), decide_eq_true (fun y hy hr => ?_)⟩
    rw [rg_fix q.2 hr]
    simpa using q.1
  have h3 : cntB (fun k => !ctb H k && decide (mi S k = k)) (Hn H) ≤ cyc (mi S) (Hn H) (ctb H) := cntB_mono hfix
  refine ⟨by omega, fun hc hpos => ?_⟩
  have hc := of_decide_eq_true hc
  have hw : 0 < wrs H S := by omega
  obtain ⟨k, hk, hak⟩ := cntB_pos hw
  have hmk : mi S k ≠ k := by
    unfold ast at hak
    rw [Bool.and_eq_true] at hak
    simpa using hak.1
  obtain ⟨b, b1, b2, b3⟩ := rep_ex hS.1 n8 hk
  have hmb : mi S b ≠ b := fun q => by
    have := rg_fix q (rg_sy hS.1 n8 hk b2)
    rw [this] at hmk
    exact hmk q
  have h4 : cntB (fun k => !ctb H k && decide (mi S k = k)) (Hn H) < cyc (mi S) (Hn H) (ctb H) := cntB_lt hfix b1 (by simp [hmb]) (by rw [b3, Bool.true_and]; exact decide_eq_true (fun y hy _ => hc y hy))
  omega
/-! those who are wrong -/
theorem wrs_trn (hW : WH H) (hS : WS H S) (hp : p ∈ opl H S) : wrs H S ≤ wrs H (trnC S p) + 2 ∧ wrs H (trnC S p) ≤ wrs H S + 2 := by
  obtain ⟨p1, p2, p3, p4, p5⟩ := opl_mem hW.1 hp
  have key : ∀ f g : Nat → Bool, (∀ j, j < Hn H → j ≠ p / 8 → j ≠ p % 8 → f j = g j) → cntB f (Hn H) ≤ cntB g (Hn H) + 2 := by
    intro f g h
    have h1 := cntB_split f (fun j => decide (j = p / 8) || decide (j = p % 8)) (Hn H)
    have h2 := cntB_split g (fun j => decide (j = p / 8) || decide (j = p % 8)) (Hn H)
    have h3 : cntB (fun k => f k && !(decide (k = p / 8) || decide (k = p % 8))) (Hn H) = cntB (fun k => g k && !(decide (k = p / 8) || decide (k = p % 8))) (Hn H) := cntB_ext (fun k hk => by
      by_cases c1 : k = p / 8
      · simp [c1]
      · by_cases c2 : k = p % 8
        · simp [c2]
        · rw [h k hk c1 c2])
    have h4 : cntB (fun k => f k && (decide (k = p / 8) || decide (k = p % 8))) (Hn H) ≤ cntB (fun k => (decide (k = p / 8) && true) || (decide (k = p % 8) && true)) (Hn H) := cntB_mono (fun k hk q => by rw [Bool.and_eq_true] at q; simpa using q.2)
    rw [cntB_or (fun k hk q => by simp at q; simp; omega), cntB_one true p2, cntB_one true p3] at h4
    simp at h4
    omega
  have ha : ∀ j, j < Hn H → j ≠ p / 8 → j ≠ p % 8 → ast H (trnC S p) j = ast H S j := fun j hj c1 c2 => ast_trn c1 c2
  exact ⟨key _ _ (fun j hj c1 c2 => (ha j hj c1 c2).symm), key _ _ ha⟩
theorem wrs_cbw (hS : WS H S) : wrs H S ≤ cbw H S := by
  refine cntB_mono (fun k hk q => ?_)
  unfold ast at q
  rw [Bool.and_eq_true] at q
  rw [Bool.and_eq_true]
  refine ⟨?_, q.2⟩
  cases ht : th S k
  · have := hS.2.1 k hk ht
    simp [this] at q
  · rfl
theorem cbw_trn : cbw H (trnC S p) = cbw H S := rfl
/-! those who are stuck -/
theorem opn_le {q : Nat} (hm : opn H (trnC S p) q = true) : opn H S q = true := by
  unfold opn at hm ⊢
  rw [Bool.and_eq_true, decide_eq_true_iff] at hm ⊢
  refine ⟨hm.1, ?_⟩
  have h1 := hm.2
  have e : sa (trnC S p) q = if q = p / 8 ∨ q = p % 8 then sa S q + 1 else sa S q := rfl
  rw [e] at h1
  split at h1 <;> omega
theorem may_le {b c : Nat} (hm : mayT H (trnC S p) b c = true) : mayT H S b c = true := by
  unfold mayT at hm ⊢
  simp only [Bool.and_eq_true] at hm ⊢
  obtain ⟨⟨⟨⟨h1, h2⟩, h3⟩, h4⟩, h5⟩ := hm
  refine ⟨⟨⟨⟨opn_le h1, opn_le h2⟩, h3⟩, ?_⟩, h5⟩
  have e : me (trnC S p) b c = if (b = p / 8 ∧ c = p % 8) ∨ (b = p % 8 ∧ c = p / 8) then true else me S b c := rfl
  rw [e] at h4
  split at h4
  · cases h4
  · exact h4
theorem may_sy (hW : WH H) (hS : WS H S) {b c : Nat} : mayT H S b c = mayT H S c b := by
  unfold mayT
  rw [hS.2.2.1 b c, hW.2.2.2.2.2.2.2.1 b c, Bool.and_comm (opn H S b), show decide (b = c) = decide (c = b) from decide_eq_decide.mpr eq_comm]
theorem stk_d (y : Nat) : stk H S y = true ↔ (∃ b, b < Hn H ∧ alone H S b = true ∧ (y = b ∨ y = mi S b)) ∧ ast H S y = true := by
  unfold stk
  rw [Bool.and_eq_true, List.any_eq_true]
  refine and_congr_left (fun _ => ?_)
  constructor
  · rintro ⟨b, h1, h2⟩
    rw [Bool.and_eq_true, Bool.or_eq_true, decide_eq_true_iff, decide_eq_true_iff] at h2
    exact ⟨b, List.mem_range.mp h1, h2⟩
  · rintro ⟨b, h1, h2, h3⟩
    exact ⟨b, List.mem_range.mpr h1, by rw [Bool.and_eq_true, Bool.or_eq_true, decide_eq_true_iff, decide_eq_true_iff]; exact ⟨h2, h3⟩⟩
theorem stk_trn (hW : WH H) (hS : WS H S) (hp : p ∈ opl H S) {y : Nat} (hy : y < Hn H) (h : stk H S y = true) : stk H (trnC S p) y = true := by
  obtain ⟨p1, p2, p3, p4, p5⟩ := opl_mem hW.1 hp
  obtain ⟨⟨b, b1, b2, b3⟩, h2⟩ := (stk_d y).mp h
  unfold alone at b2
  rw [Bool.and_eq_true] at b2
  have hmb : mi S b ≠ b := by simpa using b2.1
  have hno := of_decide_eq_true b2.2
  have c1 : b ≠ p / 8 := fun q => by
    have := hno (p % 8) p3
    rw [q, p5] at this; cases this
  have c2 : b ≠ p % 8 := fun q => by
    have := hno (p / 8) p2
    rw [q, may_sy hW hS, p5] at this; cases this
  have emb : mi (trnC S p) b = mi S b := swp_o c1 c2
  have hP := (WS_trnC hW hS hp).1
  have al : alone H (trnC S p) b = true := by
    unfold alone
    rw [emb, decide_eq_true (fun e he => by
      cases hm : mayT H (trnC S p) b e
      · rfl
      · have := hno e he
        rw [may_le hm] at this; cases this)]
    simp [hmb]
  refine (stk_d y).mpr ⟨⟨b, b1, al, by rw [emb]; exact b3⟩, ?_⟩
  have hcat : ¬ Hk H y = 3 := by
    unfold ast at h2
    rw [Bool.and_eq_true] at h2
    simpa using h2.2
  have hmy : mi (trnC S p) y ≠ y := by
    rcases b3 with q | q
    · rw [q, emb]; exact hmb
    · intro z
      have h3 : mi (trnC S p) b = mi (trnC S p) y := by rw [z, emb, q]
      have h4 := hP.2 b b1 y hy h3
      rw [q] at h4
      exact hmb h4.symm
  unfold ast
  simp [hmy, hcat]
theorem stk_wrs : cntB (stk H S) (Hn H) ≤ wrs H S := cntB_mono (fun k hk q => ((stk_d k).mp q).2)
theorem stk_cnt (hW : WH H) (hS : WS H S) (hp : p ∈ opl H S) : cntB (stk H S) (Hn H) ≤ cntB (stk H (trnC S p)) (Hn H) := cntB_mono (fun k hk q => stk_trn hW hS hp hk q)
theorem any_trn (hW : WH H) (hS : WS H S) (hp : p ∈ opl H S) (h : anyst H S = true) : anyst H (trnC S p) = true := by
  obtain ⟨k, hk, q⟩ := of_decide_eq_true h
  exact decide_eq_true ⟨k, hk, stk_trn hW hS hp hk q⟩
theorem any_wrs (h : anyst H S = true) : 0 < wrs H S := by
  obtain ⟨k, hk, q⟩ := of_decide_eq_true h
  exact cntB_has hk ((stk_d k).mp q).2
end EQ

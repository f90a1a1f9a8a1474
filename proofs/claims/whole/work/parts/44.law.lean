/-! ===== the law of costs: a row of steps ===== -/
abbrev Lws : Type := List (Nat × Int32)
def both (c : Nat) (x y : Int32) : Int32 := if c = 4 then x + y else if c = 5 then x - y else if c = 6 then x * y else if c = 7 then (if y ≤ x then nI 0 else nI 1) else if c = 8 then (if x = y then nI 1 else nI 0) else if c = 9 then (if x = 0 then nI 0 else if y = 0 then nI 0 else nI 1) else (if x = 0 then (if y = 0 then nI 0 else nI 1) else nI 1)
def stp (fc : Nat → Int32) (q : Nat × Int32) (t : Nat) (f : Nat → Int32) : Nat → Int32 :=
  if q.1 = 1 then up1 f t q.2 else if q.1 = 2 then up1 f t (fc (cl q.2)) else if q.1 = 3 then up1 f (t - 1) (if f (t - 1) = 0 then nI 1 else nI 0) else up1 f (t - 2) (both q.1 (f (t - 2)) (f (t - 1)))
def dpt (q : Nat × Int32) (t : Nat) : Nat := if q.1 ≤ 2 then t + 1 else if q.1 = 3 then t else t - 1
def okq (q : Nat × Int32) (t : Nat) : Prop := (q.1 = 1 ∧ t < 32 ∧ ∃ v, v < 10000 ∧ q.2 = nI v) ∨ (q.1 = 2 ∧ t < 32 ∧ ∃ v, v < 3 ∧ q.2 = nI v) ∨ (q.1 = 3 ∧ 1 ≤ t) ∨ (4 ≤ q.1 ∧ q.1 ≤ 10 ∧ 2 ≤ t)
def okT : Lws → Nat → Nat → Prop
  | [], t, t' => t = t'
  | q :: L, t, t' => okq q t ∧ okT L (dpt q t) t'
def run (fc : Nat → Int32) : Lws → Nat → (Nat → Int32) → Nat → Int32
  | [], _, f => f
  | q :: L, t, f => run fc L (dpt q t) (stp fc q t f)
def val (fc : Nat → Int32) (L : Lws) : Int32 := run fc L 0 (fun _ => 0) 0
theorem okT_app {L M : Lws} {t t' t'' : Nat} (h1 : okT L t t') (h2 : okT M t' t'') : okT (L ++ M) t t'' := by
  induction L generalizing t with
  | nil => cases h1; exact h2
  | cons q L ih => exact ⟨h1.1, ih h1.2⟩
theorem stp_1 {fc : Nat → Int32} {q : Nat × Int32} {t : Nat} {f : Nat → Int32} (h : q.1 = 1) : stp fc q t f = up1 f t q.2 := by unfold stp; rw [if_pos h]
theorem stp_2 {fc : Nat → Int32} {q : Nat × Int32} {t : Nat} {f : Nat → Int32} (h : q.1 = 2) : stp fc q t f = up1 f t (fc (cl q.2)) := by unfold stp; rw [if_neg (by omega), if_pos h]
theorem stp_3 {fc : Nat → Int32} {q : Nat × Int32} {t : Nat} {f : Nat → Int32} (h : q.1 = 3) : stp fc q t f = up1 f (t - 1) (if f (t - 1) = 0 then nI 1 else nI 0) := by unfold stp; rw [if_neg (by omega), if_neg (by omega), if_pos h]
theorem stp_4 {fc : Nat → Int32} {q : Nat × Int32} {t : Nat} {f : Nat → Int32} (h : 4 ≤ q.1) : stp fc q t f = up1 f (t - 2) (both q.1 (f (t - 2)) (f (t - 1))) := by unfold stp; rw [if_neg (by omega), if_neg (by omega), if_neg (by omega)]
theorem stp_ag {fc : Nat → Int32} {q : Nat × Int32} {t : Nat} {f g : Nat → Int32} (h : okq q t) (hf : ∀ i, i < t → f i = g i) : ∀ i, i < dpt q t → stp fc q t f i = stp fc q t g i := by
  intro i hi
  unfold dpt at hi
  rcases h with ⟨h1, h2, -⟩ | ⟨h1, h2, -⟩ | ⟨h1, h2⟩ | ⟨h1, h2, h3⟩
  · rw [if_pos (by omega)] at hi
    rw [stp_1 h1, stp_1 h1]
    unfold up1
    by_cases c : i = t
    · rw [if_pos c, if_pos c]
    · rw [if_neg c, if_neg c]; exact hf i (by omega)
  · rw [if_pos (by omega)] at hi
    rw [stp_2 h1, stp_2 h1]
    unfold up1
    by_cases c : i = t
    · rw [if_pos c, if_pos c]
    · rw [if_neg c, if_neg c]; exact hf i (by omega)
  · rw [if_neg (by omega), if_pos h1] at hi
    rw [stp_3 h1, stp_3 h1, hf (t - 1) (by omega)]
    unfold up1
    by_cases c : i = t - 1
    · rw [if_pos c, if_pos c]
    · rw [if_neg c, if_neg c]; exact hf i (by omega)
  · rw [if_neg (by omega), if_neg (by omega)] at hi
    rw [stp_4 h1, stp_4 h1, hf (t - 1) (by omega), hf (t - 2) (by omega)]
    unfold up1
    by_cases c : i = t - 2
    · rw [if_pos c, if_pos c]
    · rw [if_neg c, if_neg c]; exact hf i (by omega)
theorem run_ag {fc : Nat → Int32} {L : Lws} : ∀ {t t' : Nat} {f g : Nat → Int32}, okT L t t' → (∀ i, i < t → f i = g i) → ∀ i, i < t' → run fc L t f i = run fc L t g i := by
  induction L with
  | nil => intro t t' f g h hf; cases h; exact hf
  | cons q L ih => intro t t' f g h hf; exact ih h.2 (stp_ag h.1 hf)
theorem run_val {fc : Nat → Int32} {L : Lws} {f : Nat → Int32} (h : okT L 0 1) : run fc L 0 f 0 = val fc L := run_ag h (fun i hi => absurd hi (Nat.not_lt_zero _)) 0 (by omega)
/-- a step as the class has it -/
def enc (q : Nat × Int32) : Int32 := if q.1 = 1 then q.2 else if q.1 = 2 then (if q.2 = nI 0 then mI 1 else if q.2 = nI 1 then mI 2 else mI 3) else if q.1 = 3 then mI 4 else if q.1 = 4 then mI 9 else if q.1 = 5 then mI 10 else if q.1 = 6 then mI 11 else if q.1 = 7 then mI 7 else if q.1 = 8 then mI 8 else if q.1 = 9 then mI 5 else mI 6
def cL (L : Lws) (la : Nat) (σ : JH) : Prop := L.length ≤ 1000 ∧ okT L 0 1 ∧ σ.2.1 la 2 = nI L.length ∧ ∀ i q, L[i]? = some q → σ.2.1 (la + 1) i = enc q
def fct (w t m : Int32) : Nat → Int32 := fun i => if i = 0 then w else if i = 1 then t else m
theorem la_lt {h : Nat} (q : IsLa h) : 77 ≤ h ∧ h < 89 := by rcases q with rfl | rfl <;> omega
theorem drop_cons {α : Type} {L : List α} {i : Nat} {q : α} {R : List α} (h : L.drop i = q :: R) : L[i]? = some q ∧ L.drop (i + 1) = R ∧ i < L.length := by
  have h1 : (L.drop i)[0]? = some q := by rw [h]; rfl
  rw [List.getElem?_drop, Nat.add_zero] at h1
  refine ⟨h1, ?_, (List.getElem?_eq_some_iff.mp h1).1⟩
  have h2 : (L.drop i).drop 1 = R := by rw [h]; rfl
  rwa [List.drop_drop] at h2
theorem drop_nil {α : Type} {L : List α} {i : Nat} (h : L.drop i = []) : L.length ≤ i := List.drop_eq_nil_iff.mp h
theorem c_joined {c : Nat} {x y : Int32} {σ : JH} (hl : Ly σ) (h1 : 4 ≤ c) (h2 : c ≤ 10) (v : Int32) : q_La_joined [.int (enc (c, v)), .int x, .int y] σ = some (some (.int (both c x y)), σ) := by
  refine WE_o (w_La_joined _ _ _ hl ?_)
  rcases (show c = 4 ∨ c = 5 ∨ c = 6 ∨ c = 7 ∨ c = 8 ∨ c = 9 ∨ c = 10 by omega) with rfl | rfl | rfl | rfl | rfl | rfl | rfl
  · rw [show enc (4, v) = mI 9 from rfl]
    rw [if_neg (by decide), if_pos rfl]; rfl
  · rw [show enc (5, v) = mI 10 from rfl]
    rw [if_pos rfl]; rfl
  · rw [show enc (6, v) = mI 11 from rfl]
    rw [if_neg (by decide), if_neg (by decide), if_neg (by decide), if_neg (by decide), if_neg (by decide), if_neg (by decide)]; rfl
  · rw [show enc (7, v) = mI 7 from rfl]
    rw [if_neg (by decide), if_neg (by decide), if_neg (by decide), if_pos rfl]
    show if y ≤ x then nI 0 = (if y ≤ x then nI 0 else nI 1) else nI 1 = (if y ≤ x then nI 0 else nI 1)
    by_cases c : y ≤ x
    · rw [if_pos c, if_pos c]
    · rw [if_neg c, if_neg c]
  · rw [show enc (8, v) = mI 8 from rfl]
    rw [if_neg (by decide), if_neg (by decide), if_pos rfl]
    show if x = y then nI 1 = (if x = y then nI 1 else nI 0) else nI 0 = (if x = y then nI 1 else nI 0)
    by_cases c : x = y
    · rw [if_pos c, if_pos c]
    · rw [if_neg c, if_neg c]
  · rw [show enc (9, v) = mI 5 from rfl]
    rw [if_neg (by decide), if_neg (by decide), if_neg (by decide), if_neg (by decide), if_neg (by decide), if_pos rfl]
    show if x = 0 then nI 0 = (if x = 0 then nI 0 else if y = 0 then nI 0 else nI 1) else (if y = 0 then nI 0 = (if x = 0 then nI 0 else if y = 0 then nI 0 else nI 1) else nI 1 = (if x = 0 then nI 0 else if y = 0 then nI 0 else nI 1))
    by_cases c : x = 0
    · rw [if_pos c, if_pos c]
    · rw [if_neg c, if_neg c]
      by_cases d : y = 0
      · rw [if_pos d, if_pos d]
      · rw [if_neg d, if_neg d]
  · rw [show enc (10, v) = mI 6 from rfl]
    rw [if_neg (by decide), if_neg (by decide), if_neg (by decide), if_neg (by decide), if_pos rfl]
    show if x = 0 then (if y = 0 then nI 0 = (if x = 0 then (if y = 0 then nI 0 else nI 1) else nI 1) else nI 1 = (if x = 0 then (if y = 0 then nI 0 else nI 1) else nI 1)) else nI 1 = (if x = 0 then (if y = 0 then nI 0 else nI 1) else nI 1)
    by_cases c : x = 0
    · rw [if_pos c, if_pos c]
      by_cases d : y = 0
      · rw [if_pos d, if_pos d]
      · rw [if_neg d, if_neg d]
    · rw [if_neg c, if_neg c]
theorem enc_1 {v : Nat} (hv : v < 10000) : ¬ (nI v < mI 3) ∧ nI v ≠ mI 3 ∧ nI v ≠ mI 2 ∧ nI v ≠ mI 1 := by
  have h0 : (0 : Int32) ≤ nI v := by rw [nI_0le (by omega)]; trivial
  refine ⟨fun q => ?_, fun q => ?_, fun q => ?_, fun q => ?_⟩
  · exact absurd (Int32.lt_of_le_of_lt h0 q) (by decide)
  · rw [q] at h0; exact absurd h0 (by decide)
  · rw [q] at h0; exact absurd h0 (by decide)
  · rw [q] at h0; exact absurd h0 (by decide)
theorem c_plain {q : Nat × Int32} {t : Nat} {w u m : Int32} {σ : JH} (hl : Ly σ) (h : okq q t) (h2 : q.1 ≤ 2) : ¬ (enc q < mI 3) ∧ t < 32 ∧ q_La_plainValue [.int (enc q), .int w, .int u, .int m] σ = some (some (.int (stp (fct w u m) q t (fun _ => 0) t)), σ) := by
  rcases h with ⟨h1, ht, v, hv, hq⟩ | ⟨h1, ht, v, hv, hq⟩ | ⟨h1, _⟩ | ⟨h1, _⟩
  · have e : enc q = nI v := by unfold enc; rw [if_pos h1, hq]
    have b := enc_1 hv
    rw [e]
    refine ⟨b.1, ht, WE_o (w_La_plainValue _ _ _ _ hl ?_)⟩
    rw [if_neg b.2.1, if_neg b.2.2.1, if_neg b.2.2.2]
    rw [stp_1 h1, up1_eq, hq]
  · have e : enc q = if q.2 = nI 0 then mI 1 else if q.2 = nI 1 then mI 2 else mI 3 := by unfold enc; rw [if_neg (by omega), if_pos h1]
    have e2 : stp (fct w u m) q t (fun _ => 0) t = fct w u m (cl q.2) := by rw [stp_2 h1, up1_eq]
    rw [e, e2, hq]
    rcases (show v = 0 ∨ v = 1 ∨ v = 2 by omega) with rfl | rfl | rfl
    · rw [if_pos rfl]
      refine ⟨by decide, ht, WE_o (w_La_plainValue _ _ _ _ hl ?_)⟩
      rw [if_neg (by decide), if_neg (by decide), if_pos rfl]; rfl
    · rw [if_neg (by decide), if_pos rfl]
      refine ⟨by decide, ht, WE_o (w_La_plainValue _ _ _ _ hl ?_)⟩
      rw [if_neg (by decide), if_pos rfl]; rfl
    · rw [if_neg (by decide), if_neg (by decide)]
      refine ⟨by decide, ht, WE_o (w_La_plainValue _ _ _ _ hl ?_)⟩
      rw [if_pos rfl]; rfl
  · omega
  · omega
theorem stp_ne {fc : Nat → Int32} {q : Nat × Int32} {t j : Nat} {f : Nat → Int32} : stp fc q t f j = if j = (if q.1 ≤ 2 ∧ q.1 ≠ 0 then t else if q.1 = 3 then t - 1 else t - 2) then stp fc q t f j else f j := by
  by_cases c : j = (if q.1 ≤ 2 ∧ q.1 ≠ 0 then t else if q.1 = 3 then t - 1 else t - 2)
  · rw [if_pos c]
  · rw [if_neg c]
    by_cases h1 : q.1 = 1
    · rw [if_pos (by omega)] at c
      rw [stp_1 h1, up1_ne c]
    · by_cases h2 : q.1 = 2
      · rw [if_pos (by omega)] at c
        rw [stp_2 h2, up1_ne c]
      · rw [if_neg (by omega)] at c
        by_cases h3 : q.1 = 3
        · rw [if_pos h3] at c
          rw [stp_3 h3, up1_ne c]
        · rw [if_neg h3] at c
          rw [show stp fc q t f = up1 f (t - 2) (both q.1 (f (t - 2)) (f (t - 1))) by unfold stp; rw [if_neg h1, if_neg h2, if_neg h3], up1_ne c]
theorem enc_4 {q : Nat × Int32} (h1 : 4 ≤ q.1) (h2 : q.1 ≤ 10) : enc q < mI 3 ∧ ¬ enc q = mI 4 := by
  obtain ⟨c, v⟩ := q
  have h1 : 4 ≤ c := h1
  have h2 : c ≤ 10 := h2
  rcases (show c = 4 ∨ c = 5 ∨ c = 6 ∨ c = 7 ∨ c = 8 ∨ c = 9 ∨ c = 10 by omega) with rfl | rfl | rfl | rfl | rfl | rfl | rfl
  · show mI 9 < mI 3 ∧ ¬ mI 9 = mI 4; decide
  · show mI 10 < mI 3 ∧ ¬ mI 10 = mI 4; decide
  · show mI 11 < mI 3 ∧ ¬ mI 11 = mI 4; decide
  · show mI 7 < mI 3 ∧ ¬ mI 7 = mI 4; decide
  · show mI 8 < mI 3 ∧ ¬ mI 8 = mI 4; decide
  · show mI 5 < mI 3 ∧ ¬ mI 5 = mI 4; decide
  · show mI 6 < mI 3 ∧ ¬ mI 6 = mI 4; decide
set_option maxHeartbeats 2000000 in
theorem c_value {L : Lws} {la : Nat} {σ : JH} {w u m : Int32} (hl : Ly σ) (ha : IsLa la) (hL : cL L la σ) : WM q_La_value [.ref la, .int w, .int u, .int m] σ (kI fun x s => x = val (fct w u m) L ∧ Ly s ∧ Fi (fun b _ => b = la + 2) σ s) := by
  obtain ⟨h1, h2, h3, h4⟩ := hL
  refine w_La_value la w u m hl ha ?_
  refine Lp4_inv (I := fun k v1 v2 _ s => ∃ i t f R, k = R.length ∧ L.drop i = R ∧ i ≤ L.length ∧ v2 = nI i ∧ v1 = nI t ∧ t ≤ 32 ∧ okT R t 1 ∧ run (fct w u m) R t f 0 = val (fct w u m) L ∧ (∀ j, j < 32 → s.2.1 (la + 2) j = f j) ∧ Fi (fun b _ => b = la + 2) σ s) ?_ (m := L.length) ⟨0, 0, fun j => σ.2.1 (la + 2) j, L, rfl, rfl, by omega, rfl, rfl, by omega, h2, run_val h2, fun j _ => rfl, Fi_r _ _⟩
  rintro k v1 v2 o s ⟨i, t, f, R, hk, hR, hi, rfl, rfl, ht, hok, hv, hs, hf⟩ X hX
  have hls := Fi_ly hf hl
  refine ⟨hls, ?_⟩
  have e2 : s.2.1 la 2 = nI L.length := (hf.2.2 la 2 (by omega)).trans h3
  rw [e2]
  simp (disch := omega) only [nI_leN, nI_ltN, inb_nI, cl_nI]
  cases R with
  | nil =>
    rw [if_pos (drop_nil hR)]
    refine ⟨?_, hls, hf⟩
    rw [hs 0 (by omega)]
    exact hv
  | cons q R =>
    obtain ⟨d1, d2, d3⟩ := drop_cons hR
    obtain ⟨hq, hok⟩ := hok
    rw [if_neg (by omega)]
    have e3 : s.2.1 (la + 1) i = enc q := (hf.2.2 (la + 1) i (by omega)).trans (h4 i q d1)
    rw [e3]
    have hlen : R.length < k := by rw [hk, List.length_cons]; omega
    refine ⟨by omega, ?_⟩
    -- the next turn of the loop
    have nxt : ∀ (j : Nat) (x : Int32) (o : Option Value) (v1 : Int32), j < 32 → x = stp (fct w u m) q t f j → (∀ i, i < 32 → i ≠ j → stp (fct w u m) q t f i = f i) → v1 = nI (dpt q t) → dpt q t ≤ 32 → X v1 (nI i + nI 1) o (jh_setI s (la + 2) j x) := by
      intro j x o v1 hj hx hne hv1 hd
      refine hX R.length _ _ _ _ hlen ⟨i + 1, dpt q t, stp (fct w u m) q t f, R, rfl, d2, by omega, nI_add i 1, hv1, hd, hok, hv, fun a b => ?_, Fi_s hf rfl⟩
      rw [rI]
      by_cases c : a = j
      · rw [if_pos ⟨rfl, c⟩, c]; exact hx
      · rw [if_neg (fun z => c z.2), hne a b c]; exact hs a b
    by_cases hq2 : q.1 ≤ 2
    · have hp := c_plain (w := w) (u := u) (m := m) hls hq hq2
      rw [if_neg hp.1, if_neg (by omega)]
      refine WE_i hp.2.2 ?_
      refine ⟨by omega, ?_⟩
      have hq0 : q.1 ≠ 0 := by rcases hq with h | h | h | h <;> omega
      have hd : dpt q t = t + 1 := by unfold dpt; rw [if_pos hq2]
      refine nxt t _ _ _ (by omega) ?_ (fun a b c => ?_) (by rw [hd, nI_add]) (by omega)
      · rcases (show q.1 = 1 ∨ q.1 = 2 by omega) with h | h
        · rw [stp_1 h, stp_1 h, up1_eq, up1_eq]
        · rw [stp_2 h, stp_2 h, up1_eq, up1_eq]
      · rw [stp_ne, if_neg (by rw [if_pos ⟨hq2, hq0⟩]; exact c)]
    · have hlt : enc q < mI 3 := by
        rcases hq with h | h | h | h
        · omega
        · omega
        · unfold enc; rw [if_neg (by omega), if_neg (by omega), if_pos h.1]; decide
        · exact (enc_4 h.1 h.2.1).1
      rw [if_pos hlt]
      by_cases hq3 : q.1 = 3
      · have ht1 : 1 ≤ t := by rcases hq with h | h | h | h <;> omega
        have e4 : enc q = mI 4 := by unfold enc; rw [if_neg (by omega), if_neg (by omega), if_pos hq3]
        rw [if_pos e4, if_neg (by omega)]
        simp (disch := omega) only [nI_subN, inb_nI, cl_nI]
        refine ⟨by omega, ?_⟩
        have hd : dpt q t = t := by unfold dpt; rw [if_neg hq2, if_pos hq3]
        have ev : stp (fct w u m) q t f (t - 1) = if f (t - 1) = 0 then nI 1 else nI 0 := by rw [stp_3 hq3, up1_eq]
        have hne : ∀ a, a < 32 → a ≠ t - 1 → stp (fct w u m) q t f a = f a := fun a b c => by rw [stp_ne, if_neg (by rw [if_neg (by omega), if_pos hq3]; exact c)]
        rw [hs (t - 1) (by omega)]
        by_cases c : f (t - 1) = 0
        · rw [if_pos c]
          rw [if_pos c] at ev
          exact ⟨by omega, nxt (t - 1) _ _ _ (by omega) ev.symm hne (by rw [hd]) (by omega)⟩
        · rw [if_neg c]
          rw [if_neg c] at ev
          exact ⟨by omega, nxt (t - 1) _ _ _ (by omega) ev.symm hne (by rw [hd]) (by omega)⟩
      · have h4q : 4 ≤ q.1 ∧ q.1 ≤ 10 ∧ 2 ≤ t := by rcases hq with h | h | h | h <;> omega
        have e4 : ¬ enc q = mI 4 := (enc_4 h4q.1 h4q.2.1).2
        rw [if_neg e4, if_neg (by omega)]
        have ht' : nI t + mI 1 = nI (t - 1) := by
          have := mI_add (t - 1)
          rwa [show t - 1 + 1 = t by omega] at this
        simp (disch := omega) only [ht', nI_subN, inb_nI, cl_nI]
        refine ⟨by omega, by omega, ?_⟩
        rw [hs (t - 1) (by omega), hs (t - 1 - 1) (by omega)]
        refine WE_i (c_joined (c := q.1) hls h4q.1 h4q.2.1 q.2) ?_
        have hd : dpt q t = t - 1 := by unfold dpt; rw [if_neg hq2, if_neg hq3]
        refine ⟨by omega, nxt (t - 1 - 1) _ _ _ (by omega) ?_ (fun a b c => ?_) (by rw [hd]) (by omega)⟩
        · rw [stp_4 h4q.1, show t - 1 - 1 = t - 2 by omega, up1_eq]
        · rw [stp_ne, if_neg (by rw [if_neg (by omega), if_neg hq3]; omega)]
def clampN (v : Int32) : Nat := if v < 0 then 0 else if nI 999 < v then 999 else cl v
theorem clampN_lt (v : Int32) : clampN v < 1000 := by
  unfold clampN
  split
  · omega
  · rename_i h
    obtain ⟨k, hk, rfl⟩ := Int32_nat h
    split
    · omega
    · rename_i h2
      rw [nI_ltN (by omega) hk] at h2
      rw [cl_nI hk]
      omega
theorem clampN_v {v : Int32} (h1 : ¬ v < 0) (h2 : ¬ nI 999 < v) : nI (clampN v) = v := by
  obtain ⟨k, hk, rfl⟩ := Int32_nat h1
  unfold clampN
  rw [if_neg h1, if_neg h2, cl_nI hk]
/-- what a turn costs -/
def lwl (L : Option Lws) : Lws := L.getD [(2, nI 0)]
def cst (L : Option Lws) (w t m : Nat) : Nat := clampN (val (fct (nI w) (nI t) (nI m)) (lwl L))
theorem c_costOf {L : Option Lws} {la : Nat} {σ : JH} {w u m : Nat} (hl : Ly σ) (ha : IsLa la) (hL : cL (lwl L) la σ) : WM q_La_costOf [.ref la, .int (nI w), .int (nI u), .int (nI m)] σ (kI fun x s => x = nI (cst L w u m) ∧ Ly s ∧ Fi (fun b _ => b = la + 2) σ s) := by
  refine w_La_costOf la _ _ _ hl ha ?_
  refine WM_I (c_value hl ha hL) fun x s ⟨hx, hs, hf⟩ => ⟨hs, ?_⟩
  have e : cst L w u m = clampN x := by rw [hx]; rfl
  rw [e]
  clear e hx
  by_cases c1 : nI 999 < x
  · have m1 : q_Ma_min [.int (nI 999), .int x] s = some (some (.int (nI 999)), s) := WE_o (w_Ma_min _ _ hs (by rw [if_neg (fun q => Int32.lt_irrefl (Int32.lt_trans c1 q))]))
    refine WE_i m1 ?_
    have m2 : q_Ma_max [.int (nI 0), .int (nI 999)] s = some (some (.int (nI 999)), s) := WE_o (w_Ma_max _ _ hs (by rw [if_pos (by decide)]))
    refine WE_i m2 ⟨?_, hs, hf⟩
    unfold clampN
    rw [if_neg (fun q => absurd (Int32.lt_trans c1 q) (by decide)), if_pos c1]
  · have m1 : q_Ma_min [.int (nI 999), .int x] s = some (some (.int x), s) := WE_o (w_Ma_min _ _ hs (by
      by_cases d : x < nI 999
      · rw [if_pos d]
      · rw [if_neg d]
        exact Int32.le_antisymm (Int32.not_lt.mp d) (Int32.not_lt.mp c1)))
    refine WE_i m1 ?_
    by_cases c2 : x < 0
    · have m2 : q_Ma_max [.int (nI 0), .int x] s = some (some (.int (nI 0)), s) := WE_o (w_Ma_max _ _ hs (by rw [if_neg (show ¬ nI 0 < x from fun q => Int32.lt_irrefl (Int32.lt_trans c2 q))]))
      refine WE_i m2 ⟨?_, hs, hf⟩
      unfold clampN
      rw [if_pos c2]
    · have m2 : q_Ma_max [.int (nI 0), .int x] s = some (some (.int x), s) := WE_o (w_Ma_max _ _ hs (by
        by_cases d : nI 0 < x
        · rw [if_pos d]
        · rw [if_neg d]
          exact Int32.le_antisymm (Int32.not_lt.mp c2) (Int32.not_lt.mp d)))
      refine WE_i m2 ⟨(clampN_v c2 c1).symm, hs, hf⟩

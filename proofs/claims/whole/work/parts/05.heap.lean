/-! ===== reads, writes and new cells ===== -/
section JW
variable {G : JG} {p : Program} {e : Env} {R : Room} {s : State} {m : MethodId} {args : Array Value} {below : List Frame} {meth : Method} {c : Code} {cc : ByteArray} {n0 w0 nE wE nL own : Nat} {ini : Bool} {Q : State → Prop} {H H' : Heap} {locs : List Loc} {cells slots : Nat} {ls : Array Slot} {rest : List Value} {pc : Nat}
theorem jm_obj {σ : JH} {a t n : Nat} (h : jm G σ s H) (ha : σ.1[a]? = some (t, n)) (ht : t < 12) : 64 ≤ a ∧ n = jt_N t ∧ t_OB (jr G a) ((jg_D G).1 t) n ((jg_D G).2 t) H (fun k => jv G (jf σ a k (jt_ty t k))) := by
  by_cases h64 : 64 ≤ a
  · rcases h.2.2.2.1 a t n h64 ha with ⟨-, h1, h2⟩ | ⟨h1, -⟩ | h1
    · exact ⟨h64, h1, h2⟩
    · omega
    · omega
  · have := (h.2.2.2.2.1 a t n (by omega) ha).1
    omega
theorem jm_arr {σ : JH} {a t n : Nat} (h : jm G σ s H) (ha : σ.1[a]? = some (t, n)) (h1 : 100 ≤ t) (h2 : t ≤ 104) : 64 ≤ a ∧ H[jr G a]? = some (arrV (jg_A G t) n (fun j => jv G (jf σ a j (jt_at t)))) := by
  by_cases h64 : 64 ≤ a
  · rcases h.2.2.2.1 a t n h64 ha with ⟨h3, -⟩ | ⟨-, -, h3⟩ | h3
    · omega
    · exact ⟨h64, h3⟩
    · omega
  · have := (h.2.2.2.2.1 a t n (by omega) ha).1
    omega
theorem jr_hi {a : Nat} (h : 64 ≤ a) : jr G a = jg_sz G + (a - 64) := by unfold jr; rw [if_neg (by omega)]
theorem jr_ne {a b : Nat} (ha : 64 ≤ a) (hb : 64 ≤ b) (h : a ≠ b) : jr G a ≠ jr G b := by rw [jr_hi ha, jr_hi hb]; omega
theorem jr_ge {a : Nat} (h : 64 ≤ a) : jg_sz G ≤ jr G a := by rw [jr_hi h]; omega
theorem jc_same {σ σ' : JH} {i t n : Nat} (h : jc G σ H i t n) (hq : H'[jr G i]? = H[jr G i]?) (hf : ∀ j ty, jf σ' i j ty = jf σ i j ty) : jc G σ' H' i t n := by
  rcases h with ⟨h1, h2, h3⟩ | ⟨h1, h2, h3⟩ | h1
  · exact Or.inl ⟨h1, h2, (h3.kept hq).to (fun k _ => by rw [hf])⟩
  · refine Or.inr (Or.inl ⟨h1, h2, ?_⟩)
    rw [hq, h3]
    simp only [hf]
  · exact Or.inr (Or.inr h1)
theorem jst_same {σ σ' : JH} (h : jst G σ s) (hs : ∀ i, i < 64 → σ'.1[i]? = σ.1[i]?) (hI : ∀ b j, b < 64 → σ'.2.1 b j = σ.2.1 b j) (hJ : ∀ b j, b < 64 → σ'.2.2.1 b j = σ.2.2.1 b j) (hR : ∀ b j, b < 64 → σ'.2.2.2 b j = σ.2.2.2 b j) : jst G σ' s := by
  intro i t n hi hx
  rw [hs i hi] at hx
  have h1 := h i t n hi hx
  unfold jsc at h1 ⊢
  simp only [hI _ _ hi, hJ _ _ hi, hR _ _ hi]
  exact h1
theorem jm_put {σ σ' : JH} {a t n k : Nat} {v : Value} {cell : Cell} (h : jm G σ s H) (hs : σ'.1 = σ.1) (ha : σ.1[a]? = some (t, n)) (ht : t < 12)
    (hcell : H[jr G a]? = some cell) (h' : H'[jr G a]? = some (cell.setSlot ((jg_D G).2 t k) v)) (hz : H'.size = H.size) (ho : ∀ q : Nat, q ≠ jr G a → H'[q]? = H[q]?)
    (hap : ∀ x y, x < jt_N t → y < jt_N t → x ≠ y → (jg_D G).2 t x ≠ (jg_D G).2 t y) (hk : k < jt_N t)
    (hI : ∀ b j, ¬ (b = a ∧ j = k) → σ'.2.1 b j = σ.2.1 b j) (hJ : ∀ b j, ¬ (b = a ∧ j = k) → σ'.2.2.1 b j = σ.2.2.1 b j) (hR : ∀ b j, ¬ (b = a ∧ j = k) → σ'.2.2.2 b j = σ.2.2.2 b j)
    (hv : jv G (jf σ' a k (jt_ty t k)) = v) : jm G σ' s H' := by
  have hn : jh_n σ' = jh_n σ := by unfold jh_n; rw [hs]
  obtain ⟨h64, hN, hob⟩ := jm_obj h ha ht
  have hfe : ∀ b j ty, ¬ (b = a ∧ j = k) → jf σ' b j ty = jf σ b j ty := by
    intro b j ty hb
    unfold jf
    rw [hI b j hb, hJ b j hb, hR b j hb]
  have hcl : jh_clean σ' = jh_clean σ := by unfold jh_clean; rw [hs]
  refine ⟨by rw [hz, hn, hcl]; exact h.1, by rw [hn, hz]; exact h.2.1, fun q hq => ?_, fun i t' n' hi hx => ?_, ?_, h.2.2.2.2.2⟩
  · rw [ho q (by have := jr_ge (G := G) h64; omega)]
    exact h.2.2.1 q hq
  · rw [hs] at hx
    by_cases hia : i = a
    · subst hia
      rw [ha] at hx
      cases hx
      refine Or.inl ⟨ht, hN, ?_⟩
      obtain ⟨c0, q1, q2, q3, q4⟩ := hob
      cases hcell.symm.trans q1
      refine ⟨_, h', q2, q3, fun j hj => ?_⟩
      have h5 := t_set q4 (fun x y hx hy => hap x y (hN ▸ hx) (hN ▸ hy)) (hN ▸ hk) v j hj
      rw [h5]
      unfold updV
      show some (if j = k then v else jv G (jf σ i j (jt_ty t j))) = some (jv G (jf σ' i j (jt_ty t j)))
      by_cases hjk : j = k
      · subst hjk
        rw [if_pos rfl, hv]
      · rw [if_neg hjk, hfe _ _ _ (fun q => hjk q.2)]
    · exact jc_same (h.2.2.2.1 i t' n' hi hx) (ho _ (jr_ne hi h64 hia)) (fun j ty => hfe i j ty (fun q => hia q.1))
  · exact jst_same h.2.2.2.2.1 (fun i _ => by rw [hs]) (fun b j hb => hI b j (fun q => by omega)) (fun b j hb => hJ b j (fun q => by omega)) (fun b j hb => hR b j (fun q => by omega))
theorem jm_ast {σ σ' : JH} {a t n k : Nat} {v : Value} (h : jm G σ s H) (hs : σ'.1 = σ.1) (ha : σ.1[a]? = some (t, n)) (h1 : 100 ≤ t) (h2 : t ≤ 104)
    (h' : H'[jr G a]? = some ((arrV (jg_A G t) n (fun j => jv G (jf σ a j (jt_at t)))).setSlot k v)) (hz : H'.size = H.size) (ho : ∀ q : Nat, q ≠ jr G a → H'[q]? = H[q]?)
    (hI : ∀ b j, ¬ (b = a ∧ j = k) → σ'.2.1 b j = σ.2.1 b j) (hJ : ∀ b j, ¬ (b = a ∧ j = k) → σ'.2.2.1 b j = σ.2.2.1 b j) (hR : ∀ b j, ¬ (b = a ∧ j = k) → σ'.2.2.2 b j = σ.2.2.2 b j)
    (hv : jv G (jf σ' a k (jt_at t)) = v) : jm G σ' s H' := by
  have hn : jh_n σ' = jh_n σ := by unfold jh_n; rw [hs]
  obtain ⟨h64, hob⟩ := jm_arr h ha h1 h2
  have hfe : ∀ b j ty, ¬ (b = a ∧ j = k) → jf σ' b j ty = jf σ b j ty := by
    intro b j ty hb
    unfold jf
    rw [hI b j hb, hJ b j hb, hR b j hb]
  have hcl : jh_clean σ' = jh_clean σ := by unfold jh_clean; rw [hs]
  refine ⟨by rw [hz, hn, hcl]; exact h.1, by rw [hn, hz]; exact h.2.1, fun q hq => ?_, fun i t' n' hi hx => ?_, ?_, h.2.2.2.2.2⟩
  · rw [ho q (by have := jr_ge (G := G) h64; omega)]
    exact h.2.2.1 q hq
  · rw [hs] at hx
    by_cases hia : i = a
    · subst hia
      rw [ha] at hx
      cases hx
      refine Or.inr (Or.inl ⟨h1, h2, ?_⟩)
      rw [h', arrV_store]
      congr 2
      funext j
      unfold updV
      by_cases hjk : j = k
      · subst hjk
        rw [if_pos rfl, hv]
      · rw [if_neg hjk, hfe _ _ _ (fun q => hjk q.2)]
    · exact jc_same (h.2.2.2.1 i t' n' hi hx) (ho _ (jr_ne hi h64 hia)) (fun j ty => hfe i j ty (fun q => hia q.1))
  · exact jst_same h.2.2.2.2.1 (fun i _ => by rw [hs]) (fun b j hb => hI b j (fun q => by omega)) (fun b j hb => hJ b j (fun q => by omega)) (fun b j hb => hR b j (fun q => by omega))
theorem jf_new_old {σ : JH} {t n i j : Nat} {ty : FieldType} (h : i ≠ jh_n σ) : jf (jh_new σ t n) i j ty = jf σ i j ty := by
  have h' : ¬ i = σ.1.length := h
  unfold jf jh_new
  simp only [if_neg h']
theorem jh_clean_new {σ : JH} {t n : Nat} (h : 64 ≤ jh_n σ) (hc : jh_clean (jh_new σ t n) = true) : jh_clean σ = true := by
  unfold jh_clean jh_new at hc
  have h : 64 ≤ σ.1.length := h
  rw [List.drop_append_of_le_length h, List.all_append, Bool.and_eq_true] at hc
  exact hc.1
theorem jm_new {σ : JH} {t n : Nat} (hcl : jh_clean σ = true) (h : jm G σ s H) (hz : H'.size = H.size + 1) (ho : ∀ q : Nat, q < H.size → H'[q]? = H[q]?)
    (hc : jc G (jh_new σ t n) H' (jh_n σ) t n) : jm G (jh_new σ t n) s H' := by
  have hn : jh_n (jh_new σ t n) = jh_n σ + 1 := by unfold jh_n jh_new; simp
  have hsz := h.1 hcl
  refine ⟨fun _ => by rw [hz, hn]; omega, by rw [hn, hz]; have := h.2.1; omega, fun q hq => ?_, fun i t' n' hi hx => ?_, ?_, h.2.2.2.2.2⟩
  · rw [ho q (by have := h.2.1; omega)]
    exact h.2.2.1 q hq
  · have hx2 : (σ.1 ++ [(t, n)])[i]? = some (t', n') := hx
    by_cases hl : i < σ.1.length
    · rw [List.getElem?_append_left hl] at hx2
      exact jc_same (h.2.2.2.1 i t' n' hi hx2) (ho _ (by rw [jr_hi hi]; have : jh_n σ = σ.1.length := rfl; omega)) (fun j ty => jf_new_old (Nat.ne_of_lt hl))
    · rw [List.getElem?_append_right (by omega)] at hx2
      have h9 : i - σ.1.length < 1 := (List.getElem?_eq_some_iff.mp hx2).1
      have hi' : i = jh_n σ := by unfold jh_n; omega
      rw [show i - σ.1.length = 0 by omega] at hx2
      cases hx2
      rw [hi']
      exact hc
  · have hl : 64 ≤ σ.1.length := h.2.1.1
    refine jst_same h.2.2.2.2.1 (fun i hi => ?_) (fun b j hb => ?_) (fun b j hb => ?_) (fun b j hb => ?_)
    · show (σ.1 ++ [(t, n)])[i]? = _
      rw [List.getElem?_append_left (by omega)]
    · show (if b = σ.1.length then _ else _) = _
      rw [if_neg (by omega)]
    · show (if b = σ.1.length then _ else _) = _
      rw [if_neg (by omega)]
    · show (if b = σ.1.length then _ else _) = _
      rw [if_neg (by omega)]
theorem jr_new {σ : JH} (hcl : jh_clean σ = true) (h : jm G σ s H) : jr G (jh_n σ) = H.size := by
  rw [jr_hi h.2.1.1]
  have := h.1 hcl
  have := h.2.1
  omega
theorem jt_own_at : ∀ ci, ci < 12 → jt_own.getD ci "" = jt_C ci := by decide +kernel
theorem jx_lays (hG : JGl G s) {ci : Nat} (h : ci < 12) : ∀ w ∈ u_ws (jt_C ci) (jt_T ci) (jt_N ci), w.before args s = true := by
  intro w hw
  have hm := jt_lay_in h w hw
  obtain ⟨k, hk, rfl⟩ := List.mem_map.mp hw
  unfold u_lay at hm ⊢
  split
  · rename_i hc
    rw [if_pos hc] at hm
    exact jx_word hG hm rfl rfl
  · rename_i hc
    rw [if_neg hc] at hm
    exact jx_word hG hm rfl rfl
theorem jx_apart (hG : JGl G s) {ci : Nat} (h : ci < 12) : ∀ x y, x < jt_N ci → y < jt_N ci → x ≠ y → (jg_D G).2 ci x ≠ (jg_D G).2 ci y :=
  va_apart (args := #[]) (own := "") (jx_lays hG h) (fun _ h => h) (jt_ty ci) (jt_ty_ok ci h) (jt_nm_ok ci h) hG.2.1 (jt_cls_at h)
theorem jw_get {σ : JH} {ix ci k a n : Nat} {nest : Bool} (X : JX G p R s m meth c cc nL n0 w0 nE wE own ini) (hf : jt_fl own ix = some (ci, k, nest)) (hM : jm G σ s H) (ha : σ.1[a]? = some (ci, n)) (hd : decode cc pc = .ok (.getfield ix, 3))
    (kk : W p (jg_l G) e R s m args below meth c H locs cells slots Q (F0 m (pc + 3) ls (jv G (jf σ a k (jt_ty ci k)) :: rest))) : W p (jg_l G) e R s m args below meth c H locs cells slots Q (F0 m pc ls (.ref (jr G a) :: rest)) := by
  obtain ⟨hx, hb, hml, hown, hG, -⟩ := X
  obtain ⟨hw, hci, hk⟩ := jt_fl_at hf
  obtain ⟨-, hN, cell, q1, q2, q3, q4⟩ := jm_obj hM ha hci
  obtain ⟨hS, hfc, kC, hkC, hkind⟩ := hG.2.1.1 ci _ (jt_cls_at hci)
  obtain ⟨cf, kf, fi, f, hi, hsl⟩ := hS k hk
  have hst := (u_facts hfc hkC (u_lays (args := #[]) (jx_lays hG hci) (fun _ h => h) hk) hi).1
  have hv : cell.slots[f.slot]? = some (jv G (jf σ a k (jt_ty ci k))) := by rw [hsl]; exact q4 k (hN ▸ hk)
  cases nest with
  | false => exact W.getf hx hb hown (ref := jt_C ci) (jx_word hG (by exact hw) rfl rfl) hi hst q1 (by rw [q3]; exact fun h => by cases h) hv rfl rfl hd kk
  | true => exact va_Wgetf hx hb hown (ref := jt_C ci) (host := "CellarTurns") (jx_word hG (by exact hw) rfl rfl) hi hst q1 (by rw [q3]; exact fun h => by cases h) hv rfl rfl hd kk
theorem jw_put {σ σ' : JH} {ix ci k a n : Nat} {nest : Bool} {v : Value} (X : JX G p R s m meth c cc nL n0 w0 nE wE own ini) (hf : jt_fl own ix = some (ci, k, nest)) (hM : jm G σ s H) (ha : σ.1[a]? = some (ci, n)) (hd : decode cc pc = .ok (.putfield ix, 3))
    (hfin : (jt_f ci k).2.2.1 = false ∨ ((jt_f ci k).2.2.1 = true ∧ nest = false ∧ ci = own ∧ meth.name = "<init>")) (hn : narrow (jt_ty ci k) (jv G v) = jv G v) (hfit : fits (jt_ty ci k) (jv G v) = true) (hs : σ'.1 = σ.1)
    (hI : ∀ b j, ¬ (b = a ∧ j = k) → σ'.2.1 b j = σ.2.1 b j) (hJ : ∀ b j, ¬ (b = a ∧ j = k) → σ'.2.2.1 b j = σ.2.2.1 b j) (hR : ∀ b j, ¬ (b = a ∧ j = k) → σ'.2.2.2 b j = σ.2.2.2 b j)
    (hv : jf σ' a k (jt_ty ci k) = v) (hlocs : ∀ q ∈ locs, jg_sz G ≤ q.base)
    (kk : ∀ (H' : Heap) (locs' : List Loc), jm G σ' s H' → (∀ q ∈ locs', jg_sz G ≤ q.base) → W p (jg_l G) e R s m args below meth c H' locs' cells slots Q (F0 m (pc + 3) ls rest)) : W p (jg_l G) e R s m args below meth c H locs cells slots Q (F0 m pc ls (jv G v :: .ref (jr G a) :: rest)) := by
  obtain ⟨hx, hb, hml, hown, hG, -⟩ := X
  obtain ⟨hw, hci, hk⟩ := jt_fl_at hf
  obtain ⟨h64, hN, hob⟩ := jm_obj hM ha hci
  obtain ⟨cell, q1, q2, q3, q4⟩ := hob
  obtain ⟨hS, hfc, kC, hkC, hkind⟩ := hG.2.1.1 ci _ (jt_cls_at hci)
  obtain ⟨cf, kf, fi, f, hi, hsl⟩ := hS k hk
  have hlays := u_lays (args := #[]) (jx_lays hG hci) (fun _ h => h) hk
  have hst := (u_facts hfc hkC hlays hi).1
  have hlt : f.slot < cell.slots.size := by rw [hsl]; exact k2_hasslot (q4 k (hN ▸ hk))
  have fin : ∀ H1 : Heap, H1[jr G a]? = some (cell.setSlot f.slot (jv G v)) → H1.size = H.size → (∀ q : Nat, q ≠ jr G a → H1[q]? = H[q]?) → W p (jg_l G) e R s m args below meth c H1 (locs ++ [⟨jr G a, f.slot⟩]) cells slots Q (F0 m (pc + 3) ls rest) := by
    intro H1 e1 e2 e3
    refine kk H1 _ (jm_put hM hs ha hci q1 (by rw [← hsl]; exact e1) e2 e3 (jx_apart hG hci) hk hI hJ hR (by rw [hv])) (fun q hq => ?_)
    rcases List.mem_append.mp hq with h | h
    · exact hlocs q h
    · rw [List.mem_singleton.mp h]
      exact jr_ge h64
  rcases hfin with hfin | ⟨hft, hne, hco, hin⟩
  · have hlay : (Cond.lays (jt_C ci) (jt_T ci k).1 (jt_T ci k).2.1 (jt_T ci k).2.2.1).before #[] s = true := by
      have h1 := jx_lays (args := #[]) hG hci (u_lay (jt_C ci) (jt_T ci) k) (u_in_lay hk)
      unfold u_lay at h1
      rw [if_neg (by show ¬ (jt_f ci k).2.2.1 = true; rw [hfin]; decide)] at h1
      exact h1
    have h6 := u_store hfc hkC hkind hlay hi (jt_ty_ok ci hci k hk) hn hfit
    cases nest with
    | false => exact W.putK hx hb (f := f) ⟨hown, jx_word hG (by exact hw) rfl rfl, ⟨_, _, _, hi⟩, hst⟩ (by rw [q2]; exact h6) q1 q3 hlt rfl rfl hd fin
    | true => exact va_WputK hx hb (host := "CellarTurns") hown (jx_word hG (by exact hw) rfl rfl) hi hst (by rw [q2]; exact h6) q1 q3 hlt rfl rfl hd fin
  · subst hne
    have hlay : (Cond.laysFinal (jt_C ci) (jt_T ci k).1 (jt_T ci k).2.1 (jt_T ci k).2.2.1).before #[] s = true := by
      have h1 := jx_lays (args := #[]) hG hci (u_lay (jt_C ci) (jt_T ci) k) (u_in_lay hk)
      unfold u_lay at h1
      rw [if_pos (by exact hft)] at h1
      exact h1
    have hoc : jt_own.getD own "" = jt_C ci := by rw [← hco]; exact jt_own_at ci hci
    have hcf : m.cls = cf := by
      obtain ⟨_, _, c', _, _, _, -, -, hf', -, -, -, hown2, -⟩ := Cond.laysFinal_spec hlay
      have e1 : c' = cf := congrArg Prod.fst (Option.some.inj (hf'.symm.trans hi))
      rw [show (jt_T ci k).1 = jt_own.getD own "" from hoc.symm] at hown2
      rw [← e1]; exact Option.some.inj (hown.symm.trans hown2)
    have h6 := u_fits hfc hkC hkind hlays hi (jt_ty_ok ci hci k hk) hn hfit
    exact W.putFinK hx hb hown (jx_word hG (by exact hw) rfl rfl) hi hst hcf hin (by rw [q2]; exact h6) q1 q3 hlt rfl rfl hd fin
end JW

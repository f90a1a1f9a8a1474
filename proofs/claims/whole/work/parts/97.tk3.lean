section TK3
variable {s t σ : JH} {ts : List Nat} {i c : Nat}
def PTk (b j : Nat) : Prop := b = 65 ∧ 2 ≤ j
theorem cTp_f {P : Nat → Nat → Prop} (f : Fg P s t) (h1 : ¬ P 65 1) (h2 : ∀ j, ¬ P 66 j) (z : cTp ts s) : cTp ts t := cTp_g f h1 h2 z
theorem dgv_lt {l : List Nat} (h : ∀ c ∈ l, isDg c = true) : l.foldl (fun v c => 10 * v + (c - 48)) 0 < 10 ^ l.length := by
  have : ∀ (l : List Nat) (v : Nat), (∀ c ∈ l, isDg c = true) → l.foldl (fun v c => 10 * v + (c - 48)) v < (v + 1) * 10 ^ l.length := by
    intro l
    induction l with
    | nil => intro v _; show v < (v + 1) * 1; omega
    | cons c l ih =>
      intro v h
      have hc := h c (List.mem_cons_self ..)
      unfold isDg at hc
      have hc : 48 ≤ c ∧ c ≤ 57 := by simpa using hc
      have h1 := ih (10 * v + (c - 48)) (fun x hx => h x (List.mem_cons_of_mem _ hx))
      have h2 : (10 * v + (c - 48) + 1) * 10 ^ l.length ≤ (10 * (v + 1)) * 10 ^ l.length := Nat.mul_le_mul_right _ (by omega)
      rw [List.foldl_cons, List.length_cons, Nat.pow_succ, Nat.mul_comm (10 ^ l.length) 10, ← Nat.mul_assoc, Nat.mul_comm (v + 1) 10]
      omega
  have h1 := this l 0 h
  rw [Nat.zero_add, Nat.one_mul] at h1
  exact h1
end TK3

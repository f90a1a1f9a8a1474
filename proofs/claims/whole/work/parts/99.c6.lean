/-! the room of what both constructors made -/
theorem ly_w {s : JH} {L : Nat} (h : Ly s) (hn : jh_n s = 230) (h24 : s.1[24]? = some (200, L)) (h229 : s.1[229]? = some (101, 1)) : jh_w s ≤ 40000 + L := by
  have h5 : ly_sh.length = 230 := by decide +kernel
  have hn : s.1.length = 230 := hn
  have e : s.1 = ly_sh.set 24 (200, L) := by
    apply List.ext_getElem?
    intro a
    by_cases c : a = 24
    · subst c
      rw [List.getElem?_set_self (by omega)]; exact h24
    · rw [List.getElem?_set_ne (fun q => c q.symm)]
      by_cases d : a < 229
      · exact h.1 a d c
      · by_cases g : a = 229
        · subst g
          rw [h229]; decide +kernel
        · rw [List.getElem?_eq_none (by omega), List.getElem?_eq_none (by omega)]
  have e2 : ly_sh.set 24 (200, L) = ly_sh.take 24 ++ (200, L) :: ly_sh.drop 25 := List.set_eq_take_append_cons_drop.trans (if_pos (by omega))
  have a1 : ((ly_sh.take 24).map (fun q => q.2)).sum ≤ 1000 := by decide +kernel
  have a2 : ((ly_sh.drop 25).map (fun q => q.2)).sum ≤ 39000 := by decide +kernel
  unfold jh_w
  rw [e, e2, List.map_append, List.map_cons, List.sum_append, List.sum_cons]
  show _ + (L + _) ≤ _
  omega

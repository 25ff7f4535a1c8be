theorem sI_0z {f : Nat → Int32} {n : Nat} (h : ∀ k, k < n → f k = 0) : sI_ f n = 0 := by
  have := sI_z (f := f) (n := 0) (m := n) (Nat.zero_le n) (fun k _ hk => h k hk)
  exact this.symm
/-- what was given, and its shares -/
theorem sx_IP {R : Nat → Int32} {h : Nat} {wt rw pots : Nat → Int32} (hR : IR_ R) (hP : IP_ pots rw) (hh : h ≤ 100) : IP_ (if sN_ (fun n => tn_X (wt (h * 8 + n))) 8 = 0 then pots else upd pots h (nI (tn_X (R 1) / 2 ^ (h / tn_X (R 2))))) (sx_rw R h wt rw) := by
  intro q hq
  unfold sx_rw
  by_cases e : sN_ (fun n => tn_X (wt (h * 8 + n))) 8 = 0
  · rw [if_pos e, if_pos e]; exact hP q hq
  · rw [if_neg e, if_neg e]
    by_cases e2 : q = h
    · subst e2
      rw [up_i]
      have h1 := sh_sum (A := tn_X (R 1) / 2 ^ (q / tn_X (R 2))) (p := fun n => tn_X (wt (q * 8 + n))) (n := 8) (by omega)
      rw [sI_n (g := sx_S R q wt) (fun k hk => by unfold rv_; rw [if_pos (by omega)]; congr 2; omega)]
      exact congrArg nI h1.symm
    · rw [up_n _ _ _ _ e2, hP q hq]
      exact sI_c (fun k hk => by unfold rv_; rw [if_neg (by omega)])

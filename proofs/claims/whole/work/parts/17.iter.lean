/-! heights, one behind another -/
abbrev SS_ : Type := Int32 × (Nat → Int32) × (Nat → Int32) × (Nat → Int32) × (Nat → Int32) × (Nat → Int32) × (Nat → Int32) × (Nat → Int32)
def sx_1 (R kp ct fz stk : Nat → Int32) (N h : Nat) (S : SS_) : SS_ :=
  (sx_rd R h S.2.2.2.2.2.2.1 S.1, sx_bal R kp ct h S.2.2.2.2.2.2.1 S.2.2.2.2.2.2.2 S.2.2.1 S.2.1, dz_ S.2.2.1 (h + 1) 10, sx_sa N h S.2.2.2.1 S.2.2.2.2.1, sx_la N h S.2.2.2.1 S.2.2.2.2.1, sx_rw R h S.2.2.2.2.2.2.1 S.2.2.2.2.2.1, sx_wt R fz stk N h S.2.2.2.1 S.2.2.2.2.1 S.2.2.2.2.2.2.1, se_v S.2.2.2.2.2.2.2 stk 80)
def sx_n (R kp ct fz stk : Nat → Int32) (N h : Nat) (S : SS_) : Nat → SS_
  | 0 => S
  | n + 1 => sx_1 R kp ct fz stk N (h + n) (sx_n R kp ct fz stk N h S n)
theorem sx_inv {R kp ct fz stk : Nat → Int32} {N h : Nat} {fd : Int32} {S : SS_} (hR : IR_ R) (hN : IN_ N kp ct) (hM : IM_ h fd S.1 S.2.1 stk S.2.2.1) (hW : IW_ h N S.2.2.2.2.2.2.1 S.2.2.2.2.2.2.2) : ∀ i, h + i ≤ 100 →
    IM_ (h + i) fd (sx_n R kp ct fz stk N h S i).1 (sx_n R kp ct fz stk N h S i).2.1 stk (sx_n R kp ct fz stk N h S i).2.2.1 ∧ IW_ (h + i) N (sx_n R kp ct fz stk N h S i).2.2.2.2.2.2.1 (sx_n R kp ct fz stk N h S i).2.2.2.2.2.2.2 := by
  intro i
  induction i with
  | zero => intro _; exact ⟨hM, hW⟩
  | succ i ih =>
    intro hi
    obtain ⟨h1, h2⟩ := ih (by omega)
    exact ⟨sx_IM hR hN h1 h2 (show h + i < 100 by omega), sx_IW hN.1 h1 h2 (show h + i < 100 by omega)⟩
theorem sx_inv2 {R kp ct fz stk : Nat → Int32} {N h : Nat} {S : SS_} (hK : IK_ N stk S.2.2.1) (hL : IL_ N S.2.2.2.1 S.2.2.2.2.1) : ∀ i, h + i ≤ 100 →
    IK_ N stk (sx_n R kp ct fz stk N h S i).2.2.1 ∧ IL_ N (sx_n R kp ct fz stk N h S i).2.2.2.1 (sx_n R kp ct fz stk N h S i).2.2.2.2.1 := by
  intro i
  induction i with
  | zero => intro _; exact ⟨hK, hL⟩
  | succ i ih =>
    intro hi
    obtain ⟨h1, h2⟩ := ih (by omega)
    exact ⟨sx_IK h1 (show h + i < 100 by omega), sx_IL h2⟩
def ad_k (h : Nat) (n : Int32) : Nat := if (1 ≤ n ∧ n ≤ 100) ∧ nI h + n ≤ 100 then tn_X n else 0
def rr_advance (h : Nat) (n : Int32) : Int32 := if 1 ≤ n ∧ n ≤ 100 then (if nI h + n ≤ 100 then nI h + n else -3) else -1
theorem ak_0 {h : Nat} {n : Int32} (hn : ¬ (1 ≤ n ∧ n ≤ 100)) : ad_k h n = 0 ∧ rr_advance h n = -1 := ⟨if_neg (fun z => hn z.1), if_neg hn⟩
theorem ak_2 {h k : Nat} (hh : h ≤ 100) (hk : k < 101) (hn : 1 ≤ nI k ∧ nI k ≤ 100) (hs : 100 < h + k) : ad_k h (nI k) = 0 ∧ rr_advance h (nI k) = -3 := by
  have e : ¬ nI h + nI k ≤ 100 := fun z => by
    rw [nI_add] at z
    have := (nI_leI (a := h + k) (b := 100) (by omega) (by omega)).mp z
    omega
  exact ⟨if_neg (fun z => e z.2), by unfold rr_advance; rw [if_pos hn, if_neg e]⟩
theorem ak_1 {h k : Nat} (hh : h ≤ 100) (hk : k < 101) (hn : 1 ≤ nI k ∧ nI k ≤ 100) (hs : h + k ≤ 100) : ad_k h (nI k) = k ∧ rr_advance h (nI k) = nI (h + k) := by
  have e : nI h + nI k ≤ 100 := by
    rw [nI_add]
    exact (nI_leI (a := h + k) (b := 100) (by omega) (by omega)).mpr hs
  refine ⟨?_, by unfold rr_advance; rw [if_pos hn, if_pos e, nI_add]⟩
  unfold ad_k
  rw [if_pos ⟨hn, e⟩]
  exact nI_clamp (by omega)
theorem ak_le {h : Nat} {n : Int32} (hh : h ≤ 100) : h + ad_k h n ≤ 100 := by
  by_cases e : 1 ≤ n ∧ n ≤ 100
  · obtain ⟨k, h1, rfl⟩ := ix_le (x := n) (M := 100) (n := 100) (by decide) ⟨Int32.le_trans (by decide) e.1, e.2⟩
    by_cases e2 : h + k ≤ 100
    · rw [(ak_1 hh (by omega) e e2).1]; exact e2
    · rw [(ak_2 hh (by omega) e (by omega)).1]; exact hh
  · rw [(ak_0 e).1]; exact hh
theorem IW_le {h N q n : Nat} {wt fx : Nat → Int32} (hW : IW_ h N wt fx) (hq : q ≤ 100) (hn : n < 8) : tn_X (wt (q * 8 + n)) ≤ 2000000 := Nat.le_trans (sN_le (f := fun n => tn_X (wt (q * 8 + n))) hn) (hW.2.1 q hq)
theorem IW_z {h N q n : Nat} {wt fx : Nat → Int32} (hW : IW_ h N wt fx) (hq : q ≤ 100) (h1 : N ≤ n) (hn : n < 8) : tn_X (wt (q * 8 + n)) = 0 := by rw [hW.2.2.2.1 q n hq h1 hn]; exact tn_0
theorem IC_a {h N q : Nat} {wt fx al br : Nat → Int32} (hW : IW_ h N wt fx) (hC : IC_ wt al br) (h1 : h < q) (hq : q ≤ 100) : al q = 0 := by
  rw [(hC q hq).1, sN_0 (fun m hm => by rw [hW.2.2.1 q m h1 hq hm]; exact tn_0)]; rfl
theorem IC_b {h N q : Nat} {wt fx al br : Nat → Int32} (hW : IW_ h N wt fx) (hC : IC_ wt al br) (h1 : h < q) (hq : q ≤ 100) : br q = 0 := by
  rw [(hC q hq).2, ← pb_to (n := 0) (Nat.zero_le 8) (fun k _ hk => by rw [hW.2.2.1 q k h1 hq hk]; exact tn_0)]; rfl

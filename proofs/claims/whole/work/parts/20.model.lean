/-! the reference: numbers -/
theorem nn_mulc {x y : Int32} {a b : Nat} (hx : x = nI a) (hy : y = nI b) : x * y = nI (b * a) := by rw [hx, hy, pk_mul, Nat.mul_comm]
theorem i6_lt {x y : Int32} : x.toInt64 < y.toInt64 ↔ x < y := by
  rw [Int64.lt_iff_toInt_lt, Int32.lt_iff_toInt_lt, Int32.toInt_toInt64, Int32.toInt_toInt64]
theorem n1_e {N : Nat} {n : Int32} (hN : N ≤ 8) : (0 ≤ n ∧ n ≤ nI N - 1) ↔ (0 ≤ n ∧ n < nI N) := by
  have h1 : (nI N - 1).toInt = (N : Int) - 1 := pk_sub_toInt (a := N) (b := 1) (by omega) (by omega)
  have h2 : (nI N).toInt = (N : Int) := nI_toInt (by omega)
  rw [Int32.le_iff_toInt_le (x := n), Int32.lt_iff_toInt_lt (y := nI N), h1, h2]
  constructor
  · rintro ⟨a, b⟩; exact ⟨a, by omega⟩
  · rintro ⟨a, b⟩; exact ⟨a, by omega⟩
theorem nb_0 : ∀ N, N < 9 → ∀ b, b < 256 → (nI b ≤ ((1 : Int32) <<< (nI N &&& 31)) - 1 ↔ ha_P N (nI b)) := by decide +kernel
theorem nb_1 : ∀ N, N < 9 → ((1 : Int32) <<< (nI N &&& 31)) - 1 ≤ 255 := by decide +kernel
theorem nb_e {N : Nat} {bits : Int32} (hN : N ≤ 8) : (0 ≤ bits ∧ bits ≤ ((1 : Int32) <<< (nI N &&& 31)) - 1) ↔ ha_P N bits := by
  constructor
  · rintro ⟨h1, h2⟩
    obtain ⟨b, h3, rfl⟩ := ix_le (x := bits) (M := 255) (n := 255) (by decide) ⟨h1, Int32.le_trans h2 (nb_1 N (by omega))⟩
    exact (nb_0 N (by omega) b (by omega)).mp h2
  · intro h
    obtain ⟨b, h3, rfl⟩ := ix_ha hN h
    exact ⟨nI_pos' (by omega), (nb_0 N (by omega) b h3).mpr h⟩
def rm_rule (h : Nat) (r0 r1 r2 r3 what v : Int32) : Int32 := if gd_P what v then (if 0 < h then -4 else if what = 0 then r0 else if what = 1 then r1 else if what = 2 then r2 else r3) else -1
def rk_rule (h : Nat) (k r what v : Int32) : Int32 := if gd_P what v ∧ h = 0 then (if what = k then v else r) else r
theorem sI_sh (f : Nat → Int32) (n : Nat) : sI_ f (n + 1) = f 0 + sI_ (fun k => f (k + 1)) n := by
  induction n with
  | zero => show (0 : Int32) + f 0 = f 0 + 0; simp
  | succ n ih => show sI_ f (n + 1) + f (n + 1) = f 0 + (sI_ (fun k => f (k + 1)) n + f (n + 1)); rw [ih, Int32.add_assoc]
theorem sI_z {f : Nat → Int32} {n m : Nat} (hn : n ≤ m) (h : ∀ k, n ≤ k → k < m → f k = 0) : sI_ f n = sI_ f m := by
  induction m with
  | zero => have : n = 0 := by omega
            subst this; rfl
  | succ m ih =>
    by_cases e : n = m + 1
    · subst e; rfl
    · show sI_ f n = sI_ f m + f m
      rw [h m (by omega) (by omega), ← ih (by omega) (fun k h1 h2 => h k h1 (by omega))]; simp
theorem dr_e {due : Nat → Int32} {ia : Nat} (h : due (ia * 110) = 0) : sI_ (fun k => due (ia * 110 + k)) 110 = sI_ (fun k => due (ia * 110 + (k + 1))) 109 := by
  rw [sI_sh (fun k => due (ia * 110 + k)) 109]
  show due (ia * 110 + 0) + _ = _
  rw [Nat.add_zero, h]; simp
/-- weights within bounds -/
def IV_ (wt : Nat → Int32) : Prop := (∀ q n, q ≤ 100 → n < 8 → nn_ (wt (q * 8 + n))) ∧ ∀ q, q ≤ 100 → sN_ (fun n => tn_X (wt (q * 8 + n))) 8 ≤ 2000000
def IA_ (wt al : Nat → Int32) : Prop := ∀ q, q ≤ 100 → al q = sI_ (fun n => wt (q * 8 + n)) 8
theorem IA_n {wt al : Nat → Int32} (hV : IV_ wt) (hA : IA_ wt al) {q : Nat} (hq : q ≤ 100) : ∃ a, a ≤ 2000000 ∧ al q = nI a := ⟨_, hV.2 q hq, by rw [hA q hq]; exact sI_n (fun k hk => hV.1 q k hq hk)⟩
def wn_ (w : Nat → Nat) (b : Nat) : Nat → Nat
  | 0 => 0
  | n + 1 => if bt_ b n = 0 then wn_ w b n else wn_ w b n + w n
theorem wn_le (w : Nat → Nat) (b n : Nat) : wn_ w b n ≤ sN_ w n := by
  induction n with
  | zero => exact Nat.le_refl 0
  | succ n ih => rw [sN_s]; show (if bt_ b n = 0 then wn_ w b n else wn_ w b n + w n) ≤ _; split <;> omega
theorem wo_n {wt : Nat → Int32} (hV : IV_ wt) {q : Nat} (hq : q ≤ 100) (b : Nat) : ∃ a, a ≤ 2000000 ∧ wo_ wt q b 8 = nI a := by
  refine ⟨wn_ (fun n => tn_X (wt (q * 8 + n))) b 8, Nat.le_trans (wn_le _ _ _) (hV.2 q hq), ?_⟩
  have key : ∀ n, n ≤ 8 → wo_ wt q b n = nI (wn_ (fun n => tn_X (wt (q * 8 + n))) b n) := by
    intro n
    induction n with
    | zero => intro _; rfl
    | succ n ih =>
      intro hn
      show (if bt_ b n = 0 then wo_ wt q b n else wo_ wt q b n + wt (q * 8 + n)) = nI (if bt_ b n = 0 then _ else _)
      by_cases e : bt_ b n = 0
      · rw [if_pos e, if_pos e]; exact ih (by omega)
      · rw [if_neg e, if_neg e, ih (by omega), ← nI_add]
        exact congrArg _ (hV.1 q n hq (by omega))
  exact key 8 (Nat.le_refl 8)
theorem m3_e {x y : Int32} {a b : Nat} (hx : x = nI a) (hy : y = nI b) (ha : a ≤ 2000000) (hb : b ≤ 2000000) : (Int32.toInt64 2 * y.toInt64 < Int32.toInt64 3 * x.toInt64) ↔ 2 * y < 3 * x := by
  subst hx; subst hy
  rw [nI_l (by omega), nI_l (by omega), show Int32.toInt64 2 = lN 2 from by decide, show Int32.toInt64 3 = lN 3 from by decide, lN_mul, lN_mul, pk_lLT (by omega) (by omega)]
  rw [show (2 : Int32) * nI b = nI (2 * b) from pk_mul 2 b, show (3 : Int32) * nI a = nI (3 * a) from pk_mul 3 a, nI_ltI (by omega) (by omega)]
theorem m1_e {x y : Int32} {a b : Nat} (hx : x = nI a) (hy : y = nI b) (ha : a ≤ 2000000) (hb : b ≤ 2000000) : (y.toInt64 < Int32.toInt64 3 * x.toInt64) ↔ y < 3 * x := by
  subst hx; subst hy
  rw [nI_l (by omega), nI_l (by omega), show Int32.toInt64 3 = lN 3 from by decide, lN_mul, pk_lLT (by omega) (by omega)]
  rw [show (3 : Int32) * nI a = nI (3 * a) from pk_mul 3 a, nI_ltI (by omega) (by omega)]
theorem gd_e {wt al : Nat → Int32} (hV : IV_ wt) (hA : IA_ wt al) {q b : Nat} (hq : q ≤ 100) : (Int32.toInt64 2 * (sI_ (fun n => wt (q * 8 + n)) 8).toInt64 < Int32.toInt64 3 * (wo_ wt q b 8).toInt64) ↔ 2 * al q < 3 * wo_ wt q b 8 := by
  obtain ⟨a, h1, h2⟩ := IA_n hV hA hq
  obtain ⟨c, h3, h4⟩ := wo_n hV hq b
  rw [← hA q hq]
  exact m3_e h4 h2 h3 h1
theorem gm_e {wt al : Nat → Int32} (hV : IV_ wt) (hA : IA_ wt al) {q b : Nat} (hq : q ≤ 100) : ((sI_ (fun n => wt (q * 8 + n)) 8).toInt64 < Int32.toInt64 3 * (wo_ wt q b 8).toInt64) ↔ al q < 3 * wo_ wt q b 8 := by
  obtain ⟨a, h1, h2⟩ := IA_n hV hA hq
  obtain ⟨c, h3, h4⟩ := wo_n hV hq b
  rw [← hA q hq]
  exact m1_e h4 h2 h3 h1
theorem mn_e (x y : Int32) : (if x < y then x else y) = if y < x then y else x := by
  by_cases h : x < y
  · rw [if_pos h, if_neg (Int32.not_lt.mpr (Int32.le_of_lt h))]
  · by_cases h2 : y < x
    · rw [if_neg h, if_pos h2]
    · rw [if_neg h, if_neg h2]; exact Int32.le_antisymm (Int32.not_lt.mp h) (Int32.not_lt.mp h2)
theorem ic_ {a b : Prop} [Decidable a] [Decidable b] {α : Type} {x y : α} (h : a ↔ b) : (if a then x else y) = if b then x else y := by
  by_cases z : a
  · rw [if_pos z, if_pos (h.mp z)]
  · rw [if_neg z, if_neg (fun q => z (h.mpr q))]

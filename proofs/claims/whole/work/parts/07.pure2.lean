/-! rows of longs, bits, the sharer's rows -/
def sl_v (f g : Nat → Int64) (n : Nat) : Nat → Int64 := fun j => if j < n then g j else f j
theorem sl_0 (f g : Nat → Int64) : f = sl_v f g 0 := by funext j; simp [sl_v]
theorem sl_s (f g : Nat → Int64) (n : Nat) : vp_updL (sl_v f g n) n (g n) = sl_v f g (n + 1) := by
  funext j
  by_cases h : j = n
  · subst h; simp [vp_updL, sl_v]
  · have e : (j < n) = (j < n + 1) := by apply propext; omega
    simp [vp_updL, h, sl_v, e]
def bt_ (b i : Nat) : Nat := b / 2 ^ i % 2
theorem bt_lt (b i : Nat) : bt_ b i < 2 := Nat.mod_lt _ (by omega)
theorem bt_u0 : ∀ i, i < 8 → ∀ b, b < 256 → (((nI b).toUInt32 >>> ((nI i).toUInt32 &&& Int32.toUInt32 31)).toInt32 &&& 1) = nI (bt_ b i) := by decide +kernel
theorem bt_s0 : ∀ i, i < 8 → ∀ b, b < 256 → ((nI b >>> (nI i &&& 31)) &&& 1) = nI (bt_ b i) := by decide +kernel
theorem bt_u {b i : Nat} (hb : b < 256) (hi : i < 8) : (((nI b).toUInt32 >>> ((nI i).toUInt32 &&& Int32.toUInt32 31)).toInt32 &&& 1) = nI (bt_ b i) := bt_u0 i hi b hb
theorem bt_s {b i : Nat} (hb : b < 256) (hi : i < 8) : ((nI b >>> (nI i &&& 31)) &&& 1) = nI (bt_ b i) := bt_s0 i hi b hb
/-- the weight of the nodes that the bits name, at a height -/
def wo_ (w : Nat → Int32) (h b : Nat) : Nat → Int32
  | 0 => 0
  | n + 1 => if bt_ b n = 0 then wo_ w h b n else wo_ w h b n + w (h * 8 + n)
def gj_ (f : Nat → Int32) (A : Nat) (p : Nat → Nat) (n j : Nat) : Nat → Int32 := fun k => if k < n then nI (qo_ A p (sN_ p n) k + if rk_ (re_ A p (sN_ p n)) n k < j then 1 else 0) else f k
def rl_ (f : Nat → Int64) (A : Nat) (p : Nat → Nat) (n j : Nat) : Nat → Int64 := fun k => if k < n then rj_ (re_ A p (sN_ p n)) n j k else f k
theorem gj_0 (f : Nat → Int32) (A : Nat) (p : Nat → Nat) (n : Nat) : se_v (se_v f (fun _ => 0) n) (fun k => nI (qo_ A p (sN_ p n) k)) n = gj_ f A p n 0 := by
  funext k
  by_cases h : k < n
  · simp [se_v, gj_, h]
  · simp [se_v, gj_, h]
theorem rl_0 (f : Nat → Int64) (A : Nat) (p : Nat → Nat) (n : Nat) : sl_v f (fun k => lN (re_ A p (sN_ p n) k)) n = rl_ f A p n 0 := by
  funext k
  by_cases h : k < n
  · simp [sl_v, rl_, rj_, h]
  · simp [sl_v, rl_, h]
theorem rl_am {f : Nat → Int64} {A : Nat} {p : Nat → Nat} {n j : Nat} (hT : 0 < sN_ p n) (hb : sN_ p n < 2 ^ 62) (hj : j < n) : am_ (rl_ f A p n j) n < n ∧ rk_ (re_ A p (sN_ p n)) n (am_ (rl_ f A p n j) n) = j := by
  obtain ⟨k, hk, hr⟩ := rk_at (r := re_ A p (sN_ p n)) hj
  have h1 : am_ (rl_ f A p n j) n = k := am_rj (r := re_ A p (sN_ p n)) (fun m hm => by simp [rl_, hm]) (fun m _ => Nat.lt_trans (Nat.mod_lt _ hT) hb) hk hr
  rw [h1]
  exact ⟨hk, hr⟩
theorem gj_s {f : Nat → Int32} {g : Nat → Int64} {A : Nat} {p : Nat → Nat} {n j : Nat} (hT : 0 < sN_ p n) (hb : sN_ p n < 2 ^ 62) (hj : j < n) : upd (gj_ f A p n j) (am_ (rl_ g A p n j) n) (gj_ f A p n j (am_ (rl_ g A p n j) n) + 1) = gj_ f A p n (j + 1) := by
  obtain ⟨h1, h2⟩ := rl_am (f := g) (A := A) hT hb hj
  generalize am_ (rl_ g A p n j) n = k at h1 h2
  funext m
  by_cases e : m = k
  · subst e
    rw [up_i]
    simp only [gj_, if_pos h1]
    rw [if_neg (show ¬ rk_ (re_ A p (sN_ p n)) n m < j by omega), if_pos (show rk_ (re_ A p (sN_ p n)) n m < j + 1 by omega)]
    exact nI_1 _
  · rw [up_n _ _ _ _ e]
    by_cases hm : m < n
    · simp only [gj_, if_pos hm]
      have h3 : ¬ rk_ (re_ A p (sN_ p n)) n m = j := fun z => e (rk_inj hm h1 (z.trans h2.symm))
      have h4 : (rk_ (re_ A p (sN_ p n)) n m < j) = (rk_ (re_ A p (sN_ p n)) n m < j + 1) := by apply propext; omega
      simp only [h4]
    · simp only [gj_, if_neg hm]
theorem rl_s {g : Nat → Int64} {A : Nat} {p : Nat → Nat} {n j : Nat} (hT : 0 < sN_ p n) (hb : sN_ p n < 2 ^ 62) (hj : j < n) : vp_updL (rl_ g A p n j) (am_ (rl_ g A p n j) n) (-1) = rl_ g A p n (j + 1) := by
  obtain ⟨h1, h2⟩ := rl_am (f := g) (A := A) hT hb hj
  generalize hk : am_ (rl_ g A p n j) n = k at h1 h2
  funext m
  by_cases e : m = k
  · subst e
    rw [pk_uLs]
    simp only [rl_, if_pos h1, rj_]
    rw [if_pos (show rk_ (re_ A p (sN_ p n)) n m < j + 1 by omega)]
  · rw [pk_uLn e]
    by_cases hm : m < n
    · simp only [rl_, if_pos hm, rj_]
      have h3 : ¬ rk_ (re_ A p (sN_ p n)) n m = j := fun z => e (rk_inj hm h1 (z.trans h2.symm))
      have h4 : (rk_ (re_ A p (sN_ p n)) n m < j) = (rk_ (re_ A p (sN_ p n)) n m < j + 1) := by apply propext; omega
      simp only [h4]
    · simp only [rl_, if_neg hm]
theorem gj_e {f : Nat → Int32} {A : Nat} {p : Nat → Nat} {n : Nat} (hT : 0 < sN_ p n) : gj_ f A p n (lf_ A p n) = se_v f (fun k => nI (sh_ A p n k)) n := by
  have h0 : ¬ sN_ p n = 0 := by omega
  funext m
  by_cases hm : m < n
  · simp only [gj_, se_v, if_pos hm, sh_, if_neg h0]
  · simp only [gj_, se_v, if_neg hm]
theorem sh_e0 {f : Nat → Int32} {A : Nat} {p : Nat → Nat} {n : Nat} (hT : sN_ p n = 0) : se_v f (fun _ => 0) n = se_v f (fun k => nI (sh_ A p n k)) n := by
  funext m
  by_cases hm : m < n
  · simp only [se_v, if_pos hm, sh_0 hT]; rfl
  · simp only [se_v, if_neg hm]
theorem ln_ne {T : Nat} (h : 0 < T) (hb : T < 2 ^ 63) : ¬ lN T = 0 := fun z => by
  have h2 := (pk_lEQ (a := T) (b := 0) hb (by omega)).mp z
  omega
theorem ln_z {T : Nat} (h : ¬ lN 0 < lN T) (hb : T < 2 ^ 63) : T = 0 := by
  apply Decidable.byContradiction
  intro z
  exact h ((pk_lLT (by omega) hb).mpr (by omega))

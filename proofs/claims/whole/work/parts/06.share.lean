/-! SHARES: counts, ranks, exact parts -/
def cn_ (P : Nat → Bool) : Nat → Nat
  | 0 => 0
  | n + 1 => cn_ P n + (if P n = true then 1 else 0)
theorem cn_s (P : Nat → Bool) (n : Nat) : cn_ P (n + 1) = cn_ P n + (if P n = true then 1 else 0) := rfl
theorem cn_le (P : Nat → Bool) (n : Nat) : cn_ P n ≤ n := by
  induction n with
  | zero => exact Nat.le_refl 0
  | succ n ih => rw [cn_s]; split <;> omega
theorem cn_c {P Q : Nat → Bool} {n : Nat} (h : ∀ m, m < n → P m = Q m) : cn_ P n = cn_ Q n := by
  induction n with
  | zero => rfl
  | succ n ih => rw [cn_s, cn_s, ih (fun m hm => h m (by omega)), h n (by omega)]
theorem cn_mono {P Q : Nat → Bool} {n : Nat} (h : ∀ m, m < n → P m = true → Q m = true) : cn_ P n ≤ cn_ Q n := by
  induction n with
  | zero => exact Nat.le_refl 0
  | succ n ih =>
    have h1 := ih (fun m hm => h m (by omega))
    have h2 := h n (by omega)
    rw [cn_s, cn_s]
    by_cases hp : P n = true
    · rw [if_pos hp, if_pos (h2 hp)]; omega
    · rw [if_neg hp]; split <;> omega
theorem cn_lt {P Q : Nat → Bool} {n : Nat} (h : ∀ m, m < n → P m = true → Q m = true) {k : Nat} (hk : k < n) (h1 : ¬ P k = true) (h2 : Q k = true) : cn_ P n < cn_ Q n := by
  induction n with
  | zero => omega
  | succ n ih =>
    rw [cn_s, cn_s]
    by_cases e : k = n
    · subst e
      have h3 := cn_mono (n := k) (fun m hm => h m (by omega))
      rw [if_neg h1, if_pos h2]; omega
    · have h3 := ih (fun m hm => h m (by omega)) (by omega)
      have h4 := h n (by omega)
      by_cases hp : P n = true
      · rw [if_pos hp, if_pos (h4 hp)]; omega
      · rw [if_neg hp]; split <;> omega
theorem cn_one {P : Nat → Bool} {n : Nat} (h : ∀ a b, a < n → b < n → P a = true → P b = true → a = b) : cn_ P n ≤ 1 := by
  induction n with
  | zero => exact Nat.zero_le 1
  | succ n ih =>
    rw [cn_s]
    by_cases hp : P n = true
    · have h0 : cn_ P n = 0 := by
        have h2 : cn_ P n = cn_ (fun _ => false) n := cn_c (fun m hm => by
          cases hq : P m with
          | false => rfl
          | true => exact absurd (h m n (by omega) (by omega) hq hp) (by omega))
        have h3 : ∀ n, cn_ (fun _ => false) n = 0 := by
          intro n
          induction n with
          | zero => rfl
          | succ n ih => rw [cn_s, ih]; rfl
        rw [h2, h3]
      rw [h0, if_pos hp]; exact Nat.le_refl 1
    · rw [if_neg hp]; exact ih (fun a b ha hb => h a b (by omega) (by omega))
theorem cn_ex {P : Nat → Bool} {n : Nat} (h : 0 < cn_ P n) : ∃ k, k < n ∧ P k = true := by
  induction n with
  | zero => exact absurd h (Nat.lt_irrefl 0)
  | succ n ih =>
    by_cases hp : P n = true
    · exact ⟨n, by omega, hp⟩
    · rw [cn_s, if_neg hp] at h
      obtain ⟨k, h1, h2⟩ := ih (by omega)
      exact ⟨k, by omega, h2⟩
theorem cn_or {P Q S : Nat → Bool} {n : Nat} (h : ∀ m, m < n → (S m = true ↔ (P m = true ∨ Q m = true)) ∧ ¬ (P m = true ∧ Q m = true)) : cn_ S n = cn_ P n + cn_ Q n := by
  induction n with
  | zero => rfl
  | succ n ih =>
    have h1 := ih (fun m hm => h m (by omega))
    obtain ⟨h2, h3⟩ := h n (by omega)
    rw [cn_s, cn_s, cn_s, h1]
    by_cases hp : P n = true
    · have hq : ¬ Q n = true := fun z => h3 ⟨hp, z⟩
      rw [if_pos hp, if_neg hq, if_pos (h2.mpr (Or.inl hp))]; omega
    · by_cases hq : Q n = true
      · rw [if_neg hp, if_pos hq, if_pos (h2.mpr (Or.inr hq))]; omega
      · rw [if_neg hp, if_neg hq, if_neg (fun z => (h2.mp z).elim hp hq)]; omega
/-- m stands ahead of i: a greater rest, or the same and a lesser place -/
def ah_ (r : Nat → Nat) (m i : Nat) : Bool := decide (r i < r m ∨ (r m = r i ∧ m < i))
def rk_ (r : Nat → Nat) (n i : Nat) : Nat := cn_ (fun m => ah_ r m i) n
theorem ah_t {r : Nat → Nat} {a b c : Nat} (h1 : ah_ r a b = true) (h2 : ah_ r b c = true) : ah_ r a c = true := by
  simp only [ah_, decide_eq_true_eq] at *
  omega
theorem ah_n (r : Nat → Nat) (a : Nat) : ¬ ah_ r a a = true := by simp [ah_]
theorem ah_o {r : Nat → Nat} {a b : Nat} (h : ¬ a = b) : ah_ r a b = true ∨ ah_ r b a = true := by
  simp only [ah_, decide_eq_true_eq]
  omega
theorem rk_lt {r : Nat → Nat} {n a b : Nat} (ha : a < n) (h : ah_ r a b = true) : rk_ r n a < rk_ r n b :=
  cn_lt (fun _ _ hm => ah_t hm h) ha (ah_n r a) h
theorem rk_inj {r : Nat → Nat} {n a b : Nat} (ha : a < n) (hb : b < n) (h : rk_ r n a = rk_ r n b) : a = b := by
  apply Decidable.byContradiction
  intro hne
  rcases ah_o (r := r) hne with z | z
  · have := rk_lt ha z; omega
  · have := rk_lt hb z; omega
theorem cn_all (n : Nat) : cn_ (fun _ => true) n = n := by
  induction n with
  | zero => rfl
  | succ n ih => rw [cn_s, ih]; rfl
theorem rk_n {r : Nat → Nat} {n i : Nat} (hi : i < n) : rk_ r n i < n := by
  have h := cn_lt (P := fun m => ah_ r m i) (Q := fun _ => true) (n := n) (fun _ _ _ => rfl) hi (ah_n r i) rfl
  rw [cn_all] at h
  exact h
theorem rk_cs (r : Nat → Nat) (n j : Nat) : cn_ (fun m => decide (rk_ r n m < j + 1)) n = cn_ (fun m => decide (rk_ r n m < j)) n + cn_ (fun m => decide (rk_ r n m = j)) n :=
  cn_or (fun m _ => ⟨by simp only [decide_eq_true_eq]; omega, by simp only [decide_eq_true_eq]; omega⟩)
theorem rk_c1 (r : Nat → Nat) (n j : Nat) : cn_ (fun m => decide (rk_ r n m = j)) n ≤ 1 :=
  cn_one (fun a b ha hb h1 h2 => by simp only [decide_eq_true_eq] at h1 h2; exact rk_inj ha hb (h1.trans h2.symm))
theorem rk_cd (r : Nat → Nat) (n : Nat) : ∀ k j, j + k = n → j ≤ cn_ (fun m => decide (rk_ r n m < j)) n := by
  intro k
  induction k with
  | zero =>
    intro j hj
    have h1 : cn_ (fun m => decide (rk_ r n m < j)) n = cn_ (fun _ => true) n := cn_c (fun m hm => by
      have := rk_n (r := r) hm
      simp only [decide_eq_true_eq]; omega)
    rw [h1, cn_all]; omega
  | succ k ih =>
    intro j hj
    have h1 := ih (j + 1) (by omega)
    rw [rk_cs] at h1
    have h2 := rk_c1 r n j
    omega
theorem rk_cu (r : Nat → Nat) (n : Nat) : ∀ j, cn_ (fun m => decide (rk_ r n m < j)) n ≤ j := by
  intro j
  induction j with
  | zero =>
    have h1 : cn_ (fun m => decide (rk_ r n m < 0)) n = cn_ (fun _ => false) n := cn_c (fun m _ => by simp)
    have h3 : ∀ n, cn_ (fun _ => false) n = 0 := by
      intro n
      induction n with
      | zero => rfl
      | succ n ih => rw [cn_s, ih]; rfl
    rw [h1, h3]; exact Nat.le_refl 0
  | succ j ih => rw [rk_cs]; have := rk_c1 r n j; omega
theorem rk_cj {r : Nat → Nat} {n j : Nat} (hj : j ≤ n) : cn_ (fun m => decide (rk_ r n m < j)) n = j :=
  Nat.le_antisymm (rk_cu r n j) (rk_cd r n (n - j) j (by omega))
theorem rk_at {r : Nat → Nat} {n j : Nat} (hj : j < n) : ∃ k, k < n ∧ rk_ r n k = j := by
  have h1 := rk_cj (r := r) (n := n) (j := j) (by omega)
  have h2 := rk_cj (r := r) (n := n) (j := j + 1) (by omega)
  rw [rk_cs, h1] at h2
  obtain ⟨k, h3, h4⟩ := cn_ex (P := fun m => decide (rk_ r n m = j)) (n := n) (by omega)
  exact ⟨k, h3, by simpa using h4⟩
/-- the first greatest -/
def am_ (f : Nat → Int64) : Nat → Nat
  | 0 => 0
  | n + 1 => if f (am_ f n) < f n then n else am_ f n
theorem am_s (f : Nat → Int64) (n : Nat) : am_ f (n + 1) = if f (am_ f n) < f n then n else am_ f n := rfl
theorem am_lt (f : Nat → Int64) (n : Nat) : am_ f n ≤ n ∧ (0 < n → am_ f n < n) := by
  induction n with
  | zero => exact ⟨Nat.le_refl 0, fun h => absurd h (Nat.lt_irrefl 0)⟩
  | succ n ih => rw [am_s]; split <;> constructor <;> omega
theorem am_1 (f : Nat → Int64) : am_ f 1 = 0 := by
  rw [am_s]
  show (if f 0 < f 0 then 0 else 0) = 0
  split <;> rfl
theorem am_is {f : Nat → Int64} {n k : Nat} (hk : k < n) (h : ∀ m, m < n → ¬ m = k → f m < f k ∨ (f m = f k ∧ k < m)) : am_ f n = k := by
  have key : ∀ d, k + 1 + d ≤ n → am_ f (k + 1 + d) = k := by
    intro d
    induction d with
    | zero =>
      intro _
      show am_ f (k + 1) = k
      rw [am_s]
      rcases Nat.eq_zero_or_pos k with e | e
      · subst e
        show (if f 0 < f 0 then 0 else 0) = 0
        split <;> rfl
      · have h1 := (am_lt f k).2 e
        rcases h _ (by omega) (by omega : ¬ am_ f k = k) with z | z
        · rw [if_pos z]
        · omega
    | succ d ih =>
      intro hd
      show am_ f (k + 1 + d + 1) = k
      rw [am_s, ih (by omega)]
      rcases h (k + 1 + d) (by omega) (by omega) with z | z
      · rw [if_neg (Int64.not_lt.mpr (Int64.le_of_lt z))]
      · rw [if_neg (by rw [z.1]; exact Int64.lt_irrefl)]
  have := key (n - (k + 1)) (by omega)
  rwa [show k + 1 + (n - (k + 1)) = n by omega] at this
/-- the rests as they stand behind j gifts -/
def rj_ (r : Nat → Nat) (n j : Nat) (k : Nat) : Int64 := if rk_ r n k < j then -1 else lN (r k)
theorem am_rj {r : Nat → Nat} {f : Nat → Int64} {n j k : Nat} (hf : ∀ m, m < n → f m = rj_ r n j m) (hr : ∀ m, m < n → r m < 2 ^ 62) (hk : k < n) (hj : rk_ r n k = j) : am_ f n = k := by
  refine am_is hk (fun m hm hne => ?_)
  have hneg : ∀ x : Nat, x < 2 ^ 62 → (-1 : Int64) < lN x := by
    intro x hx
    apply Int64.lt_iff_toInt_lt.mpr
    rw [pk_lT (by omega)]
    have : (-1 : Int64).toInt = -1 := by decide
    omega
  rw [hf m hm, hf k hk]
  unfold rj_
  rw [if_neg (show ¬ rk_ r n k < j by omega)]
  by_cases h1 : rk_ r n m < j
  · rw [if_pos h1]; exact Or.inl (hneg _ (hr k hk))
  · rw [if_neg h1]
    have h2 : ah_ r k m = true := by
      rcases ah_o (r := r) hne with z | z
      · have := rk_lt hm z; omega
      · exact z
    simp only [ah_, decide_eq_true_eq] at h2
    rcases h2 with z | z
    · exact Or.inl ((pk_lLT (by have := hr m hm; omega) (by have := hr k hk; omega)).mpr z)
    · exact Or.inr ⟨by rw [z.1], z.2⟩
/-- sums -/
theorem sN_s (f : Nat → Nat) (n : Nat) : sN_ f (n + 1) = sN_ f n + f n := rfl
theorem sN_add (f g : Nat → Nat) (n : Nat) : sN_ (fun k => f k + g k) n = sN_ f n + sN_ g n := by
  induction n with
  | zero => rfl
  | succ n ih => rw [sN_s, sN_s, sN_s, ih]; omega
theorem sN_mul (a : Nat) (f : Nat → Nat) (n : Nat) : sN_ (fun k => a * f k) n = a * sN_ f n := by
  induction n with
  | zero => rfl
  | succ n ih => rw [sN_s, sN_s, ih, Nat.mul_add]
theorem sN_le {f : Nat → Nat} {n i : Nat} (hi : i < n) : f i ≤ sN_ f n := by
  induction n with
  | zero => omega
  | succ n ih =>
    rw [sN_s]
    by_cases e : i = n
    · subst e; omega
    · have := ih (by omega); omega
theorem sN_mono {f g : Nat → Nat} {n : Nat} (h : ∀ k, k < n → f k ≤ g k) : sN_ f n ≤ sN_ g n := by
  induction n with
  | zero => exact Nat.le_refl 0
  | succ n ih => rw [sN_s, sN_s]; have := ih (fun k hk => h k (by omega)); have := h n (by omega); omega
theorem sN_const (a n : Nat) : sN_ (fun _ => a) n = n * a := by
  induction n with
  | zero => simp [sN_]
  | succ n ih => rw [sN_s, ih, Nat.add_mul]; omega
theorem sN_bd {f : Nat → Nat} {n b : Nat} (h : ∀ k, k < n → f k ≤ b) : sN_ f n ≤ n * b := by
  rw [← sN_const]; exact sN_mono h
theorem sN_pre {f : Nat → Nat} {n m : Nat} (h : n ≤ m) : sN_ f n ≤ sN_ f m := by
  induction m with
  | zero => have : n = 0 := by omega
            subst this; exact Nat.le_refl _
  | succ m ih =>
    by_cases e : n = m + 1
    · subst e; exact Nat.le_refl _
    · rw [sN_s]; have := ih (by omega); omega
theorem sN_cn (P : Nat → Bool) (n : Nat) : sN_ (fun k => if P k = true then 1 else 0) n = cn_ P n := by
  induction n with
  | zero => rfl
  | succ n ih => rw [sN_s, cn_s, ih]
/-- whole parts, rests, what is left -/
def qo_ (A : Nat) (p : Nat → Nat) (T k : Nat) : Nat := A * p k / T
def re_ (A : Nat) (p : Nat → Nat) (T k : Nat) : Nat := A * p k % T
def lf_ (A : Nat) (p : Nat → Nat) (n : Nat) : Nat := A - sN_ (qo_ A p (sN_ p n)) n
/-- THE SHARE of i among n -/
def sh_ (A : Nat) (p : Nat → Nat) (n i : Nat) : Nat := if sN_ p n = 0 then 0 else qo_ A p (sN_ p n) i + (if rk_ (re_ A p (sN_ p n)) n i < lf_ A p n then 1 else 0)
theorem qo_sum (A : Nat) (p : Nat → Nat) (n : Nat) : sN_ p n * sN_ (qo_ A p (sN_ p n)) n + sN_ (re_ A p (sN_ p n)) n = A * sN_ p n := by
  rw [← sN_mul, ← sN_add, ← sN_mul]
  exact sN_c (fun k _ => Nat.div_add_mod _ _)
theorem qo_le {A : Nat} {p : Nat → Nat} {n : Nat} (hT : 0 < sN_ p n) : sN_ (qo_ A p (sN_ p n)) n ≤ A := by
  have h := qo_sum A p n
  have h2 : sN_ p n * sN_ (qo_ A p (sN_ p n)) n ≤ sN_ p n * A := by rw [Nat.mul_comm (sN_ p n) A]; omega
  exact Nat.le_of_mul_le_mul_left h2 hT
theorem lf_sum {A : Nat} {p : Nat → Nat} {n : Nat} (hT : 0 < sN_ p n) : sN_ p n * lf_ A p n = sN_ (re_ A p (sN_ p n)) n := by
  have h := qo_sum A p n
  unfold lf_
  rw [Nat.mul_sub, Nat.mul_comm (sN_ p n) A]; omega
theorem lf_pos {A : Nat} {p : Nat → Nat} {n : Nat} (hT : 0 < sN_ p n) : lf_ A p n ≤ cn_ (fun k => decide (0 < re_ A p (sN_ p n) k)) n := by
  have h1 := lf_sum (A := A) hT
  have h2 : sN_ (re_ A p (sN_ p n)) n ≤ sN_ (fun k => sN_ p n * (if decide (0 < re_ A p (sN_ p n) k) = true then 1 else 0)) n := by
    refine sN_mono (fun k _ => ?_)
    have : re_ A p (sN_ p n) k < sN_ p n := Nat.mod_lt _ hT
    by_cases e : 0 < re_ A p (sN_ p n) k
    · simp [e]; omega
    · simp [e]; omega
  rw [sN_mul, sN_cn, ← h1] at h2
  exact Nat.le_of_mul_le_mul_left h2 hT
theorem lf_le {A : Nat} {p : Nat → Nat} {n : Nat} (hT : 0 < sN_ p n) : lf_ A p n ≤ n := Nat.le_trans (lf_pos hT) (cn_le _ _)
/-- the shares are the whole -/
theorem sh_sum {A : Nat} {p : Nat → Nat} {n : Nat} (hT : 0 < sN_ p n) : sN_ (sh_ A p n) n = A := by
  have h0 : ¬ sN_ p n = 0 := by omega
  have h1 : sN_ (sh_ A p n) n = sN_ (fun i => qo_ A p (sN_ p n) i + (if decide (rk_ (re_ A p (sN_ p n)) n i < lf_ A p n) = true then 1 else 0)) n := sN_c (fun k _ => by simp only [sh_, if_neg h0, decide_eq_true_eq])
  rw [h1, sN_add, sN_cn, rk_cj (lf_le hT)]
  have := qo_le (A := A) hT
  unfold lf_
  omega
theorem sh_z {A : Nat} {p : Nat → Nat} {n i : Nat} (hp : p i = 0) : sh_ A p n i = 0 := by
  unfold sh_
  split
  · rfl
  · rename_i h0
    have hT : 0 < sN_ p n := by omega
    have h1 : qo_ A p (sN_ p n) i = 0 := by simp [qo_, hp]
    have h2 : re_ A p (sN_ p n) i = 0 := by simp [re_, hp]
    have h3 : cn_ (fun k => decide (0 < re_ A p (sN_ p n) k)) n ≤ rk_ (re_ A p (sN_ p n)) n i := cn_mono (fun m _ hm => by
      simp only [ah_, decide_eq_true_eq] at *
      rw [h2]; exact Or.inl hm)
    have h4 := lf_pos (A := A) hT
    rw [h1, if_neg (by omega)]
theorem sh_0 {A : Nat} {p : Nat → Nat} {n i : Nat} (h : sN_ p n = 0) : sh_ A p n i = 0 := by simp [sh_, h]
theorem sh_le {A : Nat} {p : Nat → Nat} {n i : Nat} (hi : i < n) : sh_ A p n i ≤ A := by
  by_cases h : sN_ p n = 0
  · rw [sh_0 h]; exact Nat.zero_le A
  · have := sN_le (f := sh_ A p n) hi
    rwa [sh_sum (by omega)] at this
theorem sh_a0 {p : Nat → Nat} {n i : Nat} (hi : i < n) : sh_ 0 p n i = 0 := Nat.le_zero.mp (sh_le hi)

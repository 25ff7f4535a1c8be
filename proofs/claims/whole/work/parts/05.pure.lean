/-! numbers and rows of numbers -/
def sI_ (f : Nat → Int32) : Nat → Int32
  | 0 => 0
  | n + 1 => sI_ f n + f n
def sN_ (f : Nat → Nat) : Nat → Nat
  | 0 => 0
  | n + 1 => sN_ f n + f n
def ad_v (f g : Nat → Int32) (n : Nat) : Nat → Int32 := fun j => if j < n then f j + g j else f j
def se_v (f g : Nat → Int32) (n : Nat) : Nat → Int32 := fun j => if j < n then g j else f j
theorem sI_0 (f : Nat → Int32) : sI_ f 0 = 0 := rfl
theorem sI_s (f : Nat → Int32) (n : Nat) : sI_ f n + f n = sI_ f (n + 1) := rfl
theorem sI_c {f g : Nat → Int32} {n : Nat} (h : ∀ j, j < n → f j = g j) : sI_ f n = sI_ g n := by
  induction n with
  | zero => rfl
  | succ n ih => show sI_ f n + f n = sI_ g n + g n; rw [ih (fun j hj => h j (by omega)), h n (by omega)]
theorem sN_c {f g : Nat → Nat} {n : Nat} (h : ∀ j, j < n → f j = g j) : sN_ f n = sN_ g n := by
  induction n with
  | zero => rfl
  | succ n ih => show sN_ f n + f n = sN_ g n + g n; rw [ih (fun j hj => h j (by omega)), h n (by omega)]
theorem ad_0 (f g : Nat → Int32) : f = ad_v f g 0 := by funext j; simp [ad_v]
theorem se_0 (f g : Nat → Int32) : f = se_v f g 0 := by funext j; simp [se_v]
theorem ad_i (f g : Nat → Int32) (n : Nat) : ad_v f g n n = f n := by simp [ad_v]
theorem ad_s (f g : Nat → Int32) (n : Nat) : upd (ad_v f g n) n (ad_v f g n n + g n) = ad_v f g (n + 1) := by
  funext j
  by_cases h : j = n
  · subst h; simp [upd, ad_v]
  · have e : (j < n) = (j < n + 1) := by apply propext; omega
    simp [upd, h, ad_v, e]
theorem se_s (f g : Nat → Int32) (n : Nat) : upd (se_v f g n) n (g n) = se_v f g (n + 1) := by
  funext j
  by_cases h : j = n
  · subst h; simp [upd, se_v]
  · have e : (j < n) = (j < n + 1) := by apply propext; omega
    simp [upd, h, se_v, e]
theorem up_i (f : Nat → Int32) (k : Nat) (x : Int32) : upd f k x k = x := pk_us
theorem up_n (f : Nat → Int32) (k j : Nat) (x : Int32) (h : ¬ j = k) : upd f k x j = f j := pk_un h
/-- an Int32 within bounds is a natural number -/
theorem ix_le {x : Int32} {M : Int32} {n : Nat} (hM : M.toInt = (n : Int)) (h : 0 ≤ x ∧ x ≤ M) : ∃ z : Nat, z < n + 1 ∧ x = nI z := by
  obtain ⟨j, h1, h2⟩ := nI_of2 (n := n) hM (Int32.not_lt.mpr h.1) h.2
  exact ⟨j, by omega, h2⟩
theorem ix_lt {x : Int32} {N : Nat} (hN : N < 2 ^ 31) (h : 0 ≤ x ∧ x < nI N) : ∃ z : Nat, z < N ∧ x = nI z := by
  obtain ⟨j, h1, h2⟩ := nI_of (Int32.not_lt.mpr h.1)
  refine ⟨j, ?_, h2⟩
  have h3 := h.2
  rw [h2] at h3
  exact (nI_ltI h1 hN).mp h3
theorem tn_nI {n : Nat} (h : n < 2 ^ 31) : (nI n).toNatClampNeg = n := nI_clamp h
theorem se_x {f g : Nat → Int32} {n : Nat} {x : Int32} (h : g n = x) : upd (se_v f g n) n x = se_v f g (n + 1) := by rw [← h]; exact se_s f g n
theorem se_k {f g : Nat → Int32} {n : Nat} (h : g n = f n) : se_v f g n = se_v f g (n + 1) := by
  funext j
  by_cases e : j = n
  · subst e; simp [se_v, h]
  · have e2 : (j < n) = (j < n + 1) := by apply propext; omega
    simp [se_v, e2]
theorem se_i (f g : Nat → Int32) (n : Nat) : se_v f g n n = f n := by simp [se_v]
/-- what is due at a height is taken away, account by account -/
def dz_ (f : Nat → Int32) (h : Nat) : Nat → Nat → Int32
  | 0 => f
  | n + 1 => upd (dz_ f h n) (n * 110 + h) 0
theorem dz_r (f : Nat → Int32) {h : Nat} (hh : h < 110) (n : Nat) : ∀ k, n ≤ k → dz_ f h n (k * 110 + h) = f (k * 110 + h) := by
  induction n with
  | zero => intro k _; rfl
  | succ n ih => intro k hk; show upd (dz_ f h n) (n * 110 + h) 0 (k * 110 + h) = _; rw [up_n _ _ _ _ (by omega)]; exact ih k (by omega)
def st_a (sa la : Nat → Int32) (h : Int32) (j : Nat) : Int32 := if sa j = 3 ∧ la j = h then 0 else if sa j = 1 then 2 else sa j
def st_b (sa la : Nat → Int32) (h : Int32) (j : Nat) : Int32 := if sa j = 3 ∧ la j = h then -2 else la j

/-! a new height: rewards, the next set -/
theorem rw_1 {h : Nat} {wt al : Nat → Int32} {bb J B : Nat → Nat} {f t i r : Int32} {kf kt : Nat} (hu : up_P h f t) (ef : f.toNatClampNeg = kf) (et : t.toNatClampNeg = kt) (hp : PL_ (my_ wt al bb) J B kf kt) (hr : r = wa_ J B kf i) : rw_way h wt al bb f t i r := by
  unfold rw_way
  rw [if_pos hu]
  subst ef; subst et
  exact ⟨J, B, hp, hr⟩
theorem rw_0 {h : Nat} {wt al : Nat → Int32} {bb : Nat → Nat} {f t i : Int32} (hu : ¬ up_P h f t) : rw_way h wt al bb f t i (-1) := by
  unfold rw_way
  rw [if_neg hu]
theorem sr_n : ∀ n, n < 32 → ((nI n &&& 31).toBitVec.smod 32).toNat = n := by decide +kernel
theorem po_s {a k : Nat} (ha : a ≤ 10000) (hk : k ≤ 30) : nI a >>> (nI k &&& 31) = nI (a / 2 ^ k) := pk_shrN (by omega) _ k (sr_n k (by omega))
theorem po_0 {a k : Nat} (ha : a ≤ 10000) (hk : 30 < k) : a / 2 ^ k = 0 := by
  apply Nat.div_eq_of_lt
  have h1 : 2 ^ 14 ≤ 2 ^ k := Nat.pow_le_pow_right (by omega) (by omega)
  omega
theorem po_le {a k : Nat} (ha : a ≤ 10000) : a / 2 ^ k ≤ 10000 := Nat.le_trans (Nat.div_le_self _ _) ha
def pn_ (b : Nat → Int32) (k kept : Nat) (g : Nat → Nat) : Nat → Int32 := ad_v (upd b k (b k + nI kept)) (fun j => nI (g j)) 10
def pw_ (b : Nat → Int32) (kk cc S ww xx : Nat → Nat) : Nat → Nat → Int32
  | 0 => b
  | n + 1 => if ww n = 0 then pw_ b kk cc S ww xx n else pn_ (pw_ b kk cc S ww xx n) (kk n) (S n * cc n / 100) (sh_ (S n - S n * cc n / 100) (fun a => xx (n * 10 + a)) 10)
theorem pw_s (b : Nat → Int32) (kk cc S ww xx : Nat → Nat) (n : Nat) : pw_ b kk cc S ww xx (n + 1) = if ww n = 0 then pw_ b kk cc S ww xx n else pn_ (pw_ b kk cc S ww xx n) (kk n) (S n * cc n / 100) (sh_ (S n - S n * cc n / 100) (fun a => xx (n * 10 + a)) 10) := rfl
theorem pn_z {b : Nat → Int32} {k c s : Nat} {p : Nat → Nat} (hs : s = 0) : pn_ b k (s * c / 100) (sh_ (s - s * c / 100) p 10) = b := by
  subst hs
  funext j
  have e1 : 0 * c / 100 = 0 := by simp
  rw [e1]
  show (if j < 10 then upd b k (b k + nI 0) j + nI (sh_ (0 - 0) p 10 j) else upd b k (b k + nI 0) j) = b j
  have e2 : upd b k (b k + nI 0) = b := by
    funext m
    by_cases h : m = k
    · subst h; rw [up_i, nI_0]; simp
    · rw [up_n _ _ _ _ h]
  rw [e2]
  split
  · rename_i hj
    rw [show (0 - 0 : Nat) = 0 from rfl, sh_a0 hj, nI_0]; simp
  · rfl
theorem pw_n {b : Nat → Int32} {kk cc S ww xx : Nat → Nat} {n : Nat} (hs : ww n = 0 → S n = 0) : pn_ (pw_ b kk cc S ww xx n) (kk n) (S n * cc n / 100) (sh_ (S n - S n * cc n / 100) (fun a => xx (n * 10 + a)) 10) = pw_ b kk cc S ww xx (n + 1) := by
  rw [pw_s]
  split
  · rename_i h; exact pn_z (hs h)
  · rfl
theorem pw_to {b : Nat → Int32} {kk cc S ww xx : Nat → Nat} {n : Nat} : ∀ d, (∀ m, n ≤ m → m < n + d → ww m = 0) → pw_ b kk cc S ww xx (n + d) = pw_ b kk cc S ww xx n := by
  intro d
  induction d with
  | zero => intro _; rfl
  | succ d ih => intro h; show pw_ b kk cc S ww xx (n + d + 1) = _; rw [pw_s, if_pos (h _ (by omega) (by omega))]; exact ih (fun m h1 h2 => h m h1 (by omega))
theorem pw_8 {b : Nat → Int32} {kk cc S ww xx : Nat → Nat} {n : Nat} (hn : n ≤ 8) (h : ∀ m, n ≤ m → m < 8 → ww m = 0) : pw_ b kk cc S ww xx n = pw_ b kk cc S ww xx 8 := by
  have := pw_to (b := b) (kk := kk) (cc := cc) (S := S) (ww := ww) (xx := xx) (n := n) (8 - n) (fun m h1 h2 => h m h1 (by omega))
  rw [show n + (8 - n) = 8 by omega] at this
  exact this.symm
theorem sN_z {f : Nat → Nat} {n : Nat} (h : sN_ f n = 0) : ∀ m, m < n → f m = 0 := fun m hm => by have := sN_le (f := f) hm; omega
theorem sN_0 {f : Nat → Nat} {n : Nat} (h : ∀ m, m < n → f m = 0) : sN_ f n = 0 := by
  have h1 := sN_c (f := f) (g := fun _ => 0) (n := n) h
  rw [h1, sN_const]; simp
theorem sN_to {f : Nat → Nat} {n m : Nat} (hn : n ≤ m) (h : ∀ k, n ≤ k → k < m → f k = 0) : sN_ f n = sN_ f m := by
  induction m with
  | zero => have : n = 0 := by omega
            subst this; rfl
  | succ m ih =>
    by_cases e : n = m + 1
    · subst e; rfl
    · rw [sN_s, h m (by omega) (by omega), Nat.add_zero]; exact ih (by omega) (fun k h1 h2 => h k h1 (by omega))
def rv_ (rw : Nat → Int32) (h : Nat) (S : Nat → Nat) : Nat → Int32 := fun j => if h * 8 ≤ j ∧ j < h * 8 + 8 then nI (S (j - h * 8)) else rw j
theorem rv_e (g rw : Nat → Int32) (h : Nat) (S : Nat → Nat) : va_cpy (se_v g (fun k => nI (S k)) 8) rw 0 (h * 8 + 0) 8 = rv_ rw h S := by
  funext j
  unfold va_cpy rv_
  by_cases hj : h * 8 ≤ j ∧ j < h * 8 + 8
  · rw [if_pos hj, if_pos (show h * 8 + 0 ≤ j ∧ j < h * 8 + 0 + 8 from hj)]
    simp only [se_v]
    rw [if_pos (by omega)]
    congr 2
    omega
  · rw [if_neg hj, if_neg (show ¬ (h * 8 + 0 ≤ j ∧ j < h * 8 + 0 + 8) from hj)]
theorem rv_i {rw : Nat → Int32} {h : Nat} {S : Nat → Nat} {i : Nat} (hi : i < 8) : rv_ rw h S (h * 8 + 0 + i) = nI (S i) := by
  unfold rv_
  rw [if_pos (by omega)]
  congr 2
  omega
theorem cp_e (f g : Nat → Int32) (n : Nat) : va_cpy f g 0 0 n = se_v g f n := by
  funext j
  unfold va_cpy se_v
  by_cases hj : j < n
  · rw [if_pos hj, if_pos (by omega)]; congr 1; omega
  · rw [if_neg hj, if_neg (by omega)]
theorem sI_n {f : Nat → Int32} {g : Nat → Nat} {n : Nat} (h : ∀ k, k < n → f k = nI (g k)) : sI_ f n = nI (sN_ g n) := by
  induction n with
  | zero => rfl
  | succ n ih => show sI_ f n + f n = _; rw [ih (fun k hk => h k (by omega)), h n (by omega), nI_add]; rfl
/-- the weight that a node comes to -/
def wv_ (sa fz : Nat → Int32) (kx : Nat → Nat) (b n : Nat) : Nat := if (sa n = 2 ∨ sa n = 3) ∧ fz n = 0 then (if b < sN_ (fun a => kx (n * 10 + a)) 10 then b else sN_ (fun a => kx (n * 10 + a)) 10) else 0
def wf_ (wt : Nat → Int32) (h : Nat) (wv : Nat → Nat) (i : Nat) : Nat → Int32 := fun j => if h * 8 ≤ j ∧ j < h * 8 + i then nI (wv (j - h * 8)) else wt j
def pb_ (wv : Nat → Nat) : Nat → Nat
  | 0 => 0
  | n + 1 => if wv n = 0 then pb_ wv n else pb_ wv n + 2 ^ n
theorem pb_s (wv : Nat → Nat) (n : Nat) : pb_ wv (n + 1) = if wv n = 0 then pb_ wv n else pb_ wv n + 2 ^ n := rfl
theorem pb_lt (wv : Nat → Nat) (n : Nat) : pb_ wv n < 2 ^ n := by
  induction n with
  | zero => exact Nat.one_pos
  | succ n ih => rw [pb_s, Nat.pow_succ]; split <;> omega
theorem wf_0 (wt : Nat → Int32) (h : Nat) (wv : Nat → Nat) : wt = wf_ wt h wv 0 := by
  funext j; unfold wf_; rw [if_neg (by omega)]
theorem wf_x {wt : Nat → Int32} {h : Nat} {wv : Nat → Nat} {i : Nat} : upd (wf_ wt h wv i) (h * 8 + i) (nI (wv i)) = wf_ wt h wv (i + 1) := by
  funext j
  by_cases e : j = h * 8 + i
  · subst e
    rw [up_i]; unfold wf_; rw [if_pos (by omega)]; congr 2; omega
  · rw [up_n _ _ _ _ e]; unfold wf_
    have e2 : (h * 8 ≤ j ∧ j < h * 8 + i) = (h * 8 ≤ j ∧ j < h * 8 + (i + 1)) := by apply propext; omega
    simp only [e2]
theorem wf_k {wt : Nat → Int32} {h : Nat} {wv : Nat → Nat} {i : Nat} (hw : wv i = 0) (h0 : wt (h * 8 + i) = 0) : wf_ wt h wv i = wf_ wt h wv (i + 1) := by
  rw [← wf_x]
  funext j
  by_cases e : j = h * 8 + i
  · subst e
    rw [up_i]; unfold wf_; rw [if_neg (by omega), h0, hw]; rfl
  · rw [up_n _ _ _ _ e]
theorem pos_n {m : Nat} (hm : m < 2 ^ 31) : (0 : Int32) < nI m ↔ ¬ m = 0 := by
  rw [show (0 : Int32) = nI 0 from rfl, nI_ltI (by omega) hm]; omega
theorem wf_s {wt : Nat → Int32} {h : Nat} {wv : Nat → Nat} {i m : Nat} (hm : wv i = m) (hb : m < 2 ^ 31) (h0 : wt (h * 8 + i) = 0) : (if 0 < nI m then upd (wf_ wt h wv i) (h * 8 + i) (nI m) else wf_ wt h wv i) = wf_ wt h wv (i + 1) := by
  subst hm
  by_cases e : wv i = 0
  · rw [if_neg (fun z => (pos_n hb).mp z e)]; exact wf_k e h0
  · rw [if_pos ((pos_n hb).mpr e)]; exact wf_x
theorem al_s {al : Nat → Int32} {h : Nat} {wv : Nat → Nat} {i m : Nat} (hm : wv i = m) (hb : m < 2 ^ 31) : (if 0 < nI m then upd (upd al h (nI (sN_ wv i))) h (upd al h (nI (sN_ wv i)) h + nI m) else upd al h (nI (sN_ wv i))) = upd al h (nI (sN_ wv (i + 1))) := by
  subst hm
  rw [sN_s]
  by_cases e : wv i = 0
  · rw [if_neg (fun z => (pos_n hb).mp z e), e, Nat.add_zero]
  · rw [if_pos ((pos_n hb).mpr e), up_uu, up_i, nI_add]
theorem or_0 : ∀ n, n < 8 → ∀ b, b < 2 ^ n → (nI b ||| ((1 : Int32) <<< (nI n &&& 31))) = nI (b + 2 ^ n) := by decide +kernel
theorem br_s {br : Nat → Int32} {h : Nat} {wv : Nat → Nat} {i m : Nat} (hi : i < 8) (hm : wv i = m) (hb : m < 2 ^ 31) : (if 0 < nI m then upd (upd br h (nI (pb_ wv i))) h (upd br h (nI (pb_ wv i)) h ||| ((1 : Int32) <<< (nI i &&& 31))) else upd br h (nI (pb_ wv i))) = upd br h (nI (pb_ wv (i + 1))) := by
  subst hm
  rw [pb_s]
  by_cases e : wv i = 0
  · rw [if_neg (fun z => (pos_n hb).mp z e), if_pos e]
  · rw [if_pos ((pos_n hb).mpr e), up_uu, up_i, if_neg e, or_0 i hi _ (pb_lt wv i)]
theorem up_same {f : Nat → Int32} {k : Nat} {x : Int32} (h : f k = x) : f = upd f k x := by
  funext j
  by_cases e : j = k
  · subst e; rw [up_i, h]
  · rw [up_n _ _ _ _ e]
theorem wv_le {sa fz : Nat → Int32} {kx : Nat → Nat} {b n M : Nat} (h : sN_ (fun a => kx (n * 10 + a)) 10 ≤ M) : wv_ sa fz kx b n ≤ M := by
  unfold wv_; split
  · split <;> omega
  · omega
theorem wv_c {sa fz : Nat → Int32} {kx : Nat → Nat} {b n : Nat} (h : (sa n = 2 ∨ sa n = 3) ∧ fz n = 0) : wv_ sa fz kx b n = if b < sN_ (fun a => kx (n * 10 + a)) 10 then b else sN_ (fun a => kx (n * 10 + a)) 10 := by unfold wv_; rw [if_pos h]
theorem wv_z {sa fz : Nat → Int32} {kx : Nat → Nat} {b n : Nat} (h : ¬ ((sa n = 2 ∨ sa n = 3) ∧ fz n = 0)) : wv_ sa fz kx b n = 0 := by unfold wv_; rw [if_neg h]
theorem mn_n {a b : Nat} {x y : Int32} (hx : x = nI a) (hy : y = nI b) (ha : a < 2 ^ 31) (hb : b < 2 ^ 31) : (if y < x then y else x) = nI (if b < a then b else a) := by
  subst hx; subst hy
  by_cases e : b < a
  · rw [if_pos e, if_pos ((nI_ltI hb ha).mpr e)]
  · rw [if_neg e, if_neg (fun z => e ((nI_ltI hb ha).mp z))]

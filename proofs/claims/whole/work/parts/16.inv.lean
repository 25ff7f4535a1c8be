/-! what holds of the state between calls, and that a new height keeps it -/
theorem sN_app (f : Nat → Nat) (m k : Nat) : sN_ f (m + k) = sN_ f m + sN_ (fun a => f (m + a)) k := by
  induction k with
  | zero => rfl
  | succ k ih => show sN_ f (m + k) + f (m + k) = _; rw [ih, sN_s]; omega
theorem sN_dbl (f : Nat → Nat) (k n : Nat) : sN_ f (n * k) = sN_ (fun m => sN_ (fun a => f (m * k + a)) k) n := by
  induction n with
  | zero => simp [sN_]
  | succ n ih => rw [Nat.add_mul, Nat.one_mul, sN_app, ih, sN_s]
theorem sN_blk (f : Nat → Nat) {k n m : Nat} (hn : n < m) : sN_ (fun a => f (n * k + a)) k ≤ sN_ f (m * k) := by
  rw [sN_dbl]; exact sN_le (f := fun m => sN_ (fun a => f (m * k + a)) k) hn
theorem sN_upd {f : Nat → Int32} {n k : Nat} {x : Int32} (hk : k < n) : sN_ (fun j => tn_X (upd f k x j)) n + tn_X (f k) = sN_ (fun j => tn_X (f j)) n + tn_X x := by
  induction n with
  | zero => omega
  | succ n ih =>
    rw [sN_s, sN_s]
    by_cases e : k = n
    · subst e
      rw [up_i, sN_c (f := fun j => tn_X (upd f k x j)) (g := fun j => tn_X (f j)) (fun j hj => by rw [up_n _ _ _ _ (by omega)])]
      omega
    · rw [up_n _ _ _ _ (by omega)]
      have := ih (by omega)
      omega
theorem sN_one {n k x : Nat} (hk : k < n) : sN_ (fun j => if j = k then x else 0) n = x := by
  induction n with
  | zero => omega
  | succ n ih =>
    rw [sN_s]
    by_cases e : k = n
    · subst e
      rw [if_pos rfl, sN_0 (fun m hm => if_neg (by omega))]; omega
    · rw [if_neg (fun z => e z.symm), ih (by omega)]; omega
theorem tn_lt (x : Int32) : tn_X x < 2 ^ 31 := by
  by_cases h : x < 0
  · have : x.toNatClampNeg = 0 := by
      have h1 := Int32.lt_iff_toInt_lt.mp h
      show x.toInt.toNat = 0
      have h2 : (0 : Int32).toInt = 0 := by decide
      omega
    show x.toNatClampNeg < _
    omega
  · obtain ⟨j, h1, h2⟩ := nI_of h
    show x.toNatClampNeg < _
    rw [h2, nI_clamp h1]; exact h1
theorem tn_0 : tn_X 0 = 0 := sb_cl0
/-- a natural number -/
def nn_ (x : Int32) : Prop := x = nI (tn_X x)
theorem nn_n {n : Nat} (h : n < 2 ^ 31) : nn_ (nI n) := by unfold nn_; rw [show tn_X (nI n) = n from nI_clamp h]
theorem nn_ad {x y : Int32} (hx : nn_ x) (hy : nn_ y) (h : tn_X x + tn_X y < 2 ^ 31) : nn_ (x + y) ∧ tn_X (x + y) = tn_X x + tn_X y := by
  have e : x + y = nI (tn_X x + tn_X y) := by rw [← nI_add, ← hx, ← hy]
  have e2 : tn_X (x + y) = tn_X x + tn_X y := by rw [e]; exact nI_clamp h
  refine ⟨?_, e2⟩
  unfold nn_
  rw [e2]; exact e
theorem nn_sb {x y : Int32} (hx : nn_ x) (hy : nn_ y) (h : y ≤ x) : nn_ (x - y) ∧ tn_X (x - y) + tn_X y = tn_X x := by
  have hl : tn_X y ≤ tn_X x := by
    rw [hx, hy] at h
    exact (nI_leI (tn_lt y) (tn_lt x)).mp h
  have e : x - y = nI (tn_X x - tn_X y) := by rw [← pk_sub hl, ← hx, ← hy]
  have e2 : tn_X (x - y) = tn_X x - tn_X y := by rw [e]; exact nI_clamp (by have := tn_lt x; omega)
  refine ⟨?_, by omega⟩
  unfold nn_
  rw [e2]; exact e
def IR_ (R : Nat → Int32) : Prop := (nn_ (R 0) ∧ 1 ≤ tn_X (R 0) ∧ tn_X (R 0) ≤ 9) ∧ (nn_ (R 1) ∧ tn_X (R 1) ≤ 10000) ∧ (nn_ (R 2) ∧ 1 ≤ tn_X (R 2) ∧ tn_X (R 2) ≤ 50) ∧ (nn_ (R 3) ∧ 1 ≤ tn_X (R 3) ∧ tn_X (R 3) ≤ 1000000)
def IN_ (N : Nat) (kp ct : Nat → Int32) : Prop := N ≤ 8 ∧ ∀ j, j < N → (nn_ (kp j) ∧ tn_X (kp j) < 10) ∧ (nn_ (ct j) ∧ tn_X (ct j) ≤ 100)
def IM_ (h : Nat) (fd rd : Int32) (bal stk due : Nat → Int32) : Prop := (∀ j, j < 10 → nn_ (bal j)) ∧ (∀ j, j < 80 → nn_ (stk j)) ∧ (∀ j, j < 1100 → nn_ (due j)) ∧ nn_ fd ∧ nn_ rd ∧ tn_X fd ≤ 1000000 ∧ tn_X rd ≤ 10000 * h ∧ sN_ (fun j => tn_X (bal j)) 10 + sN_ (fun j => tn_X (stk j)) 80 + sN_ (fun j => tn_X (due j)) 1100 ≤ tn_X fd + tn_X rd
def IK_ (N : Nat) (stk due : Nat → Int32) : Prop := (∀ j, N * 10 ≤ j → j < 80 → stk j = 0) ∧ (∀ a, a < 10 → due (a * 110) = 0)
def IW_ (h N : Nat) (wt fx : Nat → Int32) : Prop := (∀ q n, q ≤ 100 → n < 8 → nn_ (wt (q * 8 + n))) ∧ (∀ q, q ≤ 100 → sN_ (fun n => tn_X (wt (q * 8 + n))) 8 ≤ 2000000) ∧ (∀ q n, h < q → q ≤ 100 → n < 8 → wt (q * 8 + n) = 0) ∧ (∀ q n, q ≤ 100 → N ≤ n → n < 8 → wt (q * 8 + n) = 0) ∧ (∀ j, j < 80 → nn_ (fx j) ∧ tn_X (fx j) ≤ 2000000) ∧ (∀ n, n < 8 → 0 < tn_X (wt (h * 8 + n)) → 0 < sN_ (fun a => tn_X (fx (n * 10 + a))) 10)
def IC_ (wt al br : Nat → Int32) : Prop := ∀ q, q ≤ 100 → al q = nI (sN_ (fun n => tn_X (wt (q * 8 + n))) 8) ∧ br q = nI (pb_ (fun n => tn_X (wt (q * 8 + n))) 8)
def IL_ (N : Nat) (sa la : Nat → Int32) : Prop := ∀ j, j < N → ¬ sa j = 3 → la j = -2
def ID_ (N : Nat) (sa la dm : Nat → Int32) : Prop := ∀ j, j < N → sa j = 3 → dm j = la j
def IP_ (pots rw : Nat → Int32) : Prop := ∀ q, q ≤ 100 → pots q = sI_ (fun n => rw (q * 8 + n)) 8
/-- a step of one height -/
def sx_S (R : Nat → Int32) (h : Nat) (wt : Nat → Int32) : Nat → Nat := sh_ (tn_X (R 1) / 2 ^ (h / tn_X (R 2))) (fun n => tn_X (wt (h * 8 + n))) 8
def sx_rd (R : Nat → Int32) (h : Nat) (wt : Nat → Int32) (rd : Int32) : Int32 := rd + nI (sN_ (sx_S R h wt) 8)
def sx_pay (R kp ct : Nat → Int32) (h : Nat) (wt fx bal : Nat → Int32) : Nat → Int32 := pw_ bal (fun j => tn_X (kp j)) (fun j => tn_X (ct j)) (sx_S R h wt) (fun n => tn_X (wt (h * 8 + n))) (fun j => tn_X (fx j)) 8
def sx_bal (R kp ct : Nat → Int32) (h : Nat) (wt fx due bal : Nat → Int32) : Nat → Int32 := ad_v (sx_pay R kp ct h wt fx bal) (fun a => due (a * 110 + (h + 1))) 10
def sx_rw (R : Nat → Int32) (h : Nat) (wt rw : Nat → Int32) : Nat → Int32 := if sN_ (fun n => tn_X (wt (h * 8 + n))) 8 = 0 then rw else rv_ rw h (sx_S R h wt)
def sx_sa (N h : Nat) (sa la : Nat → Int32) : Nat → Int32 := se_v sa (st_a sa la (nI (h + 1))) N
def sx_la (N h : Nat) (sa la : Nat → Int32) : Nat → Int32 := se_v la (st_b sa la (nI (h + 1))) N
def sx_wv (R fz stk : Nat → Int32) (N h : Nat) (sa la : Nat → Int32) : Nat → Nat := wv_ (sx_sa N h sa la) fz (fun j => tn_X (stk j)) (tn_X (R 3))
def sx_wt (R fz stk : Nat → Int32) (N h : Nat) (sa la wt : Nat → Int32) : Nat → Int32 := wf_ wt (h + 1) (sx_wv R fz stk N h sa la) N
theorem sx_Sle {R : Nat → Int32} {h : Nat} {wt : Nat → Int32} (hR : IR_ R) : sN_ (sx_S R h wt) 8 ≤ 10000 := by
  have h1 := po_le (a := tn_X (R 1)) (k := h / tn_X (R 2)) hR.2.1.2
  unfold sx_S
  by_cases e : sN_ (fun n => tn_X (wt (h * 8 + n))) 8 = 0
  · rw [sN_0 (fun m _ => sh_0 e)]; omega
  · rw [sh_sum (by omega)]; exact h1
/-- the pay of one node -/
theorem pn_sum {b : Nat → Int32} {k c am : Nat} {p : Nat → Nat} (hb : ∀ j, j < 10 → nn_ (b j)) (hk : k < 10) (hc : c ≤ 100) (hp : 0 < sN_ p 10) (hs : sN_ (fun j => tn_X (b j)) 10 + am < 2 ^ 31) : (∀ j, j < 10 → nn_ (pn_ b k (am * c / 100) (sh_ (am - am * c / 100) p 10) j)) ∧ sN_ (fun j => tn_X (pn_ b k (am * c / 100) (sh_ (am - am * c / 100) p 10) j)) 10 = sN_ (fun j => tn_X (b j)) 10 + am := by
  have hke : am * c / 100 ≤ am := by
    have : am * c ≤ am * 100 := Nat.mul_le_mul_left am hc
    omega
  generalize am * c / 100 = kept at hke
  have hg := sh_sum (A := am - kept) hp
  have hg1 : ∀ j, j < 10 → sh_ (am - kept) p 10 j ≤ am - kept := fun j hj => sh_le hj
  generalize sh_ (am - kept) p 10 = g at hg hg1
  have hbj : ∀ j, j < 10 → tn_X (b j) ≤ sN_ (fun j => tn_X (b j)) 10 := fun j hj => sN_le (f := fun j => tn_X (b j)) hj
  have pt : ∀ j, j < 10 → pn_ b k kept g j = nI (tn_X (b j) + (if j = k then kept else 0) + g j) := by
    intro j hj
    show (if j < 10 then upd b k (b k + nI kept) j + nI (g j) else upd b k (b k + nI kept) j) = _
    rw [if_pos hj]
    by_cases e : j = k
    · subst e
      rw [up_i, if_pos rfl, ← nI_add, ← nI_add, ← hb j hj]
    · rw [up_n _ _ _ _ e, if_neg e, Nat.add_zero, ← nI_add, ← hb j hj]
  have bd : ∀ j, j < 10 → tn_X (b j) + (if j = k then kept else 0) + g j < 2 ^ 31 := by
    intro j hj
    have h1 := hbj j hj
    have h2 := hg1 j hj
    split <;> omega
  refine ⟨fun j hj => by rw [pt j hj]; exact nn_n (bd j hj), ?_⟩
  rw [sN_c (f := fun j => tn_X (pn_ b k kept g j)) (g := fun j => tn_X (b j) + (if j = k then kept else 0) + g j) (fun j hj => by rw [pt j hj]; exact nI_clamp (bd j hj))]
  rw [sN_add (fun j => tn_X (b j) + (if j = k then kept else 0)) g, sN_add (fun j => tn_X (b j)), sN_one hk, hg]
  omega
theorem pw_sum {b : Nat → Int32} {kk cc S ww xx : Nat → Nat} (hb : ∀ j, j < 10 → nn_ (b j)) {n : Nat} (hk : ∀ m, m < n → ¬ ww m = 0 → kk m < 10 ∧ cc m ≤ 100 ∧ 0 < sN_ (fun a => xx (m * 10 + a)) 10) (hz : ∀ m, m < n → ww m = 0 → S m = 0) (hs : sN_ (fun j => tn_X (b j)) 10 + sN_ S n < 2 ^ 31) :
    (∀ j, j < 10 → nn_ (pw_ b kk cc S ww xx n j)) ∧ sN_ (fun j => tn_X (pw_ b kk cc S ww xx n j)) 10 = sN_ (fun j => tn_X (b j)) 10 + sN_ S n := by
  induction n with
  | zero => exact ⟨hb, rfl⟩
  | succ n ih =>
    rw [sN_s S n] at hs
    obtain ⟨h1, h2⟩ := ih (fun m hm => hk m (by omega)) (fun m hm => hz m (by omega)) (by omega)
    rw [pw_s, sN_s S n]
    by_cases e : ww n = 0
    · rw [if_pos e, hz n (by omega) e]; exact ⟨h1, by omega⟩
    · rw [if_neg e]
      obtain ⟨g1, g2, g3⟩ := hk n (by omega) e
      have := pn_sum h1 g1 g2 g3 (am := S n) (by omega)
      exact ⟨this.1, by rw [this.2, h2]; omega⟩
theorem ad_sum {f g : Nat → Int32} {n : Nat} (hf : ∀ j, j < n → nn_ (f j)) (hg : ∀ j, j < n → nn_ (g j)) (hs : sN_ (fun j => tn_X (f j)) n + sN_ (fun j => tn_X (g j)) n < 2 ^ 31) : (∀ j, j < n → nn_ (ad_v f g n j)) ∧ sN_ (fun j => tn_X (ad_v f g n j)) n = sN_ (fun j => tn_X (f j)) n + sN_ (fun j => tn_X (g j)) n := by
  have pt : ∀ j, j < n → ad_v f g n j = f j + g j := fun j hj => by simp [ad_v, hj]
  have ad : ∀ j, j < n → nn_ (f j + g j) ∧ tn_X (f j + g j) = tn_X (f j) + tn_X (g j) := fun j hj => nn_ad (hf j hj) (hg j hj) (by
    have h1 := sN_le (f := fun j => tn_X (f j)) hj
    have h2 := sN_le (f := fun j => tn_X (g j)) hj
    omega)
  refine ⟨fun j hj => by rw [pt j hj]; exact (ad j hj).1, ?_⟩
  rw [sN_c (f := fun j => tn_X (ad_v f g n j)) (g := fun j => tn_X (f j) + tn_X (g j)) (fun j hj => by rw [pt j hj]; exact (ad j hj).2), sN_add]
theorem dz_sum {f : Nat → Int32} {h : Nat} (hh : h < 110) : ∀ n, n ≤ 10 → sN_ (fun j => tn_X (dz_ f h n j)) 1100 + sN_ (fun a => tn_X (f (a * 110 + h))) n = sN_ (fun j => tn_X (f j)) 1100 := by
  intro n
  induction n with
  | zero =>
    intro _
    rw [show sN_ (fun a => tn_X (f (a * 110 + h))) 0 = 0 from rfl, Nat.add_zero]
    exact sN_c (fun j _ => rfl)
  | succ n ih =>
    intro hn
    have h1 := ih (by omega)
    have h2 := sN_upd (f := dz_ f h n) (n := 1100) (k := n * 110 + h) (x := 0) (by omega)
    rw [dz_r f hh n n (Nat.le_refl n), tn_0] at h2
    rw [sN_s (fun a => tn_X (f (a * 110 + h))) n]
    show sN_ (fun j => tn_X (upd (dz_ f h n) (n * 110 + h) 0 j)) 1100 + _ = _
    omega
theorem dz_nn {f : Nat → Int32} {h m : Nat} (hf : ∀ j, j < m → nn_ (f j)) : ∀ n, ∀ j, j < m → nn_ (dz_ f h n j) := by
  intro n
  induction n with
  | zero => exact hf
  | succ n ih =>
    intro j hj
    show nn_ (upd (dz_ f h n) (n * 110 + h) 0 j)
    by_cases e : j = n * 110 + h
    · subst e; rw [up_i]; exact nn_n (n := 0) (by omega)
    · rw [up_n _ _ _ _ e]; exact ih j hj
theorem dz_k {f : Nat → Int32} {h j : Nat} (hj : ∀ a, ¬ j = a * 110 + h) : ∀ n, dz_ f h n j = f j := by
  intro n
  induction n with
  | zero => rfl
  | succ n ih => show upd (dz_ f h n) (n * 110 + h) 0 j = _; rw [up_n _ _ _ _ (hj n)]; exact ih
theorem sx_IM {R kp ct : Nat → Int32} {h N : Nat} {fd rd : Int32} {bal stk due wt fx : Nat → Int32} (hR : IR_ R) (hN : IN_ N kp ct) (hM : IM_ h fd rd bal stk due) (hW : IW_ h N wt fx) (hh : h < 100) : IM_ (h + 1) fd (sx_rd R h wt rd) (sx_bal R kp ct h wt fx due bal) stk (dz_ due (h + 1) 10) := by
  obtain ⟨b1, b2, b3, b4, b5, b6, b7, b8⟩ := hM
  obtain ⟨w1, w2, w3, w4, w5, w6⟩ := hW
  have hS := sx_Sle (h := h) (wt := wt) hR
  have hwz : ∀ m, tn_X (wt (h * 8 + m)) = 0 → sx_S R h wt m = 0 := fun m e => sh_z e
  have hp := pw_sum (b := bal) (kk := fun j => tn_X (kp j)) (cc := fun j => tn_X (ct j)) (S := sx_S R h wt) (ww := fun n => tn_X (wt (h * 8 + n))) (xx := fun j => tn_X (fx j)) b1 (n := 8) (fun m hm e => by
    have hmN : m < N := by
      apply Decidable.byContradiction
      intro z
      exact e (by rw [w4 h m (by omega) (by omega) hm]; exact tn_0)
    have hk := hN.2 m hmN
    exact ⟨hk.1.2, hk.2.2, w6 m hm (by have : ¬ tn_X (wt (h * 8 + m)) = 0 := e
                                       omega)⟩) (fun m _ e => hwz m e) (by omega)
  have hd : ∀ a, a < 10 → nn_ (due (a * 110 + (h + 1))) := fun a ha => b3 _ (by omega)
  have hz := dz_sum (f := due) (h := h + 1) (by omega) 10 (Nat.le_refl 10)
  have ha := ad_sum (f := sx_pay R kp ct h wt fx bal) (g := fun a => due (a * 110 + (h + 1))) (n := 10) hp.1 hd (by
    have e : sN_ (fun j => tn_X (sx_pay R kp ct h wt fx bal j)) 10 = sN_ (fun j => tn_X (bal j)) 10 + sN_ (sx_S R h wt) 8 := hp.2
    omega)
  have hr : nn_ (sx_rd R h wt rd) ∧ tn_X (sx_rd R h wt rd) = tn_X rd + sN_ (sx_S R h wt) 8 := by
    have e : tn_X (nI (sN_ (sx_S R h wt) 8)) = sN_ (sx_S R h wt) 8 := nI_clamp (by omega)
    have := nn_ad b5 (nn_n (n := sN_ (sx_S R h wt) 8) (by omega)) (by rw [e]; omega)
    rw [e] at this
    exact this
  refine ⟨ha.1, b2, dz_nn b3 10, b4, hr.1, b6, by rw [hr.2]; omega, ?_⟩
  have e : sN_ (fun j => tn_X (sx_pay R kp ct h wt fx bal j)) 10 = sN_ (fun j => tn_X (bal j)) 10 + sN_ (sx_S R h wt) 8 := hp.2
  have e2 := ha.2
  rw [hr.2]
  show sN_ (fun j => tn_X (ad_v (sx_pay R kp ct h wt fx bal) (fun a => due (a * 110 + (h + 1))) 10 j)) 10 + _ + _ ≤ _
  rw [e2, e]
  omega
theorem IM_tot {h : Nat} {fd rd : Int32} {bal stk due : Nat → Int32} (hM : IM_ h fd rd bal stk due) (hh : h ≤ 100) : sN_ (fun j => tn_X (stk j)) 80 ≤ 2000000 := by
  obtain ⟨b1, b2, b3, b4, b5, b6, b7, b8⟩ := hM
  omega
theorem sx_wvle {R fz stk : Nat → Int32} {N h n : Nat} {sa la : Nat → Int32} : sx_wv R fz stk N h sa la n ≤ sN_ (fun a => tn_X (stk (n * 10 + a))) 10 := wv_le (Nat.le_refl _)
theorem wf_q {wt : Nat → Int32} {h N q n : Nat} {wv : Nat → Nat} (hN : N ≤ 8) (hn : n < 8) (hq : ¬ q = h) : wf_ wt h wv N (q * 8 + n) = wt (q * 8 + n) := by
  unfold wf_; rw [if_neg (by omega)]
theorem wf_i {wt : Nat → Int32} {h N n : Nat} {wv : Nat → Nat} (hn : n < N) : wf_ wt h wv N (h * 8 + n) = nI (wv n) := by
  unfold wf_; rw [if_pos (by omega)]; congr 2; omega
theorem wf_o {wt : Nat → Int32} {h N n : Nat} {wv : Nat → Nat} (hn : N ≤ n) : wf_ wt h wv N (h * 8 + n) = wt (h * 8 + n) := by
  unfold wf_; rw [if_neg (by omega)]
theorem sx_IW {R fz : Nat → Int32} {h N : Nat} {fd rd : Int32} {bal stk due wt fx sa la : Nat → Int32} (hN : N ≤ 8) (hM : IM_ h fd rd bal stk due) (hW : IW_ h N wt fx) (hh : h < 100) : IW_ (h + 1) N (sx_wt R fz stk N h sa la wt) (se_v fx stk 80) := by
  have hst := IM_tot hM (by omega)
  obtain ⟨b1, b2, b3, b4, b5, b6, b7, b8⟩ := hM
  obtain ⟨w1, w2, w3, w4, w5, w6⟩ := hW
  have hv : ∀ n, n < 8 → sx_wv R fz stk N h sa la n ≤ 2000000 := fun n hn => Nat.le_trans sx_wvle (Nat.le_trans (sN_blk (fun j => tn_X (stk j)) (k := 10) (m := 8) hn) hst)
  have hval : ∀ n, n < 8 → tn_X (sx_wt R fz stk N h sa la wt ((h + 1) * 8 + n)) ≤ sx_wv R fz stk N h sa la n ∧ nn_ (sx_wt R fz stk N h sa la wt ((h + 1) * 8 + n)) := by
    intro n hn
    unfold sx_wt
    by_cases e : n < N
    · rw [wf_i e]
      have := hv n hn
      exact ⟨by rw [show tn_X (nI (sx_wv R fz stk N h sa la n)) = _ from nI_clamp (by omega)]; exact Nat.le_refl _, nn_n (by omega)⟩
    · rw [wf_o (by omega), w3 (h + 1) n (by omega) (by omega) hn]
      exact ⟨by rw [tn_0]; omega, nn_n (n := 0) (by omega)⟩
  refine ⟨fun q n hq hn => ?_, fun q hq => ?_, fun q n h1 hq hn => ?_, fun q n hq h1 hn => ?_, fun j hj => ?_, fun n hn hp => ?_⟩
  · by_cases e : q = h + 1
    · subst e; exact (hval n hn).2
    · show nn_ (wf_ wt (h + 1) _ N (q * 8 + n)); rw [wf_q hN hn e]; exact w1 q n hq hn
  · by_cases e : q = h + 1
    · subst e
      refine Nat.le_trans (sN_mono (g := fun n => sN_ (fun a => tn_X (stk (n * 10 + a))) 10) (fun n hn => Nat.le_trans (hval n hn).1 sx_wvle)) ?_
      rw [← sN_dbl (fun j => tn_X (stk j)) 10 8]; exact hst
    · rw [sN_c (g := fun n => tn_X (wt (q * 8 + n))) (fun n hn => by show tn_X (wf_ wt (h + 1) _ N (q * 8 + n)) = _; rw [wf_q hN hn e])]; exact w2 q hq
  · show wf_ wt (h + 1) _ N (q * 8 + n) = 0
    rw [wf_q hN hn (by omega)]; exact w3 q n (by omega) hq hn
  · show wf_ wt (h + 1) _ N (q * 8 + n) = 0
    by_cases e : q = h + 1
    · subst e; rw [wf_o h1]; exact w3 _ n (by omega) hq hn
    · rw [wf_q hN hn e]; exact w4 q n hq h1 hn
  · have e : se_v fx stk 80 j = stk j := by simp [se_v, hj]
    rw [e]
    exact ⟨b2 j hj, Nat.le_trans (sN_le (f := fun j => tn_X (stk j)) hj) hst⟩
  · have h1 := (hval n hn).1
    have h2 : sx_wv R fz stk N h sa la n ≤ sN_ (fun a => tn_X (stk (n * 10 + a))) 10 := sx_wvle
    rw [sN_c (g := fun a => tn_X (stk (n * 10 + a))) (fun a ha => by simp only [se_v]; rw [if_pos (by omega)])]
    omega
theorem pb_c {f g : Nat → Nat} {n : Nat} (h : ∀ m, m < n → f m = g m) : pb_ f n = pb_ g n := by
  induction n with
  | zero => rfl
  | succ n ih => rw [pb_s, pb_s, ih (fun m hm => h m (by omega)), h n (by omega)]
theorem pb_to {f : Nat → Nat} {n m : Nat} (hn : n ≤ m) (h : ∀ k, n ≤ k → k < m → f k = 0) : pb_ f n = pb_ f m := by
  induction m with
  | zero => have : n = 0 := by omega
            subst this; rfl
  | succ m ih =>
    by_cases e : n = m + 1
    · subst e; rfl
    · rw [pb_s, if_pos (h m (by omega) (by omega))]; exact ih (by omega) (fun k h1 h2 => h k h1 (by omega))
theorem sx_IC {R fz : Nat → Int32} {h N : Nat} {fd rd : Int32} {bal stk due wt fx sa la al br : Nat → Int32} (hN : N ≤ 8) (hM : IM_ h fd rd bal stk due) (hW : IW_ h N wt fx) (hC : IC_ wt al br) (hh : h < 100) : IC_ (sx_wt R fz stk N h sa la wt) (upd al (h + 1) (nI (sN_ (sx_wv R fz stk N h sa la) N))) (upd br (h + 1) (nI (pb_ (sx_wv R fz stk N h sa la) N))) := by
  have hst := IM_tot hM (by omega)
  obtain ⟨w1, w2, w3, w4, w5, w6⟩ := hW
  have hv : ∀ n, n < 8 → sx_wv R fz stk N h sa la n ≤ 2000000 := fun n hn => Nat.le_trans sx_wvle (Nat.le_trans (sN_blk (fun j => tn_X (stk j)) (k := 10) (m := 8) hn) hst)
  intro q hq
  by_cases e : q = h + 1
  · subst e
    rw [up_i, up_i]
    have h1 : ∀ m, m < N → sx_wv R fz stk N h sa la m = tn_X (sx_wt R fz stk N h sa la wt ((h + 1) * 8 + m)) := by
      intro m hm
      unfold sx_wt; rw [wf_i hm]
      have := hv m (by omega)
      exact (nI_clamp (by omega)).symm
    have h2 : ∀ k, N ≤ k → k < 8 → tn_X (sx_wt R fz stk N h sa la wt ((h + 1) * 8 + k)) = 0 := by
      intro k h3 h4
      unfold sx_wt; rw [wf_o h3, w3 (h + 1) k (by omega) (by omega) h4]; exact tn_0
    constructor
    · rw [← sN_to hN h2, sN_c h1]
    · rw [← pb_to hN h2, pb_c h1]
  · rw [up_n _ _ _ _ e, up_n _ _ _ _ e]
    have h1 : ∀ m, m < 8 → tn_X (sx_wt R fz stk N h sa la wt (q * 8 + m)) = tn_X (wt (q * 8 + m)) := fun m hm => by unfold sx_wt; rw [wf_q hN hm e]
    rw [sN_c h1, pb_c h1]
    exact hC q hq
theorem sx_IK {N h : Nat} {stk due : Nat → Int32} (hK : IK_ N stk due) (hh : h < 100) : IK_ N stk (dz_ due (h + 1) 10) := ⟨hK.1, fun a ha => by rw [dz_k (fun b => by omega)]; exact hK.2 a ha⟩
theorem sx_IL {N h : Nat} {sa la : Nat → Int32} (hL : IL_ N sa la) : IL_ N (sx_sa N h sa la) (sx_la N h sa la) := by
  intro j hj
  simp only [sx_sa, sx_la, se_v, if_pos hj, st_a, st_b]
  intro hn
  by_cases e : sa j = 3 ∧ la j = nI (h + 1)
  · rw [if_pos e]
  · rw [if_neg e] at hn ⊢
    by_cases e2 : sa j = 3
    · rw [if_neg (by rw [e2]; decide)] at hn; exact absurd e2 hn
    · exact hL j hj e2
theorem sx_ID {N h : Nat} {sa la dm : Nat → Int32} (hD : ID_ N sa la dm) : ID_ N (sx_sa N h sa la) (sx_la N h sa la) dm := by
  intro j hj
  simp only [sx_sa, sx_la, se_v, if_pos hj, st_a, st_b]
  intro hn
  by_cases e : sa j = 3 ∧ la j = nI (h + 1)
  · rw [if_pos e] at hn; exact absurd hn (by decide)
  · rw [if_neg e] at hn ⊢
    by_cases e2 : sa j = 1
    · rw [if_pos e2] at hn; exact absurd hn (by decide)
    · rw [if_neg e2] at hn; exact hD j hj hn

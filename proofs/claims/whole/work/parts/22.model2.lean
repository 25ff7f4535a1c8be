/-! the reference: shares, ways -/
theorem gj_0b (f : Nat → Int32) (A : Nat) (p : Nat → Nat) (n : Nat) : se_v f (fun k => nI (qo_ A p (sN_ p n) k)) n = gj_ f A p n 0 := by
  funext k
  by_cases h : k < n
  · simp [se_v, gj_, h]
  · simp [se_v, gj_, h]
theorem gj_k1 {f : Nat → Int32} {A : Nat} {p : Nat → Nat} {n i k : Nat} (hk : k < n) (h : rk_ (re_ A p (sN_ p n)) n k = i) : gj_ f A p n (i + 1) k = gj_ f A p n i k + 1 := by
  simp only [gj_, if_pos hk]
  rw [if_pos (by omega), if_neg (by omega)]
  exact (nI_1 _).symm
theorem gj_k0 {f : Nat → Int32} {A : Nat} {p : Nat → Nat} {n i k : Nat} (h : ¬ rk_ (re_ A p (sN_ p n)) n k = i) : gj_ f A p n (i + 1) k = gj_ f A p n i k := by
  by_cases hk : k < n
  · simp only [gj_, if_pos hk]
    rw [ic_ (show (rk_ (re_ A p (sN_ p n)) n k < i + 1) ↔ (rk_ (re_ A p (sN_ p n)) n k < i) from ⟨fun z => by omega, fun z => by omega⟩)]
  · simp only [gj_, if_neg hk]
theorem gj_nn {f : Nat → Int32} {A : Nat} {p : Nat → Nat} {n i : Nat} : se_v (gj_ f A p n i) (gj_ f A p n (i + 1)) n = gj_ f A p n (i + 1) := by
  funext j
  by_cases hj : j < n
  · simp only [se_v, if_pos hj]
  · simp only [se_v, if_neg hj, gj_]
theorem ah_1 {r : Nat → Nat} {m k : Nat} (h : r k < r m ∨ (r m = r k ∧ m < k)) : ah_ r m k = true := by simp only [ah_, decide_eq_true_eq]; exact h
theorem ah_0 {r : Nat → Nat} {m k : Nat} (h : ¬ (r k < r m ∨ (r m = r k ∧ m < k))) : ¬ ah_ r m k = true := by simp only [ah_, decide_eq_true_eq]; exact h
theorem ls_t {a b : Nat} (ha : a < 2 ^ 62) (hb : b < 2 ^ 62) : (lN a - lN b).toInt = (a : Int) - b := by
  rw [Int64.toInt_sub, pk_lT (by omega), pk_lT (by omega)]
  apply Int.bmod_eq_of_le <;> omega
theorem ls_gt {a b : Nat} (ha : a < 2 ^ 62) (hb : b < 2 ^ 62) : lN 0 < lN a - lN b ↔ b < a := by
  rw [Int64.lt_iff_toInt_lt, ls_t ha hb, pk_lT (by omega)]; omega
theorem ls_eq {a b : Nat} (ha : a < 2 ^ 62) (hb : b < 2 ^ 62) : lN a - lN b = lN 0 ↔ a = b := by
  rw [← Int64.toInt_inj, ls_t ha hb, pk_lT (by omega)]; omega
theorem re_lt {A : Nat} {p : Nat → Nat} {T k : Nat} (hT : 0 < T) : A * p k % T < T := Nat.mod_lt _ hT
theorem wf_y {wt : Nat → Int32} {h : Nat} {wv : Nat → Nat} {i : Nat} {x : Int32} (hx : x = nI (wv i)) : upd (wf_ wt h wv i) (h * 8 + i) x = wf_ wt h wv (i + 1) := by rw [hx]; exact wf_x
theorem pd_s (p k : Nat) : p / 2 ^ k / 2 = p / 2 ^ (k + 1) := by rw [Nat.div_div_eq_div_mul, Nat.pow_succ]
theorem pd_0 {p k m : Nat} (h : p / 2 ^ k = 0) (hk : k ≤ m) : p / 2 ^ m = 0 := by
  have h1 : p / 2 ^ m ≤ p / 2 ^ k := Nat.div_le_div_left (Nat.pow_le_pow_right (by omega) hk) (Nat.pow_pos (by omega))
  rw [h] at h1
  exact Nat.le_zero.mp h1
def bc_ (j b : Nat) : Int32 := if j = 200 then -2 else nI b
theorem bc_n {j b : Nat} (h : ¬ j = 200) : bc_ j b = nI b := if_neg h
theorem bc_e {j b : Nat} (hb : b < 2 ^ 30) : bc_ j b = -2 ↔ j = 200 := by
  unfold bc_
  constructor
  · intro z
    apply Decidable.byContradiction
    intro q
    rw [if_neg q] at z
    have h1 : (nI b).toInt = (-2 : Int32).toInt := by rw [z]
    rw [nI_toInt (by omega)] at h1
    have h2 : (-2 : Int32).toInt = -2 := by decide
    omega
  · intro z; rw [if_pos z]
def pq_ (my : Nat → Nat → Prop) (J : Nat → Nat) (h v j b : Nat) : Prop := (j = 200 ∧ b = 0 ∧ ∀ w, h < w → w < v → J w < 200 → ¬ my h w) ∨ (h < b ∧ b < v ∧ J b < 200 ∧ my h b ∧ j = J b + 1 ∧ ∀ w, h < w → w < v → J w < 200 → my h w → J b < J w ∨ (J b = J w ∧ w ≤ b))
def ns_ (my : Nat → Nat → Prop) (J : Nat → Nat) (to h : Nat) (r : Int32) : Prop := ∃ j b, ps_ my J to h j b ∧ r = bc_ j b
theorem pq_0 (my : Nat → Nat → Prop) (J : Nat → Nat) (h : Nat) : pq_ my J h (h + 1) 200 0 := Or.inl ⟨rfl, rfl, fun w h1 h2 => by omega⟩
theorem pq_1 {my : Nat → Nat → Prop} {J : Nat → Nat} {h v j b : Nat} (hp : pq_ my J h v j b) (hv : h < v) (hs : J v < 200) (hs2 : j = 200 ∨ J v ≤ J b) (hm : my h v) (hb : b = 0 ∨ J b ≤ 100) : pq_ my J h (v + 1) (J v + 1) v := by
  refine Or.inr ⟨hv, by omega, hs, hm, rfl, fun w h1 h2 h3 h4 => ?_⟩
  by_cases e : w = v
  · subst e; omega
  · rcases hp with ⟨_, _, q⟩ | ⟨p1, _, q1, _, q2, q⟩
    · exact absurd h4 (q w h1 (by omega) h3)
    · have hJ : J v ≤ J b := by omega
      rcases q w h1 (by omega) h3 h4 with y | y <;> omega
theorem pq_2 {my : Nat → Nat → Prop} {J : Nat → Nat} {h v j b : Nat} (hp : pq_ my J h v j b) (hv : h < v) (hn : ¬ (J v < 200 ∧ my h v ∧ (j = 200 ∨ J v ≤ J b))) : pq_ my J h (v + 1) j b := by
  rcases hp with ⟨q0, q1, q⟩ | ⟨p1, p2, p3, p4, p5, q⟩
  · refine Or.inl ⟨q0, q1, fun w h1 h2 h3 h4 => ?_⟩
    by_cases e : w = v
    · subst e; exact hn ⟨h3, h4, Or.inl q0⟩
    · exact q w h1 (by omega) h3 h4
  · refine Or.inr ⟨p1, by omega, p3, p4, p5, fun w h1 h2 h3 h4 => ?_⟩
    by_cases e : w = v
    · subst e
      have : ¬ (J w ≤ J b) := fun z => hn ⟨h3, h4, Or.inr z⟩
      omega
    · exact q w h1 (by omega) h3 h4
theorem pq_e {my : Nat → Nat → Prop} {J : Nat → Nat} {to h v j b : Nat} (hp : pq_ my J h v j b) (hv : v = to + 1) : ns_ my J to h (bc_ j b) := by
  subst hv
  rcases hp with ⟨q0, q1, q⟩ | ⟨p1, p2, p3, p4, p5, q⟩
  · refine ⟨200, h, Or.inl ⟨rfl, rfl, fun v h1 h2 h3 => q v h1 (by omega) h3⟩, ?_⟩
    rw [q0]; rfl
  · exact ⟨j, b, Or.inr ⟨p1, by omega, p3, p4, p5, fun w h1 h2 h3 h4 => q w h1 (by omega) h3 h4⟩, rfl⟩
theorem pq_b {my : Nat → Nat → Prop} {J : Nat → Nat} {h v j b : Nat} (hp : pq_ my J h v j b) (hj : ¬ j = 200) : h < b ∧ b < v := by
  rcases hp with ⟨q0, _⟩ | ⟨p1, p2, _⟩
  · exact absurd q0 hj
  · exact ⟨p1, p2⟩
theorem pq_c {my : Nat → Nat → Prop} {J : Nat → Nat} {to h v j b : Nat} (hp : pq_ my J h v j b) (hv : v ≤ to + 1) (hJ : ∀ v, h < v → v ≤ to → J v = 200 ∨ J v + v ≤ to) (ht : to ≤ 100) : b ≤ 100 ∧ (b = 0 ∨ J b ≤ 100) ∧ (j = 200 ∨ j ≤ 101) := by
  rcases hp with ⟨q0, q1, _⟩ | ⟨p1, p2, p3, _, p5, _⟩
  · exact ⟨by omega, Or.inl q1, Or.inl q0⟩
  · rcases hJ b p1 (by omega) with z | z <;> exact ⟨by omega, by omega, by omega⟩
theorem pl_J {my : Nat → Nat → Prop} {J B : Nat → Nat} {k to : Nat} (hp : PL_ my J B k to) (hk : k ≤ to) (hJ : J k < 200) : ∀ n, n ≤ J k → J (it_ B k n) + n = J k := by
  intro n
  induction n with
  | zero => intro _; rfl
  | succ n ih =>
    intro hn
    have h1 := ih (by omega)
    have h2 := it_in hp hk n
    have h3 : ¬ it_ B k n = to := fun z => by rw [z, hp.1] at h1; omega
    rcases hp.2.2 _ h2.1 (by omega) with ⟨q0, _⟩ | ⟨p1, p2, p3, p4, p5, q⟩
    · omega
    · show J (B (it_ B k n)) + (n + 1) = J k
      omega
theorem nx_it {my : Nat → Nat → Prop} {J B : Nat → Nat} {k to n : Nat} {r : Int32} (hp : PL_ my J B k to) (hk : k ≤ to) (hJ : J k < 200) (hn : n < J k) (hr : ns_ my J to (it_ B k n) r) : r = nI (it_ B k (n + 1)) := by
  have h1 := pl_J hp hk hJ n (by omega)
  have h2 := it_in hp hk n
  have h3 : ¬ it_ B k n = to := fun z => by rw [z, hp.1] at h1; omega
  obtain ⟨j, b, h4, h5⟩ := hr
  have h6 := ps_u (fun v _ _ => rfl) (hp.2.2 _ h2.1 (by omega)) h4
  rw [h5, ← h6.1, ← h6.2, bc_n (by omega)]; rfl
theorem ps_j {my : Nat → Nat → Prop} {J : Nat → Nat} {to h j b : Nat} (hp : ps_ my J to h j b) : b ≤ to ∨ b = h := by
  rcases hp with ⟨_, q1, _⟩ | ⟨_, p2, _⟩
  · exact Or.inr q1
  · exact Or.inl p2
theorem ps_2 {my : Nat → Nat → Prop} {J : Nat → Nat} {to h j b : Nat} (hp : ps_ my J to h j b) (hj : ¬ j = 200) : h < b ∧ b ≤ to ∧ j = J b + 1 ∧ J b < 200 := by
  rcases hp with ⟨q0, _⟩ | ⟨p1, p2, p3, _, p5, _⟩
  · exact absurd q0 hj
  · exact ⟨p1, p2, p5, p3⟩
theorem tn_m1 : tn_X (-1) = 0 := by decide
theorem wi_c {i : Int32} (h : -1 ≤ i) : i = -1 ∨ ∃ z : Nat, z < 2 ^ 31 ∧ i = nI z := by
  by_cases e : i < 0
  · left
    apply Int32.toInt_inj.mp
    have h1 := Int32.le_iff_toInt_le.mp h
    have h2 := Int32.lt_iff_toInt_lt.mp e
    have h3 : (-1 : Int32).toInt = -1 := by decide
    have h4 : (0 : Int32).toInt = 0 := by decide
    omega
  · exact Or.inr (nI_of e)
theorem wi_1 {i : Int32} {k : Nat} (h : -1 ≤ i) (hk : k < 2 ^ 31) (hi : i ≤ nI k) : tn_X i ≤ k := by
  rcases wi_c h with e | ⟨z, h1, e⟩
  · subst e; rw [tn_m1]; omega
  · subst e
    rw [show tn_X (nI z) = z from nI_clamp h1]
    exact (nI_leI h1 hk).mp hi
theorem wi_0 {i : Int32} {k : Nat} (h : -1 ≤ i) (hk : k < 2 ^ 31) (hi : ¬ i ≤ nI k) : k < tn_X i := by
  rcases wi_c h with e | ⟨z, h1, e⟩
  · subst e
    refine absurd ?_ hi
    exact Int32.le_trans (by decide) (nI_pos' hk)
  · subst e
    rw [show tn_X (nI z) = z from nI_clamp h1]
    exact Nat.not_le.mp fun q => hi ((nI_leI h1 hk).mpr q)
theorem wi_J {i : Int32} {J : Nat} (h : -1 ≤ i ∧ i ≤ nI J) (hJ : J < 2 ^ 31) : tn_X i ≤ J := wi_1 h.1 hJ h.2
theorem wa_n {J B : Nat → Nat} {f : Nat} {i : Int32} (hJ : J f < 200) (hi : ¬ (-1 ≤ i ∧ i ≤ nI (J f))) : wa_ J B f i = -1 := by
  unfold wa_
  rw [if_neg (by omega), if_neg (fun z => hi ⟨by rw [z]; exact Int32.le_refl _, by rw [z]; exact Int32.le_trans (by decide) (nI_pos' (by omega))⟩), if_neg (fun z => hi ⟨Int32.le_trans (by decide) z.1, z.2⟩)]
theorem wa_m {J B : Nat → Nat} {f : Nat} (hJ : J f < 200) : wa_ J B f (-1) = nI (J f) := by
  unfold wa_
  rw [if_neg (by omega), if_pos rfl]
theorem wa_p {J B : Nat → Nat} {f : Nat} {i : Int32} (hJ : J f < 200) (hi : -1 ≤ i ∧ i ≤ nI (J f)) (h1 : ¬ i = -1) : wa_ J B f i = nI (it_ B f (tn_X i)) := by
  unfold wa_
  have h0 : 0 ≤ i := by
    rcases wi_c hi.1 with e | ⟨z, h2, e⟩
    · exact absurd e h1
    · subst e; exact nI_pos' h2
  rw [if_neg (by omega), if_neg h1, if_pos ⟨h0, hi.2⟩]

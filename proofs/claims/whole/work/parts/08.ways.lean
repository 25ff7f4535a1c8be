/-! WAYS: the best next height, plans -/
def my_ (wt al : Nat → Int32) (bb : Nat → Nat) (f t : Nat) : Prop := 2 * al t < 3 * wo_ wt t (bb t) 8 ∧ al f < 3 * wo_ wt f (bb t) 8
def jc_ (j : Nat) : Int32 := if j = 200 then -2 else nI j
def un_ (f : Nat → Nat) (k x : Nat) : Nat → Nat := fun j => if j = k then x else f j
theorem un_i (f : Nat → Nat) (k x : Nat) : un_ f k x k = x := by simp [un_]
theorem un_n {f : Nat → Nat} {k x j : Nat} (h : ¬ j = k) : un_ f k x j = f j := by simp [un_, h]
theorem jc_200 : jc_ 200 = -2 := rfl
theorem jc_n {j : Nat} (h : j < 200) : jc_ j = nI j := by unfold jc_; rw [if_neg (by omega)]
theorem jc_e {j : Nat} (h : j ≤ 200) : jc_ j = -2 ↔ j = 200 := by
  constructor
  · intro z
    apply Decidable.byContradiction
    intro q
    rw [jc_n (by omega)] at z
    have h1 : (nI j).toInt = (-2 : Int32).toInt := by rw [z]
    rw [nI_toInt (by omega)] at h1
    have h2 : (-2 : Int32).toInt = -2 := by decide
    omega
  · intro z; rw [z]; rfl
/-- the best next height b from h, j jumps in all: or none (200) -/
def ps_ (my : Nat → Nat → Prop) (J : Nat → Nat) (to h j b : Nat) : Prop := (j = 200 ∧ b = h ∧ ∀ v, h < v → v ≤ to → J v < 200 → ¬ my h v) ∨ (h < b ∧ b ≤ to ∧ J b < 200 ∧ my h b ∧ j = J b + 1 ∧ ∀ v, h < v → v ≤ to → J v < 200 → my h v → J b < J v ∨ (J b = J v ∧ v ≤ b))
/-- the same, of the heights above v alone -/
def pp_ (my : Nat → Nat → Prop) (J : Nat → Nat) (to h v j b : Nat) : Prop := (j = 200 ∧ b = h ∧ ∀ w, v < w → w ≤ to → J w < 200 → ¬ my h w) ∨ (v < b ∧ b ≤ to ∧ J b < 200 ∧ my h b ∧ j = J b + 1 ∧ ∀ w, v < w → w ≤ to → J w < 200 → my h w → J b < J w ∨ (J b = J w ∧ w ≤ b))
theorem pp_0 (my : Nat → Nat → Prop) (J : Nat → Nat) (to h : Nat) : pp_ my J to h to 200 h := Or.inl ⟨rfl, rfl, fun w h1 h2 => by omega⟩
theorem pp_1 {my : Nat → Nat → Prop} {J : Nat → Nat} {to h v j b : Nat} (hp : pp_ my J to h v j b) (hv : h < v) (hvt : v ≤ to) (hs : J v < 200) (hs2 : j = 200 ∨ J v + 1 < j) (hm : my h v) (hJ : ∀ v, h < v → v ≤ to → J v = 200 ∨ J v + v ≤ to) (ht : to ≤ 100) : pp_ my J to h (v - 1) (J v + 1) v := by
  refine Or.inr ⟨by omega, hvt, hs, hm, rfl, fun w h1 h2 h3 h4 => ?_⟩
  by_cases e : w = v
  · subst e; omega
  · rcases hp with ⟨_, _, q⟩ | ⟨_, _, q1, _, q2, q⟩
    · exact absurd h4 (q w (by omega) h2 h3)
    · rename_i p1 p2 p4
      have hb := hJ b (by omega) (by omega)
      rcases hs2 with z | z
      · rcases q w (by omega) h2 h3 h4 with y | y <;> omega
      · rcases q w (by omega) h2 h3 h4 with y | y <;> omega
theorem pp_2 {my : Nat → Nat → Prop} {J : Nat → Nat} {to h v j b : Nat} (hp : pp_ my J to h v j b) (hv : h < v) (hn : ¬ (J v < 200 ∧ (j = 200 ∨ J v + 1 < j) ∧ my h v)) : pp_ my J to h (v - 1) j b := by
  rcases hp with ⟨q0, q1, q⟩ | ⟨p1, p2, p3, p4, p5, q⟩
  · refine Or.inl ⟨q0, q1, fun w h1 h2 h3 h4 => ?_⟩
    by_cases e : w = v
    · subst e; exact hn ⟨h3, Or.inl q0, h4⟩
    · exact q w (by omega) h2 h3 h4
  · refine Or.inr ⟨by omega, p2, p3, p4, p5, fun w h1 h2 h3 h4 => ?_⟩
    by_cases e : w = v
    · subst e
      have : ¬ (J w + 1 < j) := fun z => hn ⟨h3, Or.inr z, h4⟩
      omega
    · exact q w (by omega) h2 h3 h4
theorem pp_e1 {my : Nat → Nat → Prop} {J : Nat → Nat} {to h v j b : Nat} (hp : pp_ my J to h v j b) (hv : v = h) : ps_ my J to h j b := by subst hv; exact hp
theorem pp_e2 {my : Nat → Nat → Prop} {J : Nat → Nat} {to h v j b : Nat} (hp : pp_ my J to h v j b) (hv : h ≤ v) (hj : j = 1) : ps_ my J to h j b := by
  rcases hp with ⟨q0, q1, q⟩ | ⟨p1, p2, p3, p4, p5, q⟩
  · omega
  · exact Or.inr ⟨by omega, p2, p3, p4, p5, fun w h1 h2 h3 h4 => by
      by_cases e : v < w
      · exact q w e h2 h3 h4
      · omega⟩
theorem pp_j {my : Nat → Nat → Prop} {J : Nat → Nat} {to h v j b : Nat} (hp : pp_ my J to h v j b) (hv : h ≤ v) (hJ : ∀ v, h < v → v ≤ to → J v = 200 ∨ J v + v ≤ to) (ht : to ≤ 100) : j = 200 ∨ (0 < j ∧ j ≤ 100) := by
  rcases hp with ⟨q0, q1, q⟩ | ⟨p1, p2, p3, p4, p5, q⟩
  · exact Or.inl q0
  · rcases hJ b (by omega) p2 with z | z <;> omega
theorem is_n {a b : Nat} {x y : Int32} (hx : x = jc_ a) (hy : y = jc_ b) (ha : a = 200 ∨ a ≤ 100) (hb : b = 200 ∨ b ≤ 100) : (¬ x = -2 ∧ (y = -2 ∨ x + 1 < y)) ↔ (a < 200 ∧ (b = 200 ∨ a + 1 < b)) := by
  subst hx; subst hy
  rw [jc_e (by omega), jc_e (by omega)]
  rcases ha with e | e
  · constructor
    · rintro ⟨h1, _⟩; exact absurd e h1
    · rintro ⟨h1, _⟩; omega
  · rcases hb with e2 | e2
    · constructor
      · rintro ⟨h1, _⟩; exact ⟨by omega, Or.inl e2⟩
      · rintro ⟨h1, _⟩; exact ⟨by omega, Or.inl e2⟩
    · rw [jc_n (j := a) (by omega), jc_n (j := b) (by omega), nI_1, nI_ltI (by omega) (by omega)]
      constructor
      · rintro ⟨h1, h2⟩; exact ⟨by omega, h2⟩
      · rintro ⟨h1, h2⟩; exact ⟨by omega, h2⟩
theorem jc_1 {j : Nat} (hj : j = 200 ∨ (0 < j ∧ j ≤ 100)) (h : jc_ j = 1) : j = 1 := by
  rcases hj with e | e
  · subst e; exact absurd h (by decide)
  · rw [jc_n (by omega)] at h
    exact (nI_eq (a := j) (b := 1) (by omega) (by omega)).mp h
/-- a plan of the heights from k on -/
def PL_ (my : Nat → Nat → Prop) (J B : Nat → Nat) (k to : Nat) : Prop := J to = 0 ∧ B to = to ∧ ∀ h, k ≤ h → h < to → ps_ my J to h (J h) (B h)
theorem pl_b {my : Nat → Nat → Prop} {J B : Nat → Nat} {k to : Nat} (hp : PL_ my J B k to) : ∀ n v, to - v ≤ n → k ≤ v → v ≤ to → J v = 200 ∨ J v + v ≤ to := by
  intro n
  induction n with
  | zero => intro v h1 _ h3; have : v = to := by omega
            subst this; rw [hp.1]; omega
  | succ n ih =>
    intro v h1 h2 h3
    by_cases e : v = to
    · subst e; rw [hp.1]; omega
    · rcases hp.2.2 v h2 (by omega) with ⟨q0, _⟩ | ⟨p1, p2, p3, p4, p5, q⟩
      · exact Or.inl q0
      · rcases ih (B v) (by omega) (by omega) p2 with z | z <;> omega
theorem ps_c {my : Nat → Nat → Prop} {J J2 : Nat → Nat} {to h j b : Nat} (hJ : ∀ v, h < v → v ≤ to → J2 v = J v) (hp : ps_ my J to h j b) : ps_ my J2 to h j b := by
  rcases hp with ⟨q0, q1, q⟩ | ⟨p1, p2, p3, p4, p5, q⟩
  · exact Or.inl ⟨q0, q1, fun v h1 h2 h3 => q v h1 h2 (by rw [← hJ v h1 h2]; exact h3)⟩
  · refine Or.inr ⟨p1, p2, by rw [hJ b p1 p2]; exact p3, p4, by rw [hJ b p1 p2]; exact p5, fun v h1 h2 h3 h4 => ?_⟩
    rw [hJ b p1 p2, hJ v h1 h2]
    exact q v h1 h2 (by rw [← hJ v h1 h2]; exact h3) h4
theorem pl_0 {my : Nat → Nat → Prop} {to : Nat} : PL_ my (fun _ => 0) (fun _ => to) to to := ⟨rfl, rfl, fun h h1 h2 => by omega⟩
theorem pl_s {my : Nat → Nat → Prop} {J B : Nat → Nat} {k to j b : Nat} (hp : PL_ my J B k to) (hk : 0 < k) (hkt : k ≤ to) (hs : ps_ my J to (k - 1) j b) : PL_ my (un_ J (k - 1) j) (un_ B (k - 1) b) (k - 1) to := by
  refine ⟨by rw [un_n (by omega)]; exact hp.1, by rw [un_n (by omega)]; exact hp.2.1, fun h h1 h2 => ?_⟩
  by_cases e : h = k - 1
  · subst e
    rw [un_i, un_i]
    exact ps_c (fun v h3 _ => un_n (by omega)) hs
  · rw [un_n e, un_n e]
    exact ps_c (fun v h3 _ => un_n (by omega)) (hp.2.2 h (by omega) h2)
/-- plans are alike -/
theorem ps_u {my : Nat → Nat → Prop} {J J2 : Nat → Nat} {to h j b j2 b2 : Nat} (hJ : ∀ v, h < v → v ≤ to → J2 v = J v) (hp : ps_ my J to h j b) (hq : ps_ my J2 to h j2 b2) : j = j2 ∧ b = b2 := by
  have hq := ps_c (J := J2) (J2 := J) (fun v h1 h2 => (hJ v h1 h2).symm) hq
  rcases hp with ⟨q0, q1, q⟩ | ⟨p1, p2, p3, p4, p5, q⟩
  · rcases hq with ⟨r0, r1, r⟩ | ⟨s1, s2, s3, s4, s5, r⟩
    · exact ⟨q0.trans r0.symm, q1.trans r1.symm⟩
    · exact absurd s4 (q b2 s1 s2 s3)
  · rcases hq with ⟨r0, r1, r⟩ | ⟨s1, s2, s3, s4, s5, r⟩
    · exact absurd p4 (r b p1 p2 p3)
    · have h1 := q b2 s1 s2 s3 s4
      have h2 := r b p1 p2 p3 p4
      have e : b = b2 := by omega
      subst e
      exact ⟨p5.trans s5.symm, rfl⟩
theorem pl_u {my : Nat → Nat → Prop} {J B J2 B2 : Nat → Nat} {k to : Nat} (hp : PL_ my J B k to) (hq : PL_ my J2 B2 k to) : ∀ n v, to - v ≤ n → k ≤ v → v ≤ to → J2 v = J v ∧ B2 v = B v := by
  intro n
  induction n with
  | zero => intro v h1 _ h3; have : v = to := by omega
            subst this; exact ⟨by rw [hp.1, hq.1], by rw [hp.2.1, hq.2.1]⟩
  | succ n ih =>
    intro v h1 h2 h3
    by_cases e : v = to
    · subst e; exact ⟨by rw [hp.1, hq.1], by rw [hp.2.1, hq.2.1]⟩
    · have hh := ps_u (fun w h4 h5 => (ih w (by omega) (by omega) h5).1) (hp.2.2 v h2 (by omega)) (hq.2.2 v h2 (by omega))
      exact ⟨hh.1.symm, hh.2.symm⟩
def it_ (B : Nat → Nat) (h : Nat) : Nat → Nat
  | 0 => h
  | k + 1 => B (it_ B h k)
theorem it_st {B : Nat → Nat} {h to : Nat} (hB : B to = to) {k : Nat} (hk : it_ B h k = to) : ∀ d, it_ B h (k + d) = to := by
  intro d
  induction d with
  | zero => exact hk
  | succ d ih => show B (it_ B h (k + d)) = to; rw [ih, hB]
theorem pl_B {my : Nat → Nat → Prop} {J B : Nat → Nat} {k to : Nat} (hp : PL_ my J B k to) {v : Nat} (h1 : k ≤ v) (h2 : v ≤ to) : v ≤ B v ∧ B v ≤ to := by
  by_cases e : v = to
  · subst e; rw [hp.2.1]; omega
  · rcases hp.2.2 v h1 (by omega) with ⟨_, q1, _⟩ | ⟨p1, p2, _⟩ <;> omega
theorem it_in {my : Nat → Nat → Prop} {J B : Nat → Nat} {k to : Nat} (hp : PL_ my J B k to) (hk : k ≤ to) (n : Nat) : k ≤ it_ B k n ∧ it_ B k n ≤ to := by
  induction n with
  | zero => exact ⟨Nat.le_refl k, hk⟩
  | succ n ih =>
    have h1 := pl_B hp ih.1 ih.2
    exact ⟨Nat.le_trans ih.1 h1.1, h1.2⟩
theorem it_u {my : Nat → Nat → Prop} {J B J2 B2 : Nat → Nat} {k to : Nat} (hp : PL_ my J B k to) (hq : PL_ my J2 B2 k to) (hk : k ≤ to) (n : Nat) : it_ B2 k n = it_ B k n := by
  induction n with
  | zero => rfl
  | succ n ih =>
    have h1 := it_in hp hk n
    show B2 (it_ B2 k n) = B (it_ B k n)
    rw [ih]
    exact (pl_u hp hq (to - it_ B k n) _ (Nat.le_refl _) h1.1 h1.2).2
theorem up_uu (f : Nat → Int32) (k : Nat) (a b : Int32) : upd (upd f k a) k b = upd f k b := by
  funext j
  by_cases h : j = k
  · subst h; rw [up_i, up_i]
  · rw [up_n _ _ _ _ h, up_n _ _ _ _ h, up_n _ _ _ _ h]
theorem dn_lt {k f : Nat} (hk : k < 2 ^ 30) (hf : f ≤ k) (h : ¬ nI k + (-1) < nI f) : f < k := by
  apply Decidable.byContradiction
  intro z
  have e : k = f := by omega
  subst e
  apply h
  apply Int32.lt_iff_toInt_lt.mpr
  rw [show nI k + (-1) = nI k - nI 1 from by rw [Int32.sub_eq_add_neg]; rfl, pk_sub_toInt hk (by omega), nI_toInt (by omega)]
  omega
theorem dn_ge {k f : Nat} (hk : k < 2 ^ 30) (hf : f ≤ k) (h : nI k + (-1) < nI f) : k = f := by
  apply Decidable.byContradiction
  intro z
  have e : f ≤ k - 1 := by omega
  rw [sb_m1 (by omega)] at h
  have h2 := (nI_ltI (by omega) (by omega)).mp h
  omega
theorem it_fin {B : Nat → Nat} {h to k i : Nat} (hB : B to = to) (hk : to ≤ it_ B h k ∧ it_ B h k ≤ to) (hi : k ≤ i) : it_ B h k = it_ B h i := by
  have h1 : it_ B h k = to := by omega
  have h2 := it_st hB h1 (i - k)
  rw [show k + (i - k) = i by omega] at h2
  rw [h1, h2]

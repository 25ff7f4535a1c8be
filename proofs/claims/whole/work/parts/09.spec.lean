/-! what the calls answer, over the state's rows; the program and the reference are both held against these -/
abbrev ac_P (a : Int32) : Prop := 0 ≤ a ∧ a ≤ 9
abbrev hn_P (N : Nat) (n : Int32) : Prop := 0 ≤ n ∧ n < nI N
abbrev hs_P (h : Nat) (x : Int32) : Prop := 0 ≤ x ∧ x ≤ nI h
abbrev ha_P (N : Nat) (bits : Int32) : Prop := (bits.toUInt32 >>> ((nI N).toUInt32 &&& Int32.toUInt32 31)).toInt32 = 0
abbrev up_P (h : Nat) (f t : Int32) : Prop := (0 ≤ f ∧ f ≤ nI h) ∧ (0 ≤ t ∧ t ≤ nI h) ∧ f < t
abbrev mv_P (N : Nat) (a n v : Int32) : Prop := (0 ≤ a ∧ a ≤ 9) ∧ (0 ≤ n ∧ n < nI N) ∧ (1 ≤ v ∧ v ≤ 1000000)
abbrev gd_P (what v : Int32) : Prop := (what = 0 ∧ (1 ≤ v ∧ v ≤ 9)) ∨ (what = 1 ∧ (0 ≤ v ∧ v ≤ 10000)) ∨ (what = 2 ∧ (1 ≤ v ∧ v ≤ 50)) ∨ (what = 3 ∧ (1 ≤ v ∧ v ≤ 1000000))
def rr_rule (h : Nat) (R : Nat → Int32) (what v : Int32) : Int32 := if gd_P what v then (if 0 < h then -4 else R (tn_X what)) else -1
def ru_rule (h : Nat) (R : Nat → Int32) (what v : Int32) : Nat → Int32 := if gd_P what v ∧ h = 0 then upd R (tn_X what) v else R
abbrev fu_P (fd a v : Int32) : Prop := ((0 ≤ a ∧ a ≤ 9) ∧ (1 ≤ v ∧ v ≤ 100000)) ∧ fd + v ≤ 1000000
def rr_fund (fd : Int32) (bal : Nat → Int32) (a v : Int32) : Int32 := if (0 ≤ a ∧ a ≤ 9) ∧ (1 ≤ v ∧ v ≤ 100000) then (if fd + v ≤ 1000000 then bal (tn_X a) + v else -3) else -1
def fd_fund (fd a v : Int32) : Int32 := if fu_P fd a v then fd + v else fd
def ba_fund (fd : Int32) (bal : Nat → Int32) (a v : Int32) : Nat → Int32 := if fu_P fd a v then upd bal (tn_X a) (bal (tn_X a) + v) else bal
abbrev no_P (N : Nat) (k c : Int32) : Prop := ((0 ≤ k ∧ k ≤ 9) ∧ (0 ≤ c ∧ c ≤ 100)) ∧ N < 8
def rr_node (N : Nat) (k c : Int32) : Int32 := if (0 ≤ k ∧ k ≤ 9) ∧ (0 ≤ c ∧ c ≤ 100) then (if N < 8 then nI N else -3) else -1
def sz_node (N : Nat) (k c : Int32) : Nat := if no_P N k c then N + 1 else N
def up_node (N : Nat) (k c : Int32) (f : Nat → Int32) (x : Int32) : Nat → Int32 := if no_P N k c then upd f N x else f
def rr_stake (N : Nat) (bal stk : Nat → Int32) (a n v : Int32) : Int32 := if mv_P N a n v then (if v ≤ bal (tn_X a) then stk (tn_X n * 10 + tn_X a) + v else -3) else -1
def ba_stake (N : Nat) (bal : Nat → Int32) (a n v : Int32) : Nat → Int32 := if mv_P N a n v ∧ v ≤ bal (tn_X a) then upd bal (tn_X a) (bal (tn_X a) - v) else bal
def sk_stake (N : Nat) (bal stk : Nat → Int32) (a n v : Int32) : Nat → Int32 := if mv_P N a n v ∧ v ≤ bal (tn_X a) then upd stk (tn_X n * 10 + tn_X a) (stk (tn_X n * 10 + tn_X a) + v) else stk
abbrev dr_P (N : Nat) (stk fz : Nat → Int32) (a n v : Int32) : Prop := mv_P N a n v ∧ v ≤ stk (tn_X n * 10 + tn_X a) ∧ fz (tn_X n) = 0
def rr_draw (N : Nat) (stk fz : Nat → Int32) (a n v : Int32) : Int32 := if mv_P N a n v then (if v ≤ stk (tn_X n * 10 + tn_X a) then (if fz (tn_X n) = 0 then stk (tn_X n * 10 + tn_X a) - v else -4) else -3) else -1
def sk_draw (N : Nat) (stk fz : Nat → Int32) (a n v : Int32) : Nat → Int32 := if dr_P N stk fz a n v then upd stk (tn_X n * 10 + tn_X a) (stk (tn_X n * 10 + tn_X a) - v) else stk
def du_draw (h w N : Nat) (stk fz due : Nat → Int32) (a n v : Int32) : Nat → Int32 := if dr_P N stk fz a n v then upd due (tn_X a * 110 + (h + w)) (due (tn_X a * 110 + (h + w)) + v) else due
def rr_join (h N : Nat) (sa : Nat → Int32) (n : Int32) : Int32 := if hn_P N n then (if sa (tn_X n) = 0 then nI (h + 1) else -4) else -1
def sa_join (N : Nat) (sa : Nat → Int32) (n : Int32) : Nat → Int32 := if hn_P N n ∧ sa (tn_X n) = 0 then upd sa (tn_X n) 1 else sa
abbrev le_P (N : Nat) (sa fz : Nat → Int32) (n : Int32) : Prop := hn_P N n ∧ sa (tn_X n) = 2 ∧ fz (tn_X n) = 0
def rr_leave (h w N : Nat) (sa fz : Nat → Int32) (n : Int32) : Int32 := if hn_P N n then (if sa (tn_X n) = 2 ∧ fz (tn_X n) = 0 then nI (h + w) else -4) else -1
def up_leave (N : Nat) (sa fz : Nat → Int32) (n : Int32) (f : Nat → Int32) (x : Int32) : Nat → Int32 := if le_P N sa fz n then upd f (tn_X n) x else f
def rr_freeze (N : Nat) (fz : Nat → Int32) (n : Int32) : Int32 := if hn_P N n then (if fz (tn_X n) = 0 then 0 else 1) else -1
def fz_freeze (N : Nat) (fz : Nat → Int32) (n x : Int32) : Nat → Int32 := if hn_P N n then upd fz (tn_X n) x else fz
def rr_balance (bal : Nat → Int32) (a : Int32) : Int32 := if ac_P a then bal (tn_X a) else -1
def rr_staked (N : Nat) (stk : Nat → Int32) (a n : Int32) : Int32 := if ac_P a then (if n = -1 then sI_ (fun k => stk (k * 10 + tn_X a)) 8 else if hn_P N n then stk (tn_X n * 10 + tn_X a) else -1) else -1
def rr_drawn (due : Nat → Int32) (a h : Int32) : Int32 := if ac_P a then (if h = -1 then sI_ (fun k => due (tn_X a * 110 + (k + 1))) 109 else if 1 ≤ h ∧ h ≤ 109 then due (tn_X a * 110 + tn_X h) else -1) else -1
def rr_about (N : Nat) (sa fz la kp ct stk : Nat → Int32) (n what : Int32) : Int32 := if hn_P N n then (if what = 0 then sa (tn_X n) else if what = 1 then (if fz (tn_X n) = 0 then 0 else 1) else if what = 2 then la (tn_X n) else if what = 3 then kp (tn_X n) else if what = 4 then ct (tn_X n) else if what = 5 then sI_ (fun a => stk (tn_X n * 10 + a)) 10 else -1) else -1
def rr_weight (h N : Nat) (wt al : Nat → Int32) (n x : Int32) : Int32 := if hs_P h x then (if n = -1 then al (tn_X x) else if hn_P N n then wt (tn_X x * 8 + tn_X n) else -1) else -1
def rr_reward (h N : Nat) (rw : Nat → Int32) (n x : Int32) : Int32 := if 0 ≤ x ∧ x ≤ nI h - 1 then (if n = -1 then sI_ (fun n => rw (tn_X x * 8 + n)) 8 else if hn_P N n then rw (tn_X x * 8 + tn_X n) else -1) else -1
def rr_judge (h N : Nat) (wt al : Nat → Int32) (x bits : Int32) : Int32 := if hs_P h x then (if ha_P N bits then (if 2 * al (tn_X x) < 3 * wo_ wt (tn_X x) (tn_X bits) 8 then 1 else 0) else -1) else -1
def rr_jump (h N : Nat) (wt al : Nat → Int32) (f t bits : Int32) : Int32 := if up_P h f t then (if ha_P N bits then (if 2 * al (tn_X t) < 3 * wo_ wt (tn_X t) (tn_X bits) 8 ∧ al (tn_X f) < 3 * wo_ wt (tn_X f) (tn_X bits) 8 then 1 else 0) else -1) else -1
def rr_overlap (h : Nat) (wt : Nat → Int32) (a b : Int32) : Int32 := if hs_P h a then (if hs_P h b then sI_ (fun n => if wt (tn_X b * 8 + n) < wt (tn_X a * 8 + n) then wt (tn_X b * 8 + n) else wt (tn_X a * 8 + n)) 8 else -1) else -1
/-- an answer of way, by a plan -/
def wa_ (J B : Nat → Nat) (f : Nat) (i : Int32) : Int32 := if J f = 200 then -2 else if i = -1 then nI (J f) else if 0 ≤ i ∧ i ≤ nI (J f) then nI (it_ B f (tn_X i)) else -1
def rw_way (h : Nat) (wt al : Nat → Int32) (bb : Nat → Nat) (f t i r : Int32) : Prop := if up_P h f t then ∃ J B : Nat → Nat, PL_ (my_ wt al bb) J B (tn_X f) (tn_X t) ∧ r = wa_ J B (tn_X f) i else r = -1
def rr_count (h N : Nat) (fd rd : Int32) (R bal stk due : Nat → Int32) (what : Int32) : Int32 := if what = 0 then nI h else if what = 1 then nI N else if what = 2 then fd else if what = 3 then rd else if what = 4 then sI_ bal 10 else if what = 5 then sI_ (fun jn => sI_ (fun a => stk (jn * 10 + a)) 10) 8 else if what = 6 then sI_ (fun ia => sI_ (fun k => due (ia * 110 + (k + 1))) 109) 10 else if what = 7 then R 0 else if what = 8 then R 1 else if what = 9 then R 2 else if what = 10 then R 3 else -1
/-! bounds -/
theorem ix_m1 {x : Int32} {h : Nat} (hh : h < 2 ^ 30) (hx : 0 ≤ x ∧ x ≤ nI h - 1) : ∃ z : Nat, z < h ∧ x = nI z := by
  have h1 : (nI h - 1).toInt = (h : Int) - 1 := pk_sub_toInt (a := h) (b := 1) hh (by omega)
  obtain ⟨j, h2, h3⟩ := nI_of (Int32.not_lt.mpr hx.1)
  refine ⟨j, ?_, h3⟩
  have h4 := Int32.le_iff_toInt_le.mp hx.2
  rw [h3, nI_toInt h2, h1] at h4
  omega
theorem ix_hs {x : Int32} {h : Nat} (hh : h < 2 ^ 31) (hx : 0 ≤ x ∧ x ≤ nI h) : ∃ z : Nat, z < h + 1 ∧ x = nI z := ix_le (nI_toInt hh) hx
theorem ha_0 : ∀ N, N < 9 → ((((nI N).toUInt32 &&& Int32.toUInt32 31)).toBitVec % 32).toNat = N := by decide +kernel
theorem ix_ha {N : Nat} {bits : Int32} (hN : N ≤ 8) (h : ha_P N bits) : ∃ z : Nat, z < 256 ∧ bits = nI z := by
  have h1 := pk_ushr bits (nI N) N (ha_0 N (by omega))
  rw [h] at h1
  have h2 : (0 : Int32).toBitVec.toNat = 0 := rfl
  rw [h2] at h1
  have h3 : 2 ^ N ≤ 256 := by
    have : 2 ^ N ≤ 2 ^ 8 := Nat.pow_le_pow_right (by omega) hN
    omega
  have h4 : 0 < 2 ^ N := Nat.pow_pos (by omega)
  have h5 : bits.toBitVec.toNat < 2 ^ N := by
    rcases Nat.lt_or_ge bits.toBitVec.toNat (2 ^ N) with z | z
    · exact z
    · have := Nat.div_pos z h4; omega
  refine ⟨bits.toBitVec.toNat, by omega, ?_⟩
  apply Int32.toBitVec_inj.mp
  apply BitVec.eq_of_toNat_eq
  rw [pk_tn (by omega)]

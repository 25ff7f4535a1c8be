/-! between calls: what the class and the reference hold in common; each call keeps it -/
def LI_ (hh sz : Nat) (fd rd : Int32) (frl fbal fstk fdue fkp fct fsa fla fwt frw fal fbr ffx fdm fpo : Nat → Int32) : Prop := hh ≤ 100 ∧ IR_ frl ∧ IN_ sz fkp fct ∧ IM_ hh fd rd fbal fstk fdue ∧ IK_ sz fstk fdue ∧ IW_ hh sz fwt ffx ∧ IC_ fwt fal fbr ∧ IL_ sz fsa fla ∧ ID_ sz fsa fla fdm ∧ IP_ fpo frw
theorem IV_of {h N : Nat} {wt fx : Nat → Int32} (hW : IW_ h N wt fx) : IV_ wt := ⟨hW.1, hW.2.1⟩
theorem IA_of {h N : Nat} {wt fx al br : Nat → Int32} (hW : IW_ h N wt fx) (hC : IC_ wt al br) : IA_ wt al := fun q hq => by
  rw [(hC q hq).1]; exact (sI_n (fun k hk => hW.1 q k hq hk)).symm
theorem rl_e {h : Nat} {R : Nat → Int32} {what v : Int32} : rr_rule h R what v = rm_rule h (R 0) (R 1) (R 2) (R 3) what v := by
  unfold rr_rule rm_rule
  by_cases g : gd_P what v
  · rw [if_pos g, if_pos g]
    by_cases h0 : 0 < h
    · rw [if_pos h0, if_pos h0]
    · rw [if_neg h0, if_neg h0]
      rcases g with ⟨rfl, _⟩ | ⟨rfl, _⟩ | ⟨rfl, _⟩ | ⟨rfl, _⟩
      · rw [if_pos rfl]; rfl
      · rw [if_neg (by decide), if_pos rfl]; rfl
      · rw [if_neg (by decide), if_neg (by decide), if_pos rfl]; rfl
      · rw [if_neg (by decide), if_neg (by decide), if_neg (by decide)]; rfl
  · rw [if_neg g, if_neg g]
theorem rk_e {h : Nat} {R : Nat → Int32} {what v : Int32} {k : Nat} (hk : k < 4) : rk_rule h (nI k) (R k) what v = ru_rule h R what v k := by
  unfold rk_rule ru_rule
  by_cases g : gd_P what v ∧ h = 0
  · rw [if_pos g, if_pos g]
    obtain ⟨j, hj, rfl⟩ : ∃ j : Nat, j < 4 ∧ what = nI j := by
      rcases g.1 with ⟨rfl, _⟩ | ⟨rfl, _⟩ | ⟨rfl, _⟩ | ⟨rfl, _⟩
      · exact ⟨0, by omega, rfl⟩
      · exact ⟨1, by omega, rfl⟩
      · exact ⟨2, by omega, rfl⟩
      · exact ⟨3, by omega, rfl⟩
    rw [show tn_X (nI j) = j from nI_clamp (by omega)]
    by_cases e : j = k
    · subst e; rw [if_pos rfl, up_i]
    · rw [if_neg (fun z => e ((nI_eq (by omega) (by omega)).mp z)), up_n _ _ _ _ (fun z => e z.symm)]
  · rw [if_neg g, if_neg g]
theorem nn_r {v : Int32} {a b : Nat} (h1 : nI a ≤ v) (h2 : v ≤ nI b) (ha : a < 2 ^ 31) (hb : b < 2 ^ 31) : nn_ v ∧ a ≤ tn_X v ∧ tn_X v ≤ b := by
  obtain ⟨j, h3, rfl⟩ := nI_of (x := v) (Int32.not_lt.mpr (Int32.le_trans (nI_pos' ha) h1))
  rw [show tn_X (nI j) = j from nI_clamp h3]
  exact ⟨nn_n h3, (nI_leI ha h3).mp h1, (nI_leI h3 hb).mp h2⟩
theorem li_IR {h : Nat} {R : Nat → Int32} {what v : Int32} (hR : IR_ R) : IR_ (ru_rule h R what v) := by
  unfold ru_rule
  by_cases g : gd_P what v ∧ h = 0
  · rw [if_pos g]
    obtain ⟨r0, r1, r2, r3⟩ := hR
    rcases g.1 with ⟨rfl, hv⟩ | ⟨rfl, hv⟩ | ⟨rfl, hv⟩ | ⟨rfl, hv⟩
    · have := nn_r (a := 1) (b := 9) hv.1 hv.2 (by omega) (by omega)
      rw [show tn_X 0 = 0 from by decide]
      exact ⟨by rw [up_i]; exact this, by rw [up_n _ _ _ _ (by omega)]; exact r1, by rw [up_n _ _ _ _ (by omega)]; exact r2, by rw [up_n _ _ _ _ (by omega)]; exact r3⟩
    · have := nn_r (a := 0) (b := 10000) hv.1 hv.2 (by omega) (by omega)
      rw [show tn_X 1 = 1 from by decide]
      exact ⟨by rw [up_n _ _ _ _ (by omega)]; exact r0, by rw [up_i]; exact ⟨this.1, this.2.2⟩, by rw [up_n _ _ _ _ (by omega)]; exact r2, by rw [up_n _ _ _ _ (by omega)]; exact r3⟩
    · have := nn_r (a := 1) (b := 50) hv.1 hv.2 (by omega) (by omega)
      rw [show tn_X 2 = 2 from by decide]
      exact ⟨by rw [up_n _ _ _ _ (by omega)]; exact r0, by rw [up_n _ _ _ _ (by omega)]; exact r1, by rw [up_i]; exact this, by rw [up_n _ _ _ _ (by omega)]; exact r3⟩
    · have := nn_r (a := 1) (b := 1000000) hv.1 hv.2 (by omega) (by omega)
      rw [show tn_X 3 = 3 from by decide]
      exact ⟨by rw [up_n _ _ _ _ (by omega)]; exact r0, by rw [up_n _ _ _ _ (by omega)]; exact r1, by rw [up_n _ _ _ _ (by omega)]; exact r2, by rw [up_i]; exact this⟩
  · rw [if_neg g]; exact hR
theorem up_nn {f : Nat → Int32} {k n : Nat} {x : Int32} (hf : ∀ j, j < n → nn_ (f j)) (hx : nn_ x) : ∀ j, j < n → nn_ (upd f k x j) := by
  intro j hj
  by_cases e : j = k
  · subst e; rw [up_i]; exact hx
  · rw [up_n _ _ _ _ e]; exact hf j hj
theorem IM_fund {h : Nat} {fd rd : Int32} {bal stk due : Nat → Int32} {a v : Int32} (hM : IM_ h fd rd bal stk due) (hh : h ≤ 100) : IM_ h (fd_fund fd a v) rd (ba_fund fd bal a v) stk due := by
  unfold fd_fund ba_fund
  by_cases g : fu_P fd a v
  · rw [if_pos g, if_pos g]
    obtain ⟨b1, b2, b3, b4, b5, b6, b7, b8⟩ := hM
    obtain ⟨ia, h1, rfl⟩ := ix_le (x := a) (M := 9) (n := 9) (by decide) g.1.1
    have hv := nn_r (a := 1) (b := 100000) g.1.2.1 g.1.2.2 (by omega) (by omega)
    rw [show tn_X (nI ia) = ia from nI_clamp (by omega)]
    have hb := sN_le (f := fun j => tn_X (bal j)) (show ia < 10 by omega)
    have h2 := nn_ad (b1 ia (by omega)) hv.1 (by omega)
    have h3 := nn_ad b4 hv.1 (by omega)
    have h4 : tn_X (fd + v) ≤ 1000000 := by
      have h5 := g.2
      rw [h3.1] at h5
      exact (nI_leI (a := tn_X (fd + v)) (b := 1000000) (tn_lt _) (by omega)).mp h5
    have h6 := sN_upd (f := bal) (n := 10) (k := ia) (x := bal ia + v) (by omega)
    refine ⟨up_nn b1 h2.1, b2, b3, h3.1, b5, h4, b7, ?_⟩
    omega
  · rw [if_neg g, if_neg g]; exact hM
theorem IM_stake {h N : Nat} {fd rd : Int32} {bal stk due : Nat → Int32} {a n v : Int32} (hM : IM_ h fd rd bal stk due) (hh : h ≤ 100) (hN : N ≤ 8) : IM_ h fd rd (ba_stake N bal a n v) (sk_stake N bal stk a n v) due := by
  unfold ba_stake sk_stake
  by_cases g : mv_P N a n v ∧ v ≤ bal (tn_X a)
  · rw [if_pos g, if_pos g]
    obtain ⟨b1, b2, b3, b4, b5, b6, b7, b8⟩ := hM
    obtain ⟨ia, h1, rfl⟩ := ix_le (x := a) (M := 9) (n := 9) (by decide) g.1.1
    obtain ⟨jn, h2, rfl⟩ := ix_lt (x := n) (N := N) (by omega) g.1.2.1
    have hv := nn_r (a := 1) (b := 1000000) g.1.2.2.1 g.1.2.2.2 (by omega) (by omega)
    have g2 := g.2
    rw [show tn_X (nI ia) = ia from nI_clamp (by omega)] at g2 ⊢
    rw [show tn_X (nI jn) = jn from nI_clamp (by omega)]
    have h3 := nn_sb (b1 ia (by omega)) hv.1 g2
    have hb := sN_le (f := fun j => tn_X (bal j)) (show ia < 10 by omega)
    have hs := sN_le (f := fun j => tn_X (stk j)) (show jn * 10 + ia < 80 by omega)
    have h4 := nn_ad (b2 (jn * 10 + ia) (by omega)) hv.1 (by omega)
    have h5 := sN_upd (f := bal) (n := 10) (k := ia) (x := bal ia - v) (by omega)
    have h6 := sN_upd (f := stk) (n := 80) (k := jn * 10 + ia) (x := stk (jn * 10 + ia) + v) (by omega)
    refine ⟨up_nn b1 h3.1, up_nn b2 h4.1, b3, b4, b5, b6, b7, ?_⟩
    omega
  · rw [if_neg g, if_neg g]; exact hM
theorem IM_draw {h w N : Nat} {fd rd : Int32} {bal stk due fz : Nat → Int32} {a n v : Int32} (hM : IM_ h fd rd bal stk due) (hh : h ≤ 100) (hN : N ≤ 8) (hw : w ≤ 9) : IM_ h fd rd bal (sk_draw N stk fz a n v) (du_draw h w N stk fz due a n v) := by
  unfold sk_draw du_draw
  by_cases g : dr_P N stk fz a n v
  · rw [if_pos g, if_pos g]
    obtain ⟨b1, b2, b3, b4, b5, b6, b7, b8⟩ := hM
    obtain ⟨ia, h1, rfl⟩ := ix_le (x := a) (M := 9) (n := 9) (by decide) g.1.1
    obtain ⟨jn, h2, rfl⟩ := ix_lt (x := n) (N := N) (by omega) g.1.2.1
    have hv := nn_r (a := 1) (b := 1000000) g.1.2.2.1 g.1.2.2.2 (by omega) (by omega)
    have g2 := g.2.1
    rw [show tn_X (nI ia) = ia from nI_clamp (by omega), show tn_X (nI jn) = jn from nI_clamp (by omega)] at g2 ⊢
    have h3 := nn_sb (b2 (jn * 10 + ia) (by omega)) hv.1 g2
    have hs := sN_le (f := fun j => tn_X (stk j)) (show jn * 10 + ia < 80 by omega)
    have hd := sN_le (f := fun j => tn_X (due j)) (show ia * 110 + (h + w) < 1100 by omega)
    have h4 := nn_ad (b3 (ia * 110 + (h + w)) (by omega)) hv.1 (by omega)
    have h5 := sN_upd (f := stk) (n := 80) (k := jn * 10 + ia) (x := stk (jn * 10 + ia) - v) (by omega)
    have h6 := sN_upd (f := due) (n := 1100) (k := ia * 110 + (h + w)) (x := due (ia * 110 + (h + w)) + v) (by omega)
    refine ⟨b1, up_nn b2 h3.1, up_nn b3 h4.1, b4, b5, b6, b7, ?_⟩
    omega
  · rw [if_neg g, if_neg g]; exact hM
theorem IK_stake {N : Nat} {bal stk due : Nat → Int32} {a n v : Int32} (hK : IK_ N stk due) (hN : N ≤ 8) : IK_ N (sk_stake N bal stk a n v) due := by
  refine ⟨fun j h1 h2 => ?_, hK.2⟩
  unfold sk_stake
  by_cases g : mv_P N a n v ∧ v ≤ bal (tn_X a)
  · rw [if_pos g]
    obtain ⟨ia, h3, rfl⟩ := ix_le (x := a) (M := 9) (n := 9) (by decide) g.1.1
    obtain ⟨jn, h4, rfl⟩ := ix_lt (x := n) (N := N) (by omega) g.1.2.1
    rw [show tn_X (nI ia) = ia from nI_clamp (by omega), show tn_X (nI jn) = jn from nI_clamp (by omega), up_n _ _ _ _ (by omega)]
    exact hK.1 j h1 h2
  · rw [if_neg g]; exact hK.1 j h1 h2
theorem IK_draw {h w N : Nat} {stk due fz : Nat → Int32} {a n v : Int32} (hK : IK_ N stk due) (hN : N ≤ 8) (hw : 1 ≤ w) (hh : h + w ≤ 109) : IK_ N (sk_draw N stk fz a n v) (du_draw h w N stk fz due a n v) := by
  unfold sk_draw du_draw
  by_cases g : dr_P N stk fz a n v
  · rw [if_pos g, if_pos g]
    obtain ⟨ia, h3, rfl⟩ := ix_le (x := a) (M := 9) (n := 9) (by decide) g.1.1
    obtain ⟨jn, h4, rfl⟩ := ix_lt (x := n) (N := N) (by omega) g.1.2.1
    rw [show tn_X (nI ia) = ia from nI_clamp (by omega), show tn_X (nI jn) = jn from nI_clamp (by omega)]
    exact ⟨fun j h1 h2 => by rw [up_n _ _ _ _ (by omega)]; exact hK.1 j h1 h2, fun b hb => by rw [up_n _ _ _ _ (by omega)]; exact hK.2 b hb⟩
  · rw [if_neg g, if_neg g]; exact hK
theorem IN_node {N : Nat} {kp ct : Nat → Int32} {k c : Int32} (hN : IN_ N kp ct) : IN_ (sz_node N k c) (up_node N k c kp k) (up_node N k c ct c) := by
  unfold sz_node up_node
  by_cases g : no_P N k c
  · rw [if_pos g, if_pos g, if_pos g]
    have h1 := nn_r (a := 0) (b := 9) g.1.1.1 g.1.1.2 (by omega) (by omega)
    have h2 := nn_r (a := 0) (b := 100) g.1.2.1 g.1.2.2 (by omega) (by omega)
    refine ⟨g.2, fun j hj => ?_⟩
    by_cases e : j = N
    · subst e; rw [up_i, up_i]; exact ⟨⟨h1.1, by omega⟩, ⟨h2.1, h2.2.2⟩⟩
    · rw [up_n _ _ _ _ e, up_n _ _ _ _ e]; exact hN.2 j (by omega)
  · rw [if_neg g, if_neg g, if_neg g]; exact hN
theorem sz_ge {N : Nat} {k c : Int32} : N ≤ sz_node N k c := by unfold sz_node; split <;> omega
theorem IK_node {N : Nat} {stk due : Nat → Int32} {k c : Int32} (hK : IK_ N stk due) : IK_ (sz_node N k c) stk due := ⟨fun j h1 h2 => hK.1 j (by have := sz_ge (N := N) (k := k) (c := c); omega) h2, hK.2⟩
theorem IW_node {h N : Nat} {wt fx : Nat → Int32} {k c : Int32} (hW : IW_ h N wt fx) : IW_ h (sz_node N k c) wt fx := ⟨hW.1, hW.2.1, hW.2.2.1, fun q n h1 h2 h3 => hW.2.2.2.1 q n h1 (Nat.le_trans sz_ge h2) h3, hW.2.2.2.2⟩
theorem IL_node {N : Nat} {sa la : Nat → Int32} {k c : Int32} (hL : IL_ N sa la) : IL_ (sz_node N k c) (up_node N k c sa 0) (up_node N k c la (-2)) := by
  unfold sz_node up_node
  by_cases g : no_P N k c
  · rw [if_pos g, if_pos g, if_pos g]
    intro j hj h3
    by_cases e : j = N
    · subst e; rw [up_i]
    · rw [up_n _ _ _ _ e] at h3 ⊢; exact hL j (by omega) h3
  · rw [if_neg g, if_neg g, if_neg g]; exact hL
theorem ID_node {N : Nat} {sa la dm : Nat → Int32} {k c : Int32} (hD : ID_ N sa la dm) : ID_ (sz_node N k c) (up_node N k c sa 0) (up_node N k c la (-2)) dm := by
  unfold sz_node up_node
  by_cases g : no_P N k c
  · rw [if_pos g, if_pos g, if_pos g]
    intro j hj h3
    by_cases e : j = N
    · subst e; rw [up_i] at h3; exact absurd h3 (by decide)
    · rw [up_n _ _ _ _ e] at h3 ⊢; exact hD j (by omega) h3
  · rw [if_neg g, if_neg g, if_neg g]; exact hD
theorem IL_join {N : Nat} {sa la : Nat → Int32} {n : Int32} (hN : N ≤ 8) (hL : IL_ N sa la) : IL_ N (sa_join N sa n) la := by
  unfold sa_join
  by_cases g : hn_P N n ∧ sa (tn_X n) = 0
  · rw [if_pos g]
    intro j hj h3
    by_cases e : j = tn_X n
    · subst e; exact hL _ hj (by rw [g.2]; decide)
    · rw [up_n _ _ _ _ e] at h3; exact hL j hj h3
  · rw [if_neg g]; exact hL
theorem ID_join {N : Nat} {sa la dm : Nat → Int32} {n : Int32} (hD : ID_ N sa la dm) : ID_ N (sa_join N sa n) la dm := by
  unfold sa_join
  by_cases g : hn_P N n ∧ sa (tn_X n) = 0
  · rw [if_pos g]
    intro j hj h3
    by_cases e : j = tn_X n
    · subst e; rw [up_i] at h3; exact absurd h3 (by decide)
    · rw [up_n _ _ _ _ e] at h3; exact hD j hj h3
  · rw [if_neg g]; exact hD
theorem IL_leave {N : Nat} {sa fz la : Nat → Int32} {n x : Int32} (hL : IL_ N sa la) : IL_ N (up_leave N sa fz n sa 3) (up_leave N sa fz n la x) := by
  unfold up_leave
  by_cases g : le_P N sa fz n
  · rw [if_pos g, if_pos g]
    intro j hj h3
    by_cases e : j = tn_X n
    · subst e; rw [up_i] at h3; exact absurd rfl h3
    · rw [up_n _ _ _ _ e] at h3 ⊢; exact hL j hj h3
  · rw [if_neg g, if_neg g]; exact hL
theorem ID_leave {N : Nat} {sa fz la dm : Nat → Int32} {n x : Int32} (hD : ID_ N sa la dm) : ID_ N (up_leave N sa fz n sa 3) (up_leave N sa fz n la x) (up_leave N sa fz n dm x) := by
  unfold up_leave
  by_cases g : le_P N sa fz n
  · rw [if_pos g, if_pos g, if_pos g]
    intro j hj h3
    by_cases e : j = tn_X n
    · subst e; rw [up_i, up_i]
    · rw [up_n _ _ _ _ e] at h3 ⊢; rw [up_n _ _ _ _ e]; exact hD j hj h3
  · rw [if_neg g, if_neg g, if_neg g]; exact hD
theorem rw_u {h : Nat} {wt al : Nat → Int32} {bb : Nat → Nat} {f t i r r2 : Int32} (hh : h ≤ 100) (h1 : rw_way h wt al bb f t i r) (h2 : rw_way h wt al bb f t i r2) : r = r2 := by
  unfold rw_way at h1 h2
  by_cases g : up_P h f t
  · rw [if_pos g] at h1 h2
    obtain ⟨J, B, p1, e1⟩ := h1
    obtain ⟨J2, B2, p2, e2⟩ := h2
    obtain ⟨kf, f1, rfl⟩ := ix_hs (x := f) (h := h) (by omega) g.1
    obtain ⟨kt, f2, rfl⟩ := ix_hs (x := t) (h := h) (by omega) g.2.1
    have g3 := (nI_ltI (by omega) (by omega)).mp g.2.2
    rw [show tn_X (nI kf) = kf from nI_clamp (by omega)] at p1 p2 e1 e2
    rw [show tn_X (nI kt) = kt from nI_clamp (by omega)] at p1 p2
    have e3 := (pl_u p1 p2 (kt - kf) kf (Nat.le_refl _) (Nat.le_refl _) (by omega)).1
    rw [e1, e2]
    unfold wa_
    rw [e3, it_u p1 p2 (by omega)]
  · rw [if_neg g] at h1 h2; rw [h1, h2]
/-- the start -/
theorem li_0 : LI_ 0 0 0 0 (upd (upd (upd (upd (fun _ => 0) 0 2) 1 100) 2 10) 3 1000000) (fun _ => 0) (fun _ => 0) (fun _ => 0) (fun _ => 0) (fun _ => 0) (fun _ => 0) (fun _ => 0) (fun _ => 0) (fun _ => 0) (fun _ => 0) (fun _ => 0) (fun _ => 0) (fun _ => 0) (fun _ => 0) := by
  have z : ∀ n, sN_ (fun _ => tn_X 0) n = 0 := fun n => sN_0 (fun _ _ => tn_0)
  have nz : nn_ 0 := nn_n (n := 0) (by omega)
  refine ⟨by omega, ?_, ⟨by omega, fun j hj => by omega⟩, ⟨fun _ _ => nz, fun _ _ => nz, fun _ _ => nz, nz, nz, by rw [tn_0]; omega, by rw [tn_0]; omega, by rw [z, z, z]; omega⟩, ⟨fun _ _ _ => rfl, fun _ _ => rfl⟩, ⟨fun _ _ _ _ => nz, fun q _ => by rw [z]; omega, fun _ _ _ _ _ => rfl, fun _ _ _ _ _ => rfl, fun _ _ => ⟨nz, by rw [tn_0]; omega⟩, fun n _ h => by rw [tn_0] at h; omega⟩, fun q _ => ⟨by rw [z]; rfl, ?_⟩, fun j hj => by omega, fun j hj => by omega, fun q _ => by rw [sI_0z (fun _ _ => rfl)]⟩
  · exact ⟨⟨nn_n (n := 2) (by omega), by decide, by decide⟩, ⟨nn_n (n := 100) (by omega), by decide⟩, ⟨nn_n (n := 10) (by omega), by decide, by decide⟩, ⟨nn_n (n := 1000000) (by omega), by decide, by decide⟩⟩
  · rw [← pb_to (n := 0) (Nat.zero_le 8) (fun k _ _ => tn_0)]; rfl
section LWS
variable {p : Program} {l : Launch} {e : Env} {R : Room} {s : State} {m : MethodId} {args : Array Value} {below : List Frame} {meth : Method} {c : Code} {H : Heap} {locs : List Loc} {cells slots : Nat} {Q : State → Prop} {A : Nat → Prop} {cc : ByteArray} {pc : Nat} {ls : Array Slot} {rest : List Value}
theorem sc_ld (hexec : p.tables.exec = Jvm.exec) (hb : c.code = cc) {b L : Nat} {xs : Nat → Int32} (hX : va_X b L xs s s.heap) (hbl : b < s.heap.size) (hbA : ¬ A b) (hS : va_S A s.heap H locs) {i : Int32} {k : Nat} (hi : i = nI k) (hk : k < L) (hL : L ≤ 2048) (hdg : decode cc pc = .ok (.iaload, 1))
    (kk : W p l e R s m args below meth c H locs cells slots Q (F0 m (pc + 1) ls (.int (xs k) :: rest))) : W p l e R s m args below meth c H locs cells slots Q (F0 m pc ls (.int i :: .ref b :: rest)) := by
  subst hi
  refine va_sld hexec hb hX hbl hbA hS (vp_in_nI hk (by omega)) hdg ?_
  rw [nI_clamp (by omega)]; exact kk
end LWS

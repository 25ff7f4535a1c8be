set_option maxHeartbeats 4000000 in
set_option maxRecDepth 100000 in
theorem k_X5_isMove (l : Launch) (D : va_G) (cI cJ cZ : ClassId) (x : Nat) (nd : Nat) (hh : Nat) (rl : Nat) (bk : Nat) (st : Nat) (sh : Nat) (wy : Nat) (sz : Nat) (kp : Nat) (ct : Nat) (sa : Nat) (la : Nat) (fz : Nat) (a : Int32) (n : Int32) (v : Int32)  : mt_I l yX5_isMove cX5_isMove 4 .boolean 2 42 D cI cJ cZ [ob_J x 5 [.int (nI hh), .ref rl, .ref bk, .ref nd, .ref st, .ref sh, .ref wy], ob_J nd 1 [.int (nI sz), .ref kp, .ref ct, .ref sa, .ref la, .ref fz]] [.ref x, .int a, .int n, .int v] (fun r (_ : Unit) => r = if (0 ≤ a ∧ a ≤ 9) ∧ (0 ≤ n ∧ n < nI sz) ∧ (1 ≤ v ∧ v ≤ 1000000) then 1 else 0) (fun u_u : Unit => [ob_J x 5 [.int (nI hh), .ref rl, .ref bk, .ref nd, .ref st, .ref sh, .ref wy], ob_J nd 1 [.int (nI sz), .ref kp, .ref ct, .ref sa, .ref la, .ref fz]]) := by
  refine en_I (by decide) (Nat.le_of_ble_eq_true rfl) ?_
  intro p e s m below meth c A ls H locs hx hb hr hml hts hown hlk hN hK hA hP hD hS hl
  have hown : s.vm.findClass RX5 = some m.cls := hown
  have hl : lv_has ls 4 [(0, .ref x), (1, .int a), (2, .int n), (3, .int v)] := hl
  refine lv_iload_n hx hb dX5_isMove_0 rfl (lv_at hl 1 rfl) ?_
  refine ca_SI (rest := []) (k_X5_isAccount l D cI cJ cZ a ) hx hb hml hown hts hN hK hA hP hD hS bw_170 bw_171 bw_1 bw_172 1 rfl (by decide +kernel) ⟨by decide, by decide⟩ hl.1 rfl (Nat.le_of_ble_eq_true rfl) dX5_isMove_1 ⟨Nat.zero_le _, Nat.zero_le _⟩ (fun r_1 u_u H locs w_1 hP hD hS => ?_)
  have w_1 : r_1 = if 0 ≤ a ∧ a ≤ 9 then 1 else 0 := w_1
  by_cases h_1 : 0 ≤ a ∧ a ≤ 9
  · rw [if_pos h_1] at w_1; subst w_1
    refine lv_if_eq (tgt := 32) hx hb dX5_isMove_4 (by decide) (fun h9 => absurd h9 (by decide)) (fun _ => ?_)
    refine lv_aload_n hx hb dX5_isMove_7 rfl (lv_at hl 0 rfl) ?_
    refine va_get (ci := 5) (v := .ref nd) (C := RX5) (T := TX5) (N := 7) hx hb hts bi_5 hown hK hP 0 rfl rfl 3 (by decide) (hts _ bw_136) (fun _ h9 => h9) rfl dX5_isMove_8 ?_
    refine lv_iload_n hx hb dX5_isMove_11 rfl (lv_at hl 2 rfl) ?_
    refine ca_VI (rest := []) (wr := [ob_J x 5 [.int (nI hh), .ref rl, .ref bk, .ref nd, .ref st, .ref sh, .ref wy]]) (w2 := fun u_u => [ob_J x 5 [.int (nI hh), .ref rl, .ref bk, .ref nd, .ref st, .ref sh, .ref wy], ob_J nd 1 [.int (nI sz), .ref kp, .ref ct, .ref sa, .ref la, .ref fz]]) (k_X1_has l D cI cJ cZ nd sz kp ct sa la fz n ) hx hb hml hown hts hN hK hA hP hD hS 1 0 rfl rfl bw_190 bw_191 bw_192 bw_3 bw_193 1 rfl (by decide +kernel) ⟨by decide, by decide⟩ [1] [0] [0, 1] rfl rfl (by decide) (fun _ => rfl) hl.1 rfl (Nat.le_of_ble_eq_true rfl) dX5_isMove_12 ⟨Nat.zero_le _, Nat.zero_le _⟩ (fun r_12 u_u H locs w_12 hP hD hS => ?_)
    have hP : va_P D cl_A [ob_J x 5 [.int (nI hh), .ref rl, .ref bk, .ref nd, .ref st, .ref sh, .ref wy], ob_J nd 1 [.int (nI sz), .ref kp, .ref ct, .ref sa, .ref la, .ref fz]] H := hP
    have hD : va_D A [ob_J x 5 [.int (nI hh), .ref rl, .ref bk, .ref nd, .ref st, .ref sh, .ref wy], ob_J nd 1 [.int (nI sz), .ref kp, .ref ct, .ref sa, .ref la, .ref fz]] := hD
    have w_12 : r_12 = if 0 ≤ n ∧ n < nI sz then 1 else 0 := w_12
    by_cases h_12 : 0 ≤ n ∧ n < nI sz
    · rw [if_pos h_12] at w_12; subst w_12
      refine lv_if_eq (tgt := 32) hx hb dX5_isMove_15 (by decide) (fun h9 => absurd h9 (by decide)) (fun _ => ?_)
      refine lv_iload_n hx hb dX5_isMove_18 rfl (lv_at hl 3 rfl) ?_
      refine lv_iconst (v := 1) hx hb dX5_isMove_19 (by decide) ?_
      refine lv_ldc (v := 1000000) hx hb hown (hts _ bw_18) dX5_isMove_20 ?_
      refine ca_SI (rest := []) (k_X5_isWithin l D cI cJ cZ v 1 1000000 ) hx hb hml hown hts hN hK hA hP hD hS bw_163 bw_164 bw_1 bw_165 3 rfl (by decide +kernel) ⟨by decide, by decide⟩ hl.1 rfl (Nat.le_of_ble_eq_true rfl) dX5_isMove_22 ⟨Nat.zero_le _, Nat.zero_le _⟩ (fun r_22 u_u H locs w_22 hP hD hS => ?_)
      have w_22 : r_22 = if 1 ≤ v ∧ v ≤ 1000000 then 1 else 0 := w_22
      by_cases h_22 : 1 ≤ v ∧ v ≤ 1000000
      · rw [if_pos h_22] at w_22; subst w_22
        refine lv_if_eq (tgt := 32) hx hb dX5_isMove_25 (by decide) (fun h9 => absurd h9 (by decide)) (fun _ => ?_)
        refine lv_iconst (v := 1) hx hb dX5_isMove_28 (by decide) ?_
        refine lv_goto (tgt := 33) hx hb dX5_isMove_29 (by decide) ?_
        exact re_I (w1 := fun u_u : Unit => [ob_J x 5 [.int (nI hh), .ref rl, .ref bk, .ref nd, .ref st, .ref sh, .ref wy], ob_J nd 1 [.int (nI sz), .ref kp, .ref ct, .ref sa, .ref la, .ref fz]]) (v := 1) hx hb hr hlk hK hS rfl () hP hD (show _ = if (0 ≤ a ∧ a ≤ 9) ∧ (0 ≤ n ∧ n < nI sz) ∧ (1 ≤ v ∧ v ≤ 1000000) then _ else _ from by simp [h_1, h_12, h_22]) dX5_isMove_33
      · rw [if_neg h_22] at w_22; subst w_22
        refine lv_if_eq (tgt := 32) hx hb dX5_isMove_25 (by decide) (fun _ => ?_) (fun h9 => absurd (by decide) h9)
        refine lv_iconst (v := 0) hx hb dX5_isMove_32 (by decide) ?_
        exact re_I (w1 := fun u_u : Unit => [ob_J x 5 [.int (nI hh), .ref rl, .ref bk, .ref nd, .ref st, .ref sh, .ref wy], ob_J nd 1 [.int (nI sz), .ref kp, .ref ct, .ref sa, .ref la, .ref fz]]) (v := 0) hx hb hr hlk hK hS rfl () hP hD (show _ = if (0 ≤ a ∧ a ≤ 9) ∧ (0 ≤ n ∧ n < nI sz) ∧ (1 ≤ v ∧ v ≤ 1000000) then _ else _ from by simp [h_1, h_12, h_22]) dX5_isMove_33
    · rw [if_neg h_12] at w_12; subst w_12
      refine lv_if_eq (tgt := 32) hx hb dX5_isMove_15 (by decide) (fun _ => ?_) (fun h9 => absurd (by decide) h9)
      refine lv_iconst (v := 0) hx hb dX5_isMove_32 (by decide) ?_
      exact re_I (w1 := fun u_u : Unit => [ob_J x 5 [.int (nI hh), .ref rl, .ref bk, .ref nd, .ref st, .ref sh, .ref wy], ob_J nd 1 [.int (nI sz), .ref kp, .ref ct, .ref sa, .ref la, .ref fz]]) (v := 0) hx hb hr hlk hK hS rfl () hP hD (show _ = if (0 ≤ a ∧ a ≤ 9) ∧ (0 ≤ n ∧ n < nI sz) ∧ (1 ≤ v ∧ v ≤ 1000000) then _ else _ from by simp [h_1, h_12]) dX5_isMove_33
  · rw [if_neg h_1] at w_1; subst w_1
    refine lv_if_eq (tgt := 32) hx hb dX5_isMove_4 (by decide) (fun _ => ?_) (fun h9 => absurd (by decide) h9)
    refine lv_iconst (v := 0) hx hb dX5_isMove_32 (by decide) ?_
    exact re_I (w1 := fun u_u : Unit => [ob_J x 5 [.int (nI hh), .ref rl, .ref bk, .ref nd, .ref st, .ref sh, .ref wy], ob_J nd 1 [.int (nI sz), .ref kp, .ref ct, .ref sa, .ref la, .ref fz]]) (v := 0) hx hb hr hlk hK hS rfl () hP hD (show _ = if (0 ≤ a ∧ a ≤ 9) ∧ (0 ≤ n ∧ n < nI sz) ∧ (1 ≤ v ∧ v ≤ 1000000) then _ else _ from by simp [h_1]) dX5_isMove_33

set_option maxHeartbeats 4000000 in
set_option maxRecDepth 100000 in
theorem k_X5_hasSet (l : Launch) (D : va_G) (cI cJ cZ : ClassId) (x : Nat) (hh : Nat) (rl : Nat) (bk : Nat) (nd : Nat) (st : Nat) (sh : Nat) (wy : Nat) (q : Int32)  : mt_I l yX5_hasSet cX5_hasSet 2 .boolean 1 22 D cI cJ cZ [ob_J x 5 [.int (nI hh), .ref rl, .ref bk, .ref nd, .ref st, .ref sh, .ref wy]] [.ref x, .int q] (fun r (_ : Unit) => r = if 0 ≤ q ∧ q ≤ nI hh then 1 else 0) (fun u_u : Unit => [ob_J x 5 [.int (nI hh), .ref rl, .ref bk, .ref nd, .ref st, .ref sh, .ref wy]]) := by
  refine en_I (by decide) (Nat.le_of_ble_eq_true rfl) ?_
  intro p e s m below meth c A ls H locs hx hb hr hml hts hown hlk hN hK hA hP hD hS hl
  have hown : s.vm.findClass RX5 = some m.cls := hown
  have hl : lv_has ls 2 [(0, .ref x), (1, .int q)] := hl
  refine lv_iload_n hx hb dX5_hasSet_0 rfl (lv_at hl 1 rfl) ?_
  refine lv_iconst (v := 0) hx hb dX5_hasSet_1 (by decide) ?_
  refine lv_aload_n hx hb dX5_hasSet_2 rfl (lv_at hl 0 rfl) ?_
  refine va_get (ci := 5) (v := .int (nI hh)) (C := RX5) (T := TX5) (N := 7) hx hb hts bi_5 hown hK hP 0 rfl rfl 0 (by decide) (hts _ bw_133) (fun _ h9 => h9) rfl dX5_hasSet_3 ?_
  refine ca_SI (rest := []) (k_X5_isWithin l D cI cJ cZ q 0 (nI hh) ) hx hb hml hown hts hN hK hA hP hD hS bw_163 bw_164 bw_1 bw_165 3 rfl (by decide +kernel) ⟨by decide, by decide⟩ hl.1 rfl (Nat.le_of_ble_eq_true rfl) dX5_hasSet_6 ⟨Nat.zero_le _, Nat.zero_le _⟩ (fun r_6 u_u H locs w_6 hP hD hS => ?_)
  have w_6 : r_6 = if 0 ≤ q ∧ q ≤ (nI hh) then 1 else 0 := w_6
  by_cases h_6 : 0 ≤ q ∧ q ≤ (nI hh)
  · rw [if_pos h_6] at w_6; subst w_6
    exact re_I (w1 := fun u_u : Unit => [ob_J x 5 [.int (nI hh), .ref rl, .ref bk, .ref nd, .ref st, .ref sh, .ref wy]]) (v := 1) hx hb hr hlk hK hS rfl () hP hD (show _ = if 0 ≤ q ∧ q ≤ nI hh then _ else _ from by simp [h_6]) dX5_hasSet_9
  · rw [if_neg h_6] at w_6; subst w_6
    exact re_I (w1 := fun u_u : Unit => [ob_J x 5 [.int (nI hh), .ref rl, .ref bk, .ref nd, .ref st, .ref sh, .ref wy]]) (v := 0) hx hb hr hlk hK hS rfl () hP hD (show _ = if 0 ≤ q ∧ q ≤ nI hh then _ else _ from by simp [h_6]) dX5_hasSet_9

set_option maxHeartbeats 4000000 in
set_option maxRecDepth 100000 in
theorem k_X5_isUpward (l : Launch) (D : va_G) (cI cJ cZ : ClassId) (x : Nat) (hh : Nat) (rl : Nat) (bk : Nat) (nd : Nat) (st : Nat) (sh : Nat) (wy : Nat) (f : Int32) (t : Int32)  : mt_I l yX5_isUpward cX5_isUpward 3 .boolean 2 43 D cI cJ cZ [ob_J x 5 [.int (nI hh), .ref rl, .ref bk, .ref nd, .ref st, .ref sh, .ref wy]] [.ref x, .int f, .int t] (fun r (_ : Unit) => r = if (0 ≤ f ∧ f ≤ nI hh) ∧ (0 ≤ t ∧ t ≤ nI hh) ∧ f < t then 1 else 0) (fun u_u : Unit => [ob_J x 5 [.int (nI hh), .ref rl, .ref bk, .ref nd, .ref st, .ref sh, .ref wy]]) := by
  refine en_I (by decide) (Nat.le_of_ble_eq_true rfl) ?_
  intro p e s m below meth c A ls H locs hx hb hr hml hts hown hlk hN hK hA hP hD hS hl
  have hown : s.vm.findClass RX5 = some m.cls := hown
  have hl : lv_has ls 3 [(0, .ref x), (1, .int f), (2, .int t)] := hl
  refine lv_aload_n hx hb dX5_isUpward_0 rfl (lv_at hl 0 rfl) ?_
  refine lv_iload_n hx hb dX5_isUpward_1 rfl (lv_at hl 1 rfl) ?_
  refine ca_VI (rest := []) (wr := []) (w2 := fun u_u => [ob_J x 5 [.int (nI hh), .ref rl, .ref bk, .ref nd, .ref st, .ref sh, .ref wy]]) (k_X5_hasSet l D cI cJ cZ x hh rl bk nd st sh wy f ) hx hb hml hown hts hN hK hA hP hD hS 5 0 rfl rfl bw_309 bw_311 bs_6 bw_1 bw_312 1 rfl (by decide +kernel) ⟨by decide, by decide⟩ [0] [] [0] rfl rfl (by decide) (fun _ => rfl) hl.1 rfl (Nat.le_of_ble_eq_true rfl) dX5_isUpward_2 ⟨Nat.zero_le _, Nat.zero_le _⟩ (fun r_2 u_u H locs w_2 hP hD hS => ?_)
  have hP : va_P D cl_A [ob_J x 5 [.int (nI hh), .ref rl, .ref bk, .ref nd, .ref st, .ref sh, .ref wy]] H := hP
  have hD : va_D A [ob_J x 5 [.int (nI hh), .ref rl, .ref bk, .ref nd, .ref st, .ref sh, .ref wy]] := hD
  have w_2 : r_2 = if 0 ≤ f ∧ f ≤ nI hh then 1 else 0 := w_2
  by_cases h_2 : 0 ≤ f ∧ f ≤ nI hh
  · rw [if_pos h_2] at w_2; subst w_2
    refine lv_if_eq (tgt := 25) hx hb dX5_isUpward_5 (by decide) (fun h9 => absurd h9 (by decide)) (fun _ => ?_)
    refine lv_aload_n hx hb dX5_isUpward_8 rfl (lv_at hl 0 rfl) ?_
    refine lv_iload_n hx hb dX5_isUpward_9 rfl (lv_at hl 2 rfl) ?_
    refine ca_VI (rest := []) (wr := []) (w2 := fun u_u => [ob_J x 5 [.int (nI hh), .ref rl, .ref bk, .ref nd, .ref st, .ref sh, .ref wy]]) (k_X5_hasSet l D cI cJ cZ x hh rl bk nd st sh wy t ) hx hb hml hown hts hN hK hA hP hD hS 5 0 rfl rfl bw_309 bw_311 bs_6 bw_1 bw_312 1 rfl (by decide +kernel) ⟨by decide, by decide⟩ [0] [] [0] rfl rfl (by decide) (fun _ => rfl) hl.1 rfl (Nat.le_of_ble_eq_true rfl) dX5_isUpward_10 ⟨Nat.zero_le _, Nat.zero_le _⟩ (fun r_10 u_u H locs w_10 hP hD hS => ?_)
    have hP : va_P D cl_A [ob_J x 5 [.int (nI hh), .ref rl, .ref bk, .ref nd, .ref st, .ref sh, .ref wy]] H := hP
    have hD : va_D A [ob_J x 5 [.int (nI hh), .ref rl, .ref bk, .ref nd, .ref st, .ref sh, .ref wy]] := hD
    have w_10 : r_10 = if 0 ≤ t ∧ t ≤ nI hh then 1 else 0 := w_10
    by_cases h_10 : 0 ≤ t ∧ t ≤ nI hh
    · rw [if_pos h_10] at w_10; subst w_10
      refine lv_if_eq (tgt := 25) hx hb dX5_isUpward_13 (by decide) (fun h9 => absurd h9 (by decide)) (fun _ => ?_)
      refine lv_iload_n hx hb dX5_isUpward_16 rfl (lv_at hl 1 rfl) ?_
      refine lv_iload_n hx hb dX5_isUpward_17 rfl (lv_at hl 2 rfl) ?_
      refine lv_icmp_ge (tgt := 25) hx hb dX5_isUpward_18 (by decide) (fun c_18 => ?_) (fun c_18 => ?_)
      · refine lv_iconst (v := 0) hx hb dX5_isUpward_25 (by decide) ?_
        exact re_I (w1 := fun u_u : Unit => [ob_J x 5 [.int (nI hh), .ref rl, .ref bk, .ref nd, .ref st, .ref sh, .ref wy]]) (v := 0) hx hb hr hlk hK hS rfl () hP hD (show _ = if (0 ≤ f ∧ f ≤ nI hh) ∧ (0 ≤ t ∧ t ≤ nI hh) ∧ f < t then _ else _ from (if_neg (fun z => absurd z.2.2 (Int32.not_lt.mpr c_18))).symm) dX5_isUpward_26
      · refine lv_iconst (v := 1) hx hb dX5_isUpward_21 (by decide) ?_
        refine lv_goto (tgt := 26) hx hb dX5_isUpward_22 (by decide) ?_
        exact re_I (w1 := fun u_u : Unit => [ob_J x 5 [.int (nI hh), .ref rl, .ref bk, .ref nd, .ref st, .ref sh, .ref wy]]) (v := 1) hx hb hr hlk hK hS rfl () hP hD (show _ = if (0 ≤ f ∧ f ≤ nI hh) ∧ (0 ≤ t ∧ t ≤ nI hh) ∧ f < t then _ else _ from (if_pos ⟨h_2, h_10, Int32.not_le.mp c_18⟩).symm) dX5_isUpward_26
    · rw [if_neg h_10] at w_10; subst w_10
      refine lv_if_eq (tgt := 25) hx hb dX5_isUpward_13 (by decide) (fun _ => ?_) (fun h9 => absurd (by decide) h9)
      refine lv_iconst (v := 0) hx hb dX5_isUpward_25 (by decide) ?_
      exact re_I (w1 := fun u_u : Unit => [ob_J x 5 [.int (nI hh), .ref rl, .ref bk, .ref nd, .ref st, .ref sh, .ref wy]]) (v := 0) hx hb hr hlk hK hS rfl () hP hD (show _ = if (0 ≤ f ∧ f ≤ nI hh) ∧ (0 ≤ t ∧ t ≤ nI hh) ∧ f < t then _ else _ from (if_neg (fun z => h_10 z.2.1)).symm) dX5_isUpward_26
  · rw [if_neg h_2] at w_2; subst w_2
    refine lv_if_eq (tgt := 25) hx hb dX5_isUpward_5 (by decide) (fun _ => ?_) (fun h9 => absurd (by decide) h9)
    refine lv_iconst (v := 0) hx hb dX5_isUpward_25 (by decide) ?_
    exact re_I (w1 := fun u_u : Unit => [ob_J x 5 [.int (nI hh), .ref rl, .ref bk, .ref nd, .ref st, .ref sh, .ref wy]]) (v := 0) hx hb hr hlk hK hS rfl () hP hD (show _ = if (0 ≤ f ∧ f ≤ nI hh) ∧ (0 ≤ t ∧ t ≤ nI hh) ∧ f < t then _ else _ from (if_neg (fun z => h_2 z.1)).symm) dX5_isUpward_26

set_option maxHeartbeats 4000000 in
set_option maxRecDepth 100000 in
theorem k_X5_fund (l : Launch) (D : va_G) (cI cJ cZ : ClassId) (x : Nat) (bk : Nat) (bal : Nat) (hh : Nat) (rl : Nat) (nd : Nat) (st : Nat) (sh : Nat) (wy : Nat) (funded : Int32) (rewarded : Int32) (stk : Nat) (due : Nat) (fbal : Nat → Int32) (a : Int32) (v : Int32)  : mt_I l yX5_fund cX5_fund 3 .int 2 42 D cI cJ cZ [ob_J x 5 [.int (nI hh), .ref rl, .ref bk, .ref nd, .ref st, .ref sh, .ref wy], ob_J bk 0 [.int funded, .int rewarded, .ref bal, .ref stk, .ref due], ar_I bal cI 10 fbal] [.ref x, .int a, .int v] (fun r (u_u : Unit) => r = rr_fund funded fbal a v) (fun u_u : Unit => [ob_J x 5 [.int (nI hh), .ref rl, .ref bk, .ref nd, .ref st, .ref sh, .ref wy], ob_J bk 0 [.int (fd_fund funded a v), .int rewarded, .ref bal, .ref stk, .ref due], ar_I bal cI 10 (ba_fund funded fbal a v)]) := by
  refine en_I (by decide) (Nat.le_of_ble_eq_true rfl) ?_
  intro p e s m below meth c A ls H locs hx hb hr hml hts hown hlk hN hK hA hP hD hS hl
  have hown : s.vm.findClass RX5 = some m.cls := hown
  have hl : lv_has ls 3 [(0, .ref x), (1, .int a), (2, .int v)] := hl
  refine lv_iload_n hx hb dX5_fund_0 rfl (lv_at hl 1 rfl) ?_
  refine ca_SI (rest := []) (k_X5_isAccount l D cI cJ cZ a ) hx hb hml hown hts hN hK hA hP hD hS bw_170 bw_171 bw_1 bw_172 1 rfl (by decide +kernel) ⟨by decide, by decide⟩ hl.1 rfl (Nat.le_of_ble_eq_true rfl) dX5_fund_1 ⟨Nat.zero_le _, Nat.zero_le _⟩ (fun r_1 u_u H locs w_1 hP hD hS => ?_)
  have w_1 : r_1 = if 0 ≤ a ∧ a ≤ 9 then 1 else 0 := w_1
  by_cases h_1 : 0 ≤ a ∧ a ≤ 9
  · rw [if_pos h_1] at w_1; subst w_1
    obtain ⟨ia, h_ia, rfl⟩ : ∃ z : Nat, z < 10 ∧ a = nI z := ix_le (by decide) h_1
    have t_ia := tn_nI (n := ia) (by omega)
    refine lv_if_eq (tgt := 17) hx hb dX5_fund_4 (by decide) (fun h9 => absurd h9 (by decide)) (fun _ => ?_)
    refine lv_iload_n hx hb dX5_fund_7 rfl (lv_at hl 2 rfl) ?_
    refine lv_iconst (v := 1) hx hb dX5_fund_8 (by decide) ?_
    refine lv_ldc (v := 100000) hx hb hown (hts _ bw_173) dX5_fund_9 ?_
    refine ca_SI (rest := []) (k_X5_isWithin l D cI cJ cZ v 1 100000 ) hx hb hml hown hts hN hK hA hP hD hS bw_163 bw_164 bw_1 bw_165 3 rfl (by decide +kernel) ⟨by decide, by decide⟩ hl.1 rfl (Nat.le_of_ble_eq_true rfl) dX5_fund_11 ⟨Nat.zero_le _, Nat.zero_le _⟩ (fun r_11 u_u H locs w_11 hP hD hS => ?_)
    have w_11 : r_11 = if 1 ≤ v ∧ v ≤ 100000 then 1 else 0 := w_11
    by_cases h_11 : 1 ≤ v ∧ v ≤ 100000
    · rw [if_pos h_11] at w_11; subst w_11
      refine lv_if_ne (tgt := 19) hx hb dX5_fund_14 (by decide) (fun _ => ?_) (fun h9 => absurd h9 (by decide))
      refine lv_aload_n hx hb dX5_fund_19 rfl (lv_at hl 0 rfl) ?_
      refine va_get (ci := 5) (v := .ref bk) (C := RX5) (T := TX5) (N := 7) hx hb hts bi_5 hown hK hP 0 rfl rfl 2 (by decide) (hts _ bw_135) (fun _ h9 => h9) rfl dX5_fund_20 ?_
      refine va_get (ci := 0) (v := .int funded) (C := RX0) (T := TX0) (N := 5) hx hb hts bi_0 hown hK hP 1 rfl rfl 0 (by decide) (hts _ bw_25) (fun _ h9 => h9) rfl dX5_fund_23 ?_
      refine lv_iload_n hx hb dX5_fund_26 rfl (lv_at hl 2 rfl) ?_
      refine lv_iadd hx hb dX5_fund_27 ?_
      refine lv_ldc (v := 1000000) hx hb hown (hts _ bw_18) dX5_fund_28 ?_
      refine lv_icmp_le (tgt := 36) hx hb dX5_fund_30 (by decide) (fun c_30 => ?_) (fun c_30 => ?_)
      · refine lv_aload_n hx hb dX5_fund_36 rfl (lv_at hl 0 rfl) ?_
        refine va_get (ci := 5) (v := .ref bk) (C := RX5) (T := TX5) (N := 7) hx hb hts bi_5 hown hK hP 0 rfl rfl 2 (by decide) (hts _ bw_135) (fun _ h9 => h9) rfl dX5_fund_37 ?_
        refine lv_dup hx hb dX5_fund_40 rfl ?_
        refine va_get (ci := 0) (v := .int funded) (C := RX0) (T := TX0) (N := 5) hx hb hts bi_0 hown hK hP 1 rfl rfl 0 (by decide) (hts _ bw_25) (fun _ h9 => h9) rfl dX5_fund_41 ?_
        refine lv_iload_n hx hb dX5_fund_44 rfl (lv_at hl 2 rfl) ?_
        refine lv_iadd hx hb dX5_fund_45 ?_
        refine va_put (ci := 0) (v := .int (funded + v)) (ty := .int) (C := RX0) (T := TX0) (N := 5) hx hb hts bi_0 tyX0 tyX0_ok nmX0 hown hK hP hD hS 1 rfl rfl 0 (by decide) (hts _ bw_25) (fun _ h9 => h9) rfl (by decide +kernel) rfl rfl (Nat.le_of_ble_eq_true rfl) dX5_fund_46 (fun H locs hP hD hS => ?_)
        have hP : va_P D cl_A [ob_J x 5 [.int (nI hh), .ref rl, .ref bk, .ref nd, .ref st, .ref sh, .ref wy], ob_J bk 0 [.int (funded + v), .int rewarded, .ref bal, .ref stk, .ref due], ar_I bal cI 10 fbal] H := hP
        have hD : va_D A [ob_J x 5 [.int (nI hh), .ref rl, .ref bk, .ref nd, .ref st, .ref sh, .ref wy], ob_J bk 0 [.int (funded + v), .int rewarded, .ref bal, .ref stk, .ref due], ar_I bal cI 10 fbal] := hD
        refine lv_aload_n hx hb dX5_fund_49 rfl (lv_at hl 0 rfl) ?_
        refine va_get (ci := 5) (v := .ref bk) (C := RX5) (T := TX5) (N := 7) hx hb hts bi_5 hown hK hP 0 rfl rfl 2 (by decide) (hts _ bw_135) (fun _ h9 => h9) rfl dX5_fund_50 ?_
        refine va_get (ci := 0) (v := .ref bal) (C := RX0) (T := TX0) (N := 5) hx hb hts bi_0 hown hK hP 1 rfl rfl 2 (by decide) (hts _ bw_28) (fun _ h9 => h9) rfl dX5_fund_53 ?_
        refine lv_iload_n hx hb dX5_fund_56 rfl (lv_at hl 1 rfl) ?_
        refine lv_dup2_11 hx hb dX5_fund_57 rfl rfl ?_
        refine ar_ld hx hb hK hP 2 (k := ia) rfl rfl (by omega) (by decide) dX5_fund_58 ?_
        refine lv_iload_n hx hb dX5_fund_59 rfl (lv_at hl 2 rfl) ?_
        refine lv_iadd hx hb dX5_fund_60 ?_
        refine ar_st hx hb hK hP hD hS 2 (k := ia) rfl rfl (by omega) (by decide) dX5_fund_61 _ rfl (fun H locs hP hD hS => ?_)
        have hP : va_P D cl_A [ob_J x 5 [.int (nI hh), .ref rl, .ref bk, .ref nd, .ref st, .ref sh, .ref wy], ob_J bk 0 [.int (funded + v), .int rewarded, .ref bal, .ref stk, .ref due], ar_I bal cI 10 (upd fbal ia ((fbal ia) + v))] H := hP
        have hD : va_D A [ob_J x 5 [.int (nI hh), .ref rl, .ref bk, .ref nd, .ref st, .ref sh, .ref wy], ob_J bk 0 [.int (funded + v), .int rewarded, .ref bal, .ref stk, .ref due], ar_I bal cI 10 (upd fbal ia ((fbal ia) + v))] := hD
        refine lv_aload_n hx hb dX5_fund_62 rfl (lv_at hl 0 rfl) ?_
        refine va_get (ci := 5) (v := .ref bk) (C := RX5) (T := TX5) (N := 7) hx hb hts bi_5 hown hK hP 0 rfl rfl 2 (by decide) (hts _ bw_135) (fun _ h9 => h9) rfl dX5_fund_63 ?_
        refine va_get (ci := 0) (v := .ref bal) (C := RX0) (T := TX0) (N := 5) hx hb hts bi_0 hown hK hP 1 rfl rfl 2 (by decide) (hts _ bw_28) (fun _ h9 => h9) rfl dX5_fund_66 ?_
        refine lv_iload_n hx hb dX5_fund_69 rfl (lv_at hl 1 rfl) ?_
        refine ar_ld hx hb hK hP 2 (k := ia) rfl rfl (by omega) (by decide) dX5_fund_70 ?_
        have q_1 : funded + v = fd_fund funded (nI ia) v := by simp [rr_fund, fd_fund, ba_fund, fu_P, up_i, h_1, t_ia, h_11, c_30]
        obtain ⟨hP, hD⟩ := cs_W (fun z_z => [ob_J x 5 [.int (nI hh), .ref rl, .ref bk, .ref nd, .ref st, .ref sh, .ref wy], ob_J bk 0 [.int z_z, .int rewarded, .ref bal, .ref stk, .ref due], ar_I bal cI 10 (upd fbal ia ((fbal ia) + v))]) q_1 hP hD
        have q_2 : upd fbal ia ((fbal ia) + v) = ba_fund funded fbal (nI ia) v := by simp [rr_fund, fd_fund, ba_fund, fu_P, up_i, h_1, t_ia, h_11, c_30]
        obtain ⟨hP, hD⟩ := cs_W (fun z_z => [ob_J x 5 [.int (nI hh), .ref rl, .ref bk, .ref nd, .ref st, .ref sh, .ref wy], ob_J bk 0 [.int (fd_fund funded (nI ia) v), .int rewarded, .ref bal, .ref stk, .ref due], ar_I bal cI 10 z_z]) q_2 hP hD
        exact re_I (w1 := fun u_u : Unit => [ob_J x 5 [.int (nI hh), .ref rl, .ref bk, .ref nd, .ref st, .ref sh, .ref wy], ob_J bk 0 [.int (fd_fund funded (nI ia) v), .int rewarded, .ref bal, .ref stk, .ref due], ar_I bal cI 10 (ba_fund funded fbal (nI ia) v)]) (v := (upd fbal ia ((fbal ia) + v)) ia) hx hb hr hlk hK hS rfl () hP hD (show (upd fbal ia ((fbal ia) + v)) ia = rr_fund funded fbal (nI ia) v from by simp [rr_fund, fd_fund, ba_fund, fu_P, up_i, h_1, t_ia, h_11, c_30]) dX5_fund_71
      · refine lv_bipush (v := (-3)) hx hb dX5_fund_33 (by decide) ?_
        have q_3 : funded = fd_fund funded (nI ia) v := by simp [rr_fund, fd_fund, ba_fund, fu_P, up_i, h_1, t_ia, h_11, c_30]
        obtain ⟨hP, hD⟩ := cs_W (fun z_z => [ob_J x 5 [.int (nI hh), .ref rl, .ref bk, .ref nd, .ref st, .ref sh, .ref wy], ob_J bk 0 [.int z_z, .int rewarded, .ref bal, .ref stk, .ref due], ar_I bal cI 10 fbal]) q_3 hP hD
        have q_4 : fbal = ba_fund funded fbal (nI ia) v := by simp [rr_fund, fd_fund, ba_fund, fu_P, up_i, h_1, t_ia, h_11, c_30]
        obtain ⟨hP, hD⟩ := cs_W (fun z_z => [ob_J x 5 [.int (nI hh), .ref rl, .ref bk, .ref nd, .ref st, .ref sh, .ref wy], ob_J bk 0 [.int (fd_fund funded (nI ia) v), .int rewarded, .ref bal, .ref stk, .ref due], ar_I bal cI 10 z_z]) q_4 hP hD
        exact re_I (w1 := fun u_u : Unit => [ob_J x 5 [.int (nI hh), .ref rl, .ref bk, .ref nd, .ref st, .ref sh, .ref wy], ob_J bk 0 [.int (fd_fund funded (nI ia) v), .int rewarded, .ref bal, .ref stk, .ref due], ar_I bal cI 10 (ba_fund funded fbal (nI ia) v)]) (v := (-3)) hx hb hr hlk hK hS rfl () hP hD (show (-3) = rr_fund funded fbal (nI ia) v from by simp [rr_fund, fd_fund, ba_fund, fu_P, up_i, h_1, t_ia, h_11, c_30]) dX5_fund_35
    · rw [if_neg h_11] at w_11; subst w_11
      refine lv_if_ne (tgt := 19) hx hb dX5_fund_14 (by decide) (fun h9 => absurd (by decide) h9) (fun _ => ?_)
      refine lv_iconst (v := (-1)) hx hb dX5_fund_17 (by decide) ?_
      have q_5 : funded = fd_fund funded (nI ia) v := by simp [rr_fund, fd_fund, ba_fund, fu_P, up_i, h_1, t_ia, h_11]
      obtain ⟨hP, hD⟩ := cs_W (fun z_z => [ob_J x 5 [.int (nI hh), .ref rl, .ref bk, .ref nd, .ref st, .ref sh, .ref wy], ob_J bk 0 [.int z_z, .int rewarded, .ref bal, .ref stk, .ref due], ar_I bal cI 10 fbal]) q_5 hP hD
      have q_6 : fbal = ba_fund funded fbal (nI ia) v := by simp [rr_fund, fd_fund, ba_fund, fu_P, up_i, h_1, t_ia, h_11]
      obtain ⟨hP, hD⟩ := cs_W (fun z_z => [ob_J x 5 [.int (nI hh), .ref rl, .ref bk, .ref nd, .ref st, .ref sh, .ref wy], ob_J bk 0 [.int (fd_fund funded (nI ia) v), .int rewarded, .ref bal, .ref stk, .ref due], ar_I bal cI 10 z_z]) q_6 hP hD
      exact re_I (w1 := fun u_u : Unit => [ob_J x 5 [.int (nI hh), .ref rl, .ref bk, .ref nd, .ref st, .ref sh, .ref wy], ob_J bk 0 [.int (fd_fund funded (nI ia) v), .int rewarded, .ref bal, .ref stk, .ref due], ar_I bal cI 10 (ba_fund funded fbal (nI ia) v)]) (v := (-1)) hx hb hr hlk hK hS rfl () hP hD (show (-1) = rr_fund funded fbal (nI ia) v from by simp [rr_fund, fd_fund, ba_fund, fu_P, up_i, h_1, t_ia, h_11]) dX5_fund_18
  · rw [if_neg h_1] at w_1; subst w_1
    refine lv_if_eq (tgt := 17) hx hb dX5_fund_4 (by decide) (fun _ => ?_) (fun h9 => absurd (by decide) h9)
    refine lv_iconst (v := (-1)) hx hb dX5_fund_17 (by decide) ?_
    have q_7 : funded = fd_fund funded a v := by simp [rr_fund, fd_fund, ba_fund, fu_P, up_i, h_1]
    obtain ⟨hP, hD⟩ := cs_W (fun z_z => [ob_J x 5 [.int (nI hh), .ref rl, .ref bk, .ref nd, .ref st, .ref sh, .ref wy], ob_J bk 0 [.int z_z, .int rewarded, .ref bal, .ref stk, .ref due], ar_I bal cI 10 fbal]) q_7 hP hD
    have q_8 : fbal = ba_fund funded fbal a v := by simp [rr_fund, fd_fund, ba_fund, fu_P, up_i, h_1]
    obtain ⟨hP, hD⟩ := cs_W (fun z_z => [ob_J x 5 [.int (nI hh), .ref rl, .ref bk, .ref nd, .ref st, .ref sh, .ref wy], ob_J bk 0 [.int (fd_fund funded a v), .int rewarded, .ref bal, .ref stk, .ref due], ar_I bal cI 10 z_z]) q_8 hP hD
    exact re_I (w1 := fun u_u : Unit => [ob_J x 5 [.int (nI hh), .ref rl, .ref bk, .ref nd, .ref st, .ref sh, .ref wy], ob_J bk 0 [.int (fd_fund funded a v), .int rewarded, .ref bal, .ref stk, .ref due], ar_I bal cI 10 (ba_fund funded fbal a v)]) (v := (-1)) hx hb hr hlk hK hS rfl () hP hD (show (-1) = rr_fund funded fbal a v from by simp [rr_fund, fd_fund, ba_fund, fu_P, up_i, h_1]) dX5_fund_18

set_option maxHeartbeats 4000000 in
set_option maxRecDepth 100000 in
theorem k_X5_node (l : Launch) (D : va_G) (cI cJ cZ : ClassId) (x : Nat) (nd : Nat) (kp : Nat) (ct : Nat) (sa : Nat) (la : Nat) (hh : Nat) (rl : Nat) (bk : Nat) (st : Nat) (sh : Nat) (wy : Nat) (sz : Nat) (fz : Nat) (fkp : Nat → Int32) (fct : Nat → Int32) (fsa : Nat → Int32) (fla : Nat → Int32) (k : Int32) (c_ : Int32) (hsz : sz ≤ 8) : mt_I l yX5_node cX5_node 3 .int 2 42 D cI cJ cZ [ob_J x 5 [.int (nI hh), .ref rl, .ref bk, .ref nd, .ref st, .ref sh, .ref wy], ob_J nd 1 [.int (nI sz), .ref kp, .ref ct, .ref sa, .ref la, .ref fz], ar_I kp cI 8 fkp, ar_I ct cI 8 fct, ar_I sa cI 8 fsa, ar_I la cI 8 fla] [.ref x, .int k, .int c_] (fun r (u_u : Unit) => r = rr_node sz k c_) (fun u_u : Unit => [ob_J x 5 [.int (nI hh), .ref rl, .ref bk, .ref nd, .ref st, .ref sh, .ref wy], ob_J nd 1 [.int (nI (sz_node sz k c_)), .ref kp, .ref ct, .ref sa, .ref la, .ref fz], ar_I kp cI 8 (up_node sz k c_ fkp k), ar_I ct cI 8 (up_node sz k c_ fct c_), ar_I sa cI 8 (up_node sz k c_ fsa 0), ar_I la cI 8 (up_node sz k c_ fla (-2))]) := by
  refine en_I (by decide) (Nat.le_of_ble_eq_true rfl) ?_
  intro p e s m below meth c A ls H locs hx hb hr hml hts hown hlk hN hK hA hP hD hS hl
  have hown : s.vm.findClass RX5 = some m.cls := hown
  have hl : lv_has ls 3 [(0, .ref x), (1, .int k), (2, .int c_)] := hl
  refine lv_iload_n hx hb dX5_node_0 rfl (lv_at hl 1 rfl) ?_
  refine ca_SI (rest := []) (k_X5_isAccount l D cI cJ cZ k ) hx hb hml hown hts hN hK hA hP hD hS bw_170 bw_171 bw_1 bw_172 1 rfl (by decide +kernel) ⟨by decide, by decide⟩ hl.1 rfl (Nat.le_of_ble_eq_true rfl) dX5_node_1 ⟨Nat.zero_le _, Nat.zero_le _⟩ (fun r_1 u_u H locs w_1 hP hD hS => ?_)
  have w_1 : r_1 = if 0 ≤ k ∧ k ≤ 9 then 1 else 0 := w_1
  by_cases h_1 : 0 ≤ k ∧ k ≤ 9
  · rw [if_pos h_1] at w_1; subst w_1
    refine lv_if_eq (tgt := 17) hx hb dX5_node_4 (by decide) (fun h9 => absurd h9 (by decide)) (fun _ => ?_)
    refine lv_iload_n hx hb dX5_node_7 rfl (lv_at hl 2 rfl) ?_
    refine lv_iconst (v := 0) hx hb dX5_node_8 (by decide) ?_
    refine lv_bipush (v := 100) hx hb dX5_node_9 (by decide) ?_
    refine ca_SI (rest := []) (k_X5_isWithin l D cI cJ cZ c_ 0 100 ) hx hb hml hown hts hN hK hA hP hD hS bw_163 bw_164 bw_1 bw_165 3 rfl (by decide +kernel) ⟨by decide, by decide⟩ hl.1 rfl (Nat.le_of_ble_eq_true rfl) dX5_node_11 ⟨Nat.zero_le _, Nat.zero_le _⟩ (fun r_11 u_u H locs w_11 hP hD hS => ?_)
    have w_11 : r_11 = if 0 ≤ c_ ∧ c_ ≤ 100 then 1 else 0 := w_11
    by_cases h_11 : 0 ≤ c_ ∧ c_ ≤ 100
    · rw [if_pos h_11] at w_11; subst w_11
      refine lv_if_ne (tgt := 19) hx hb dX5_node_14 (by decide) (fun _ => ?_) (fun h9 => absurd h9 (by decide))
      refine lv_aload_n hx hb dX5_node_19 rfl (lv_at hl 0 rfl) ?_
      refine va_get (ci := 5) (v := .ref nd) (C := RX5) (T := TX5) (N := 7) hx hb hts bi_5 hown hK hP 0 rfl rfl 3 (by decide) (hts _ bw_136) (fun _ h9 => h9) rfl dX5_node_20 ?_
      refine va_get (ci := 1) (v := .int (nI sz)) (C := RX1) (T := TX1) (N := 6) hx hb hts bi_1 hown hK hP 1 rfl rfl 0 (by decide) (hts _ bw_52) (fun _ h9 => h9) rfl dX5_node_23 ?_
      refine lv_bipush (v := 8) hx hb dX5_node_26 (by decide) ?_
      refine lv_icmp_lt (tgt := 34) hx hb dX5_node_28 (by decide) (fun c_28 => ?_) (fun c_28 => ?_)
      · have c_28 := qq_lt (a := sz) (b := 8) c_28 (by omega) (by omega)
        refine lv_aload_n hx hb dX5_node_34 rfl (lv_at hl 0 rfl) ?_
        refine va_get (ci := 5) (v := .ref nd) (C := RX5) (T := TX5) (N := 7) hx hb hts bi_5 hown hK hP 0 rfl rfl 3 (by decide) (hts _ bw_136) (fun _ h9 => h9) rfl dX5_node_35 ?_
        refine lv_iload_n hx hb dX5_node_38 rfl (lv_at hl 1 rfl) ?_
        refine lv_iload_n hx hb dX5_node_39 rfl (lv_at hl 2 rfl) ?_
        refine ca_VI (rest := []) (wr := [ob_J x 5 [.int (nI hh), .ref rl, .ref bk, .ref nd, .ref st, .ref sh, .ref wy]]) (w2 := fun u_u => [ob_J x 5 [.int (nI hh), .ref rl, .ref bk, .ref nd, .ref st, .ref sh, .ref wy], ob_J nd 1 [.int (nI (sz + 1)), .ref kp, .ref ct, .ref sa, .ref la, .ref fz], ar_I kp cI 8 (upd fkp sz k), ar_I ct cI 8 (upd fct sz c_), ar_I sa cI 8 (upd fsa sz 0), ar_I la cI 8 (upd fla sz (-2))]) (k_X1_open l D cI cJ cZ nd kp ct sa la sz fz fkp fct fsa fla k c_ (by first | assumption | omega)) hx hb hml hown hts hN hK hA hP hD hS 1 0 rfl rfl bw_178 bw_179 bw_180 bw_3 bw_181 2 rfl (by decide +kernel) ⟨by decide, by decide⟩ [1, 2, 3, 4, 5] [0] [0, 1, 2, 3, 4, 5] rfl rfl (by decide) (fun _ => rfl) hl.1 rfl (Nat.le_of_ble_eq_true rfl) dX5_node_40 ⟨Nat.zero_le _, Nat.zero_le _⟩ (fun r_40 u_u H locs w_40 hP hD hS => ?_)
        have hP : va_P D cl_A [ob_J x 5 [.int (nI hh), .ref rl, .ref bk, .ref nd, .ref st, .ref sh, .ref wy], ob_J nd 1 [.int (nI (sz + 1)), .ref kp, .ref ct, .ref sa, .ref la, .ref fz], ar_I kp cI 8 (upd fkp sz k), ar_I ct cI 8 (upd fct sz c_), ar_I sa cI 8 (upd fsa sz 0), ar_I la cI 8 (upd fla sz (-2))] H := hP
        have hD : va_D A [ob_J x 5 [.int (nI hh), .ref rl, .ref bk, .ref nd, .ref st, .ref sh, .ref wy], ob_J nd 1 [.int (nI (sz + 1)), .ref kp, .ref ct, .ref sa, .ref la, .ref fz], ar_I kp cI 8 (upd fkp sz k), ar_I ct cI 8 (upd fct sz c_), ar_I sa cI 8 (upd fsa sz 0), ar_I la cI 8 (upd fla sz (-2))] := hD
        have w_40 : r_40 = nI sz := w_40
        subst w_40
        have q_1 : nI (sz + 1) = nI (sz_node sz k c_) := by simp [rr_node, sz_node, up_node, no_P, h_1, h_11, c_28]
        obtain ⟨hP, hD⟩ := cs_W (fun z_z => [ob_J x 5 [.int (nI hh), .ref rl, .ref bk, .ref nd, .ref st, .ref sh, .ref wy], ob_J nd 1 [.int z_z, .ref kp, .ref ct, .ref sa, .ref la, .ref fz], ar_I kp cI 8 (upd fkp sz k), ar_I ct cI 8 (upd fct sz c_), ar_I sa cI 8 (upd fsa sz 0), ar_I la cI 8 (upd fla sz (-2))]) q_1 hP hD
        have q_2 : upd fkp sz k = up_node sz k c_ fkp k := by simp [rr_node, sz_node, up_node, no_P, h_1, h_11, c_28]
        obtain ⟨hP, hD⟩ := cs_W (fun z_z => [ob_J x 5 [.int (nI hh), .ref rl, .ref bk, .ref nd, .ref st, .ref sh, .ref wy], ob_J nd 1 [.int (nI (sz_node sz k c_)), .ref kp, .ref ct, .ref sa, .ref la, .ref fz], ar_I kp cI 8 z_z, ar_I ct cI 8 (upd fct sz c_), ar_I sa cI 8 (upd fsa sz 0), ar_I la cI 8 (upd fla sz (-2))]) q_2 hP hD
        have q_3 : upd fct sz c_ = up_node sz k c_ fct c_ := by simp [rr_node, sz_node, up_node, no_P, h_1, h_11, c_28]
        obtain ⟨hP, hD⟩ := cs_W (fun z_z => [ob_J x 5 [.int (nI hh), .ref rl, .ref bk, .ref nd, .ref st, .ref sh, .ref wy], ob_J nd 1 [.int (nI (sz_node sz k c_)), .ref kp, .ref ct, .ref sa, .ref la, .ref fz], ar_I kp cI 8 (up_node sz k c_ fkp k), ar_I ct cI 8 z_z, ar_I sa cI 8 (upd fsa sz 0), ar_I la cI 8 (upd fla sz (-2))]) q_3 hP hD
        have q_4 : upd fsa sz 0 = up_node sz k c_ fsa 0 := by simp [rr_node, sz_node, up_node, no_P, h_1, h_11, c_28]
        obtain ⟨hP, hD⟩ := cs_W (fun z_z => [ob_J x 5 [.int (nI hh), .ref rl, .ref bk, .ref nd, .ref st, .ref sh, .ref wy], ob_J nd 1 [.int (nI (sz_node sz k c_)), .ref kp, .ref ct, .ref sa, .ref la, .ref fz], ar_I kp cI 8 (up_node sz k c_ fkp k), ar_I ct cI 8 (up_node sz k c_ fct c_), ar_I sa cI 8 z_z, ar_I la cI 8 (upd fla sz (-2))]) q_4 hP hD
        have q_5 : upd fla sz (-2) = up_node sz k c_ fla (-2) := by simp [rr_node, sz_node, up_node, no_P, h_1, h_11, c_28]
        obtain ⟨hP, hD⟩ := cs_W (fun z_z => [ob_J x 5 [.int (nI hh), .ref rl, .ref bk, .ref nd, .ref st, .ref sh, .ref wy], ob_J nd 1 [.int (nI (sz_node sz k c_)), .ref kp, .ref ct, .ref sa, .ref la, .ref fz], ar_I kp cI 8 (up_node sz k c_ fkp k), ar_I ct cI 8 (up_node sz k c_ fct c_), ar_I sa cI 8 (up_node sz k c_ fsa 0), ar_I la cI 8 z_z]) q_5 hP hD
        exact re_I (w1 := fun u_u : Unit => [ob_J x 5 [.int (nI hh), .ref rl, .ref bk, .ref nd, .ref st, .ref sh, .ref wy], ob_J nd 1 [.int (nI (sz_node sz k c_)), .ref kp, .ref ct, .ref sa, .ref la, .ref fz], ar_I kp cI 8 (up_node sz k c_ fkp k), ar_I ct cI 8 (up_node sz k c_ fct c_), ar_I sa cI 8 (up_node sz k c_ fsa 0), ar_I la cI 8 (up_node sz k c_ fla (-2))]) (v := nI sz) hx hb hr hlk hK hS rfl () hP hD (show nI sz = rr_node sz k c_ from by simp [rr_node, sz_node, up_node, no_P, h_1, h_11, c_28]) dX5_node_43
      · have c_28 := qq_nlt (a := sz) (b := 8) c_28 (by omega) (by omega)
        have c_28 := Nat.not_lt.mpr c_28
        refine lv_bipush (v := (-3)) hx hb dX5_node_31 (by decide) ?_
        have q_6 : nI sz = nI (sz_node sz k c_) := by simp [rr_node, sz_node, up_node, no_P, h_1, h_11, c_28]
        obtain ⟨hP, hD⟩ := cs_W (fun z_z => [ob_J x 5 [.int (nI hh), .ref rl, .ref bk, .ref nd, .ref st, .ref sh, .ref wy], ob_J nd 1 [.int z_z, .ref kp, .ref ct, .ref sa, .ref la, .ref fz], ar_I kp cI 8 fkp, ar_I ct cI 8 fct, ar_I sa cI 8 fsa, ar_I la cI 8 fla]) q_6 hP hD
        have q_7 : fkp = up_node sz k c_ fkp k := by simp [rr_node, sz_node, up_node, no_P, h_1, h_11, c_28]
        obtain ⟨hP, hD⟩ := cs_W (fun z_z => [ob_J x 5 [.int (nI hh), .ref rl, .ref bk, .ref nd, .ref st, .ref sh, .ref wy], ob_J nd 1 [.int (nI (sz_node sz k c_)), .ref kp, .ref ct, .ref sa, .ref la, .ref fz], ar_I kp cI 8 z_z, ar_I ct cI 8 fct, ar_I sa cI 8 fsa, ar_I la cI 8 fla]) q_7 hP hD
        have q_8 : fct = up_node sz k c_ fct c_ := by simp [rr_node, sz_node, up_node, no_P, h_1, h_11, c_28]
        obtain ⟨hP, hD⟩ := cs_W (fun z_z => [ob_J x 5 [.int (nI hh), .ref rl, .ref bk, .ref nd, .ref st, .ref sh, .ref wy], ob_J nd 1 [.int (nI (sz_node sz k c_)), .ref kp, .ref ct, .ref sa, .ref la, .ref fz], ar_I kp cI 8 (up_node sz k c_ fkp k), ar_I ct cI 8 z_z, ar_I sa cI 8 fsa, ar_I la cI 8 fla]) q_8 hP hD
        have q_9 : fsa = up_node sz k c_ fsa 0 := by simp [rr_node, sz_node, up_node, no_P, h_1, h_11, c_28]
        obtain ⟨hP, hD⟩ := cs_W (fun z_z => [ob_J x 5 [.int (nI hh), .ref rl, .ref bk, .ref nd, .ref st, .ref sh, .ref wy], ob_J nd 1 [.int (nI (sz_node sz k c_)), .ref kp, .ref ct, .ref sa, .ref la, .ref fz], ar_I kp cI 8 (up_node sz k c_ fkp k), ar_I ct cI 8 (up_node sz k c_ fct c_), ar_I sa cI 8 z_z, ar_I la cI 8 fla]) q_9 hP hD
        have q_10 : fla = up_node sz k c_ fla (-2) := by simp [rr_node, sz_node, up_node, no_P, h_1, h_11, c_28]
        obtain ⟨hP, hD⟩ := cs_W (fun z_z => [ob_J x 5 [.int (nI hh), .ref rl, .ref bk, .ref nd, .ref st, .ref sh, .ref wy], ob_J nd 1 [.int (nI (sz_node sz k c_)), .ref kp, .ref ct, .ref sa, .ref la, .ref fz], ar_I kp cI 8 (up_node sz k c_ fkp k), ar_I ct cI 8 (up_node sz k c_ fct c_), ar_I sa cI 8 (up_node sz k c_ fsa 0), ar_I la cI 8 z_z]) q_10 hP hD
        exact re_I (w1 := fun u_u : Unit => [ob_J x 5 [.int (nI hh), .ref rl, .ref bk, .ref nd, .ref st, .ref sh, .ref wy], ob_J nd 1 [.int (nI (sz_node sz k c_)), .ref kp, .ref ct, .ref sa, .ref la, .ref fz], ar_I kp cI 8 (up_node sz k c_ fkp k), ar_I ct cI 8 (up_node sz k c_ fct c_), ar_I sa cI 8 (up_node sz k c_ fsa 0), ar_I la cI 8 (up_node sz k c_ fla (-2))]) (v := (-3)) hx hb hr hlk hK hS rfl () hP hD (show (-3) = rr_node sz k c_ from by simp [rr_node, sz_node, up_node, no_P, h_1, h_11, c_28]) dX5_node_33
    · rw [if_neg h_11] at w_11; subst w_11
      refine lv_if_ne (tgt := 19) hx hb dX5_node_14 (by decide) (fun h9 => absurd (by decide) h9) (fun _ => ?_)
      refine lv_iconst (v := (-1)) hx hb dX5_node_17 (by decide) ?_
      have q_11 : nI sz = nI (sz_node sz k c_) := by simp [rr_node, sz_node, up_node, no_P, h_1, h_11]
      obtain ⟨hP, hD⟩ := cs_W (fun z_z => [ob_J x 5 [.int (nI hh), .ref rl, .ref bk, .ref nd, .ref st, .ref sh, .ref wy], ob_J nd 1 [.int z_z, .ref kp, .ref ct, .ref sa, .ref la, .ref fz], ar_I kp cI 8 fkp, ar_I ct cI 8 fct, ar_I sa cI 8 fsa, ar_I la cI 8 fla]) q_11 hP hD
      have q_12 : fkp = up_node sz k c_ fkp k := by simp [rr_node, sz_node, up_node, no_P, h_1, h_11]
      obtain ⟨hP, hD⟩ := cs_W (fun z_z => [ob_J x 5 [.int (nI hh), .ref rl, .ref bk, .ref nd, .ref st, .ref sh, .ref wy], ob_J nd 1 [.int (nI (sz_node sz k c_)), .ref kp, .ref ct, .ref sa, .ref la, .ref fz], ar_I kp cI 8 z_z, ar_I ct cI 8 fct, ar_I sa cI 8 fsa, ar_I la cI 8 fla]) q_12 hP hD
      have q_13 : fct = up_node sz k c_ fct c_ := by simp [rr_node, sz_node, up_node, no_P, h_1, h_11]
      obtain ⟨hP, hD⟩ := cs_W (fun z_z => [ob_J x 5 [.int (nI hh), .ref rl, .ref bk, .ref nd, .ref st, .ref sh, .ref wy], ob_J nd 1 [.int (nI (sz_node sz k c_)), .ref kp, .ref ct, .ref sa, .ref la, .ref fz], ar_I kp cI 8 (up_node sz k c_ fkp k), ar_I ct cI 8 z_z, ar_I sa cI 8 fsa, ar_I la cI 8 fla]) q_13 hP hD
      have q_14 : fsa = up_node sz k c_ fsa 0 := by simp [rr_node, sz_node, up_node, no_P, h_1, h_11]
      obtain ⟨hP, hD⟩ := cs_W (fun z_z => [ob_J x 5 [.int (nI hh), .ref rl, .ref bk, .ref nd, .ref st, .ref sh, .ref wy], ob_J nd 1 [.int (nI (sz_node sz k c_)), .ref kp, .ref ct, .ref sa, .ref la, .ref fz], ar_I kp cI 8 (up_node sz k c_ fkp k), ar_I ct cI 8 (up_node sz k c_ fct c_), ar_I sa cI 8 z_z, ar_I la cI 8 fla]) q_14 hP hD
      have q_15 : fla = up_node sz k c_ fla (-2) := by simp [rr_node, sz_node, up_node, no_P, h_1, h_11]
      obtain ⟨hP, hD⟩ := cs_W (fun z_z => [ob_J x 5 [.int (nI hh), .ref rl, .ref bk, .ref nd, .ref st, .ref sh, .ref wy], ob_J nd 1 [.int (nI (sz_node sz k c_)), .ref kp, .ref ct, .ref sa, .ref la, .ref fz], ar_I kp cI 8 (up_node sz k c_ fkp k), ar_I ct cI 8 (up_node sz k c_ fct c_), ar_I sa cI 8 (up_node sz k c_ fsa 0), ar_I la cI 8 z_z]) q_15 hP hD
      exact re_I (w1 := fun u_u : Unit => [ob_J x 5 [.int (nI hh), .ref rl, .ref bk, .ref nd, .ref st, .ref sh, .ref wy], ob_J nd 1 [.int (nI (sz_node sz k c_)), .ref kp, .ref ct, .ref sa, .ref la, .ref fz], ar_I kp cI 8 (up_node sz k c_ fkp k), ar_I ct cI 8 (up_node sz k c_ fct c_), ar_I sa cI 8 (up_node sz k c_ fsa 0), ar_I la cI 8 (up_node sz k c_ fla (-2))]) (v := (-1)) hx hb hr hlk hK hS rfl () hP hD (show (-1) = rr_node sz k c_ from by simp [rr_node, sz_node, up_node, no_P, h_1, h_11]) dX5_node_18
  · rw [if_neg h_1] at w_1; subst w_1
    refine lv_if_eq (tgt := 17) hx hb dX5_node_4 (by decide) (fun _ => ?_) (fun h9 => absurd (by decide) h9)
    refine lv_iconst (v := (-1)) hx hb dX5_node_17 (by decide) ?_
    have q_16 : nI sz = nI (sz_node sz k c_) := by simp [rr_node, sz_node, up_node, no_P, h_1]
    obtain ⟨hP, hD⟩ := cs_W (fun z_z => [ob_J x 5 [.int (nI hh), .ref rl, .ref bk, .ref nd, .ref st, .ref sh, .ref wy], ob_J nd 1 [.int z_z, .ref kp, .ref ct, .ref sa, .ref la, .ref fz], ar_I kp cI 8 fkp, ar_I ct cI 8 fct, ar_I sa cI 8 fsa, ar_I la cI 8 fla]) q_16 hP hD
    have q_17 : fkp = up_node sz k c_ fkp k := by simp [rr_node, sz_node, up_node, no_P, h_1]
    obtain ⟨hP, hD⟩ := cs_W (fun z_z => [ob_J x 5 [.int (nI hh), .ref rl, .ref bk, .ref nd, .ref st, .ref sh, .ref wy], ob_J nd 1 [.int (nI (sz_node sz k c_)), .ref kp, .ref ct, .ref sa, .ref la, .ref fz], ar_I kp cI 8 z_z, ar_I ct cI 8 fct, ar_I sa cI 8 fsa, ar_I la cI 8 fla]) q_17 hP hD
    have q_18 : fct = up_node sz k c_ fct c_ := by simp [rr_node, sz_node, up_node, no_P, h_1]
    obtain ⟨hP, hD⟩ := cs_W (fun z_z => [ob_J x 5 [.int (nI hh), .ref rl, .ref bk, .ref nd, .ref st, .ref sh, .ref wy], ob_J nd 1 [.int (nI (sz_node sz k c_)), .ref kp, .ref ct, .ref sa, .ref la, .ref fz], ar_I kp cI 8 (up_node sz k c_ fkp k), ar_I ct cI 8 z_z, ar_I sa cI 8 fsa, ar_I la cI 8 fla]) q_18 hP hD
    have q_19 : fsa = up_node sz k c_ fsa 0 := by simp [rr_node, sz_node, up_node, no_P, h_1]
    obtain ⟨hP, hD⟩ := cs_W (fun z_z => [ob_J x 5 [.int (nI hh), .ref rl, .ref bk, .ref nd, .ref st, .ref sh, .ref wy], ob_J nd 1 [.int (nI (sz_node sz k c_)), .ref kp, .ref ct, .ref sa, .ref la, .ref fz], ar_I kp cI 8 (up_node sz k c_ fkp k), ar_I ct cI 8 (up_node sz k c_ fct c_), ar_I sa cI 8 z_z, ar_I la cI 8 fla]) q_19 hP hD
    have q_20 : fla = up_node sz k c_ fla (-2) := by simp [rr_node, sz_node, up_node, no_P, h_1]
    obtain ⟨hP, hD⟩ := cs_W (fun z_z => [ob_J x 5 [.int (nI hh), .ref rl, .ref bk, .ref nd, .ref st, .ref sh, .ref wy], ob_J nd 1 [.int (nI (sz_node sz k c_)), .ref kp, .ref ct, .ref sa, .ref la, .ref fz], ar_I kp cI 8 (up_node sz k c_ fkp k), ar_I ct cI 8 (up_node sz k c_ fct c_), ar_I sa cI 8 (up_node sz k c_ fsa 0), ar_I la cI 8 z_z]) q_20 hP hD
    exact re_I (w1 := fun u_u : Unit => [ob_J x 5 [.int (nI hh), .ref rl, .ref bk, .ref nd, .ref st, .ref sh, .ref wy], ob_J nd 1 [.int (nI (sz_node sz k c_)), .ref kp, .ref ct, .ref sa, .ref la, .ref fz], ar_I kp cI 8 (up_node sz k c_ fkp k), ar_I ct cI 8 (up_node sz k c_ fct c_), ar_I sa cI 8 (up_node sz k c_ fsa 0), ar_I la cI 8 (up_node sz k c_ fla (-2))]) (v := (-1)) hx hb hr hlk hK hS rfl () hP hD (show (-1) = rr_node sz k c_ from by simp [rr_node, sz_node, up_node, no_P, h_1]) dX5_node_18

set_option maxHeartbeats 4000000 in
set_option maxRecDepth 100000 in
theorem k_X5_stake (l : Launch) (D : va_G) (cI cJ cZ : ClassId) (x : Nat) (bk : Nat) (bal : Nat) (stk : Nat) (nd : Nat) (hh : Nat) (rl : Nat) (st : Nat) (sh : Nat) (wy : Nat) (funded : Int32) (rewarded : Int32) (due : Nat) (fbal : Nat → Int32) (fstk : Nat → Int32) (sz : Nat) (kp : Nat) (ct : Nat) (sa : Nat) (la : Nat) (fz : Nat) (a : Int32) (n : Int32) (v : Int32) (hsz : sz ≤ 8) : mt_I l yX5_stake cX5_stake 5 .int 3 65 D cI cJ cZ [ob_J x 5 [.int (nI hh), .ref rl, .ref bk, .ref nd, .ref st, .ref sh, .ref wy], ob_J bk 0 [.int funded, .int rewarded, .ref bal, .ref stk, .ref due], ar_I bal cI 10 fbal, ar_I stk cI 80 fstk, ob_J nd 1 [.int (nI sz), .ref kp, .ref ct, .ref sa, .ref la, .ref fz]] [.ref x, .int a, .int n, .int v] (fun r (u_u : Unit) => r = rr_stake sz fbal fstk a n v) (fun u_u : Unit => [ob_J x 5 [.int (nI hh), .ref rl, .ref bk, .ref nd, .ref st, .ref sh, .ref wy], ob_J bk 0 [.int funded, .int rewarded, .ref bal, .ref stk, .ref due], ar_I bal cI 10 (ba_stake sz fbal a n v), ar_I stk cI 80 (sk_stake sz fbal fstk a n v), ob_J nd 1 [.int (nI sz), .ref kp, .ref ct, .ref sa, .ref la, .ref fz]]) := by
  refine en_I (by decide) (Nat.le_of_ble_eq_true rfl) ?_
  intro p e s m below meth c A ls H locs hx hb hr hml hts hown hlk hN hK hA hP hD hS hl
  have hown : s.vm.findClass RX5 = some m.cls := hown
  have hl : lv_has ls 5 [(0, .ref x), (1, .int a), (2, .int n), (3, .int v)] := hl
  refine lv_aload_n hx hb dX5_stake_0 rfl (lv_at hl 0 rfl) ?_
  refine lv_iload_n hx hb dX5_stake_1 rfl (lv_at hl 1 rfl) ?_
  refine lv_iload_n hx hb dX5_stake_2 rfl (lv_at hl 2 rfl) ?_
  refine lv_iload_n hx hb dX5_stake_3 rfl (lv_at hl 3 rfl) ?_
  refine ca_VI (rest := []) (wr := [ob_J bk 0 [.int funded, .int rewarded, .ref bal, .ref stk, .ref due], ar_I bal cI 10 fbal, ar_I stk cI 80 fstk]) (w2 := fun u_u => [ob_J x 5 [.int (nI hh), .ref rl, .ref bk, .ref nd, .ref st, .ref sh, .ref wy], ob_J bk 0 [.int funded, .int rewarded, .ref bal, .ref stk, .ref due], ar_I bal cI 10 fbal, ar_I stk cI 80 fstk, ob_J nd 1 [.int (nI sz), .ref kp, .ref ct, .ref sa, .ref la, .ref fz]]) (k_X5_isMove l D cI cJ cZ x nd hh rl bk st sh wy sz kp ct sa la fz a n v ) hx hb hml hown hts hN hK hA hP hD hS 5 0 rfl rfl bw_186 bw_188 bs_0 bw_1 bw_189 3 rfl (by decide +kernel) ⟨by decide, by decide⟩ [0, 4] [1, 2, 3] [3, 0, 1, 2, 4] rfl rfl (by decide) (fun _ => rfl) hl.1 rfl (Nat.le_of_ble_eq_true rfl) dX5_stake_4 ⟨Nat.zero_le _, Nat.zero_le _⟩ (fun r_4 u_u H locs w_4 hP hD hS => ?_)
  have hP : va_P D cl_A [ob_J x 5 [.int (nI hh), .ref rl, .ref bk, .ref nd, .ref st, .ref sh, .ref wy], ob_J bk 0 [.int funded, .int rewarded, .ref bal, .ref stk, .ref due], ar_I bal cI 10 fbal, ar_I stk cI 80 fstk, ob_J nd 1 [.int (nI sz), .ref kp, .ref ct, .ref sa, .ref la, .ref fz]] H := hP
  have hD : va_D A [ob_J x 5 [.int (nI hh), .ref rl, .ref bk, .ref nd, .ref st, .ref sh, .ref wy], ob_J bk 0 [.int funded, .int rewarded, .ref bal, .ref stk, .ref due], ar_I bal cI 10 fbal, ar_I stk cI 80 fstk, ob_J nd 1 [.int (nI sz), .ref kp, .ref ct, .ref sa, .ref la, .ref fz]] := hD
  have w_4 : r_4 = if (0 ≤ a ∧ a ≤ 9) ∧ (0 ≤ n ∧ n < nI sz) ∧ (1 ≤ v ∧ v ≤ 1000000) then 1 else 0 := w_4
  by_cases h_4 : (0 ≤ a ∧ a ≤ 9) ∧ (0 ≤ n ∧ n < nI sz) ∧ (1 ≤ v ∧ v ≤ 1000000)
  · rw [if_pos h_4] at w_4; subst w_4
    obtain ⟨ia, h_ia, rfl⟩ : ∃ z : Nat, z < 10 ∧ a = nI z := ix_le (by decide) h_4.1
    have t_ia := tn_nI (n := ia) (by omega)
    obtain ⟨jn, h_jn, rfl⟩ : ∃ z : Nat, z < sz ∧ n = nI z := ix_lt (by omega) h_4.2.1
    have t_jn := tn_nI (n := jn) (by omega)
    refine lv_if_ne (tgt := 12) hx hb dX5_stake_7 (by decide) (fun _ => ?_) (fun h9 => absurd h9 (by decide))
    refine lv_aload_n hx hb dX5_stake_12 rfl (lv_at hl 0 rfl) ?_
    refine va_get (ci := 5) (v := .ref bk) (C := RX5) (T := TX5) (N := 7) hx hb hts bi_5 hown hK hP 0 rfl rfl 2 (by decide) (hts _ bw_135) (fun _ h9 => h9) rfl dX5_stake_13 ?_
    refine va_get (ci := 0) (v := .ref bal) (C := RX0) (T := TX0) (N := 5) hx hb hts bi_0 hown hK hP 1 rfl rfl 2 (by decide) (hts _ bw_28) (fun _ h9 => h9) rfl dX5_stake_16 ?_
    refine lv_iload_n hx hb dX5_stake_19 rfl (lv_at hl 1 rfl) ?_
    refine ar_ld hx hb hK hP 2 (k := ia) rfl rfl (by omega) (by decide) dX5_stake_20 ?_
    refine lv_iload_n hx hb dX5_stake_21 rfl (lv_at hl 3 rfl) ?_
    refine lv_icmp_ge (tgt := 28) hx hb dX5_stake_22 (by decide) (fun c_22 => ?_) (fun c_22 => ?_)
    · refine lv_aload_n hx hb dX5_stake_28 rfl (lv_at hl 0 rfl) ?_
      refine va_get (ci := 5) (v := .ref bk) (C := RX5) (T := TX5) (N := 7) hx hb hts bi_5 hown hK hP 0 rfl rfl 2 (by decide) (hts _ bw_135) (fun _ h9 => h9) rfl dX5_stake_29 ?_
      refine va_get (ci := 0) (v := .ref bal) (C := RX0) (T := TX0) (N := 5) hx hb hts bi_0 hown hK hP 1 rfl rfl 2 (by decide) (hts _ bw_28) (fun _ h9 => h9) rfl dX5_stake_32 ?_
      refine lv_iload_n hx hb dX5_stake_35 rfl (lv_at hl 1 rfl) ?_
      refine lv_dup2_11 hx hb dX5_stake_36 rfl rfl ?_
      refine ar_ld hx hb hK hP 2 (k := ia) rfl rfl (by omega) (by decide) dX5_stake_37 ?_
      refine lv_iload_n hx hb dX5_stake_38 rfl (lv_at hl 3 rfl) ?_
      refine lv_isub hx hb dX5_stake_39 ?_
      refine ar_st hx hb hK hP hD hS 2 (k := ia) rfl rfl (by omega) (by decide) dX5_stake_40 _ rfl (fun H locs hP hD hS => ?_)
      have hP : va_P D cl_A [ob_J x 5 [.int (nI hh), .ref rl, .ref bk, .ref nd, .ref st, .ref sh, .ref wy], ob_J bk 0 [.int funded, .int rewarded, .ref bal, .ref stk, .ref due], ar_I bal cI 10 (upd fbal ia ((fbal ia) - v)), ar_I stk cI 80 fstk, ob_J nd 1 [.int (nI sz), .ref kp, .ref ct, .ref sa, .ref la, .ref fz]] H := hP
      have hD : va_D A [ob_J x 5 [.int (nI hh), .ref rl, .ref bk, .ref nd, .ref st, .ref sh, .ref wy], ob_J bk 0 [.int funded, .int rewarded, .ref bal, .ref stk, .ref due], ar_I bal cI 10 (upd fbal ia ((fbal ia) - v)), ar_I stk cI 80 fstk, ob_J nd 1 [.int (nI sz), .ref kp, .ref ct, .ref sa, .ref la, .ref fz]] := hD
      refine lv_iload_n hx hb dX5_stake_41 rfl (lv_at hl 2 rfl) ?_
      refine lv_iload_n hx hb dX5_stake_42 rfl (lv_at hl 1 rfl) ?_
      refine ca_SI (rest := []) (k_X5_stakePlace l D cI cJ cZ jn ia ) hx hb hml hown hts hN hK hA hP hD hS bw_194 bw_195 bw_1 bw_196 2 rfl (by decide +kernel) ⟨by decide, by decide⟩ hl.1 rfl (Nat.le_of_ble_eq_true rfl) dX5_stake_43 ⟨Nat.zero_le _, Nat.zero_le _⟩ (fun r_43 u_u H locs w_43 hP hD hS => ?_)
      have w_43 : r_43 = nI (jn * 10 + ia) := w_43
      subst w_43
      refine lv_istore (lv' := [(4, .int (nI (jn * 10 + ia))), (0, .ref x), (1, .int (nI ia)), (2, .int (nI jn)), (3, .int v)]) hx hb dX5_stake_46 hl (by decide) rfl (fun ls hl => ?_)
      refine lv_aload_n hx hb dX5_stake_48 rfl (lv_at hl 1 rfl) ?_
      refine va_get (ci := 5) (v := .ref bk) (C := RX5) (T := TX5) (N := 7) hx hb hts bi_5 hown hK hP 0 rfl rfl 2 (by decide) (hts _ bw_135) (fun _ h9 => h9) rfl dX5_stake_49 ?_
      refine va_get (ci := 0) (v := .ref stk) (C := RX0) (T := TX0) (N := 5) hx hb hts bi_0 hown hK hP 1 rfl rfl 3 (by decide) (hts _ bw_30) (fun _ h9 => h9) rfl dX5_stake_52 ?_
      refine lv_iload hx hb dX5_stake_55 (lv_at hl 0 rfl) ?_
      refine lv_dup2_11 hx hb dX5_stake_57 rfl rfl ?_
      refine ar_ld hx hb hK hP 3 (k := jn * 10 + ia) rfl rfl (by omega) (by decide) dX5_stake_58 ?_
      refine lv_iload_n hx hb dX5_stake_59 rfl (lv_at hl 4 rfl) ?_
      refine lv_iadd hx hb dX5_stake_60 ?_
      refine ar_st hx hb hK hP hD hS 3 (k := jn * 10 + ia) rfl rfl (by omega) (by decide) dX5_stake_61 _ rfl (fun H locs hP hD hS => ?_)
      have hP : va_P D cl_A [ob_J x 5 [.int (nI hh), .ref rl, .ref bk, .ref nd, .ref st, .ref sh, .ref wy], ob_J bk 0 [.int funded, .int rewarded, .ref bal, .ref stk, .ref due], ar_I bal cI 10 (upd fbal ia ((fbal ia) - v)), ar_I stk cI 80 (upd fstk (jn * 10 + ia) ((fstk (jn * 10 + ia)) + v)), ob_J nd 1 [.int (nI sz), .ref kp, .ref ct, .ref sa, .ref la, .ref fz]] H := hP
      have hD : va_D A [ob_J x 5 [.int (nI hh), .ref rl, .ref bk, .ref nd, .ref st, .ref sh, .ref wy], ob_J bk 0 [.int funded, .int rewarded, .ref bal, .ref stk, .ref due], ar_I bal cI 10 (upd fbal ia ((fbal ia) - v)), ar_I stk cI 80 (upd fstk (jn * 10 + ia) ((fstk (jn * 10 + ia)) + v)), ob_J nd 1 [.int (nI sz), .ref kp, .ref ct, .ref sa, .ref la, .ref fz]] := hD
      refine lv_aload_n hx hb dX5_stake_62 rfl (lv_at hl 1 rfl) ?_
      refine va_get (ci := 5) (v := .ref bk) (C := RX5) (T := TX5) (N := 7) hx hb hts bi_5 hown hK hP 0 rfl rfl 2 (by decide) (hts _ bw_135) (fun _ h9 => h9) rfl dX5_stake_63 ?_
      refine va_get (ci := 0) (v := .ref stk) (C := RX0) (T := TX0) (N := 5) hx hb hts bi_0 hown hK hP 1 rfl rfl 3 (by decide) (hts _ bw_30) (fun _ h9 => h9) rfl dX5_stake_66 ?_
      refine lv_iload hx hb dX5_stake_69 (lv_at hl 0 rfl) ?_
      refine ar_ld hx hb hK hP 3 (k := jn * 10 + ia) rfl rfl (by omega) (by decide) dX5_stake_71 ?_
      have q_1 : upd fbal ia ((fbal ia) - v) = ba_stake sz fbal (nI ia) (nI jn) v := by simp [rr_stake, ba_stake, sk_stake, mv_P, up_i, h_4, t_ia, t_jn, c_22]
      obtain ⟨hP, hD⟩ := cs_W (fun z_z => [ob_J x 5 [.int (nI hh), .ref rl, .ref bk, .ref nd, .ref st, .ref sh, .ref wy], ob_J bk 0 [.int funded, .int rewarded, .ref bal, .ref stk, .ref due], ar_I bal cI 10 z_z, ar_I stk cI 80 (upd fstk (jn * 10 + ia) ((fstk (jn * 10 + ia)) + v)), ob_J nd 1 [.int (nI sz), .ref kp, .ref ct, .ref sa, .ref la, .ref fz]]) q_1 hP hD
      have q_2 : upd fstk (jn * 10 + ia) ((fstk (jn * 10 + ia)) + v) = sk_stake sz fbal fstk (nI ia) (nI jn) v := by simp [rr_stake, ba_stake, sk_stake, mv_P, up_i, h_4, t_ia, t_jn, c_22]
      obtain ⟨hP, hD⟩ := cs_W (fun z_z => [ob_J x 5 [.int (nI hh), .ref rl, .ref bk, .ref nd, .ref st, .ref sh, .ref wy], ob_J bk 0 [.int funded, .int rewarded, .ref bal, .ref stk, .ref due], ar_I bal cI 10 (ba_stake sz fbal (nI ia) (nI jn) v), ar_I stk cI 80 z_z, ob_J nd 1 [.int (nI sz), .ref kp, .ref ct, .ref sa, .ref la, .ref fz]]) q_2 hP hD
      exact re_I (w1 := fun u_u : Unit => [ob_J x 5 [.int (nI hh), .ref rl, .ref bk, .ref nd, .ref st, .ref sh, .ref wy], ob_J bk 0 [.int funded, .int rewarded, .ref bal, .ref stk, .ref due], ar_I bal cI 10 (ba_stake sz fbal (nI ia) (nI jn) v), ar_I stk cI 80 (sk_stake sz fbal fstk (nI ia) (nI jn) v), ob_J nd 1 [.int (nI sz), .ref kp, .ref ct, .ref sa, .ref la, .ref fz]]) (v := (upd fstk (jn * 10 + ia) ((fstk (jn * 10 + ia)) + v)) (jn * 10 + ia)) hx hb hr hlk hK hS rfl () hP hD (show (upd fstk (jn * 10 + ia) ((fstk (jn * 10 + ia)) + v)) (jn * 10 + ia) = rr_stake sz fbal fstk (nI ia) (nI jn) v from by simp [rr_stake, ba_stake, sk_stake, mv_P, up_i, h_4, t_ia, t_jn, c_22]) dX5_stake_72
    · refine lv_bipush (v := (-3)) hx hb dX5_stake_25 (by decide) ?_
      have q_3 : fbal = ba_stake sz fbal (nI ia) (nI jn) v := by simp [rr_stake, ba_stake, sk_stake, mv_P, up_i, h_4, t_ia, t_jn, c_22]
      obtain ⟨hP, hD⟩ := cs_W (fun z_z => [ob_J x 5 [.int (nI hh), .ref rl, .ref bk, .ref nd, .ref st, .ref sh, .ref wy], ob_J bk 0 [.int funded, .int rewarded, .ref bal, .ref stk, .ref due], ar_I bal cI 10 z_z, ar_I stk cI 80 fstk, ob_J nd 1 [.int (nI sz), .ref kp, .ref ct, .ref sa, .ref la, .ref fz]]) q_3 hP hD
      have q_4 : fstk = sk_stake sz fbal fstk (nI ia) (nI jn) v := by simp [rr_stake, ba_stake, sk_stake, mv_P, up_i, h_4, t_ia, t_jn, c_22]
      obtain ⟨hP, hD⟩ := cs_W (fun z_z => [ob_J x 5 [.int (nI hh), .ref rl, .ref bk, .ref nd, .ref st, .ref sh, .ref wy], ob_J bk 0 [.int funded, .int rewarded, .ref bal, .ref stk, .ref due], ar_I bal cI 10 (ba_stake sz fbal (nI ia) (nI jn) v), ar_I stk cI 80 z_z, ob_J nd 1 [.int (nI sz), .ref kp, .ref ct, .ref sa, .ref la, .ref fz]]) q_4 hP hD
      exact re_I (w1 := fun u_u : Unit => [ob_J x 5 [.int (nI hh), .ref rl, .ref bk, .ref nd, .ref st, .ref sh, .ref wy], ob_J bk 0 [.int funded, .int rewarded, .ref bal, .ref stk, .ref due], ar_I bal cI 10 (ba_stake sz fbal (nI ia) (nI jn) v), ar_I stk cI 80 (sk_stake sz fbal fstk (nI ia) (nI jn) v), ob_J nd 1 [.int (nI sz), .ref kp, .ref ct, .ref sa, .ref la, .ref fz]]) (v := (-3)) hx hb hr hlk hK hS rfl () hP hD (show (-3) = rr_stake sz fbal fstk (nI ia) (nI jn) v from by simp [rr_stake, ba_stake, sk_stake, mv_P, up_i, h_4, t_ia, t_jn, c_22]) dX5_stake_27
  · rw [if_neg h_4] at w_4; subst w_4
    refine lv_if_ne (tgt := 12) hx hb dX5_stake_7 (by decide) (fun h9 => absurd (by decide) h9) (fun _ => ?_)
    refine lv_iconst (v := (-1)) hx hb dX5_stake_10 (by decide) ?_
    have q_5 : fbal = ba_stake sz fbal a n v := by simp [rr_stake, ba_stake, sk_stake, mv_P, up_i, h_4]
    obtain ⟨hP, hD⟩ := cs_W (fun z_z => [ob_J x 5 [.int (nI hh), .ref rl, .ref bk, .ref nd, .ref st, .ref sh, .ref wy], ob_J bk 0 [.int funded, .int rewarded, .ref bal, .ref stk, .ref due], ar_I bal cI 10 z_z, ar_I stk cI 80 fstk, ob_J nd 1 [.int (nI sz), .ref kp, .ref ct, .ref sa, .ref la, .ref fz]]) q_5 hP hD
    have q_6 : fstk = sk_stake sz fbal fstk a n v := by simp [rr_stake, ba_stake, sk_stake, mv_P, up_i, h_4]
    obtain ⟨hP, hD⟩ := cs_W (fun z_z => [ob_J x 5 [.int (nI hh), .ref rl, .ref bk, .ref nd, .ref st, .ref sh, .ref wy], ob_J bk 0 [.int funded, .int rewarded, .ref bal, .ref stk, .ref due], ar_I bal cI 10 (ba_stake sz fbal a n v), ar_I stk cI 80 z_z, ob_J nd 1 [.int (nI sz), .ref kp, .ref ct, .ref sa, .ref la, .ref fz]]) q_6 hP hD
    exact re_I (w1 := fun u_u : Unit => [ob_J x 5 [.int (nI hh), .ref rl, .ref bk, .ref nd, .ref st, .ref sh, .ref wy], ob_J bk 0 [.int funded, .int rewarded, .ref bal, .ref stk, .ref due], ar_I bal cI 10 (ba_stake sz fbal a n v), ar_I stk cI 80 (sk_stake sz fbal fstk a n v), ob_J nd 1 [.int (nI sz), .ref kp, .ref ct, .ref sa, .ref la, .ref fz]]) (v := (-1)) hx hb hr hlk hK hS rfl () hP hD (show (-1) = rr_stake sz fbal fstk a n v from by simp [rr_stake, ba_stake, sk_stake, mv_P, up_i, h_4]) dX5_stake_11

set_option maxHeartbeats 4000000 in
set_option maxRecDepth 100000 in
theorem k_X5_draw (l : Launch) (D : va_G) (cI cJ cZ : ClassId) (x : Nat) (rl : Nat) (bk : Nat) (stk : Nat) (due : Nat) (nd : Nat) (fz : Nat) (hh : Nat) (st : Nat) (sh : Nat) (wy : Nat) (frl : Nat → Int32) (funded : Int32) (rewarded : Int32) (bal : Nat) (fstk : Nat → Int32) (fdue : Nat → Int32) (sz : Nat) (kp : Nat) (ct : Nat) (sa : Nat) (la : Nat) (ffz : Nat → Int32) (a : Int32) (n : Int32) (v : Int32) (w_ : Nat) (hsz : sz ≤ 8) (hhh : hh ≤ 100) (hw : frl 0 = nI w_) (hw9 : w_ ≤ 9) : mt_I l yX5_draw cX5_draw 5 .int 3 65 D cI cJ cZ [ob_J x 5 [.int (nI hh), .ref rl, .ref bk, .ref nd, .ref st, .ref sh, .ref wy], ar_I rl cI 4 frl, ob_J bk 0 [.int funded, .int rewarded, .ref bal, .ref stk, .ref due], ar_I stk cI 80 fstk, ar_I due cI 1100 fdue, ob_J nd 1 [.int (nI sz), .ref kp, .ref ct, .ref sa, .ref la, .ref fz], ar_I fz cZ 8 ffz] [.ref x, .int a, .int n, .int v] (fun r (u_u : Unit) => r = rr_draw sz fstk ffz a n v) (fun u_u : Unit => [ob_J x 5 [.int (nI hh), .ref rl, .ref bk, .ref nd, .ref st, .ref sh, .ref wy], ar_I rl cI 4 frl, ob_J bk 0 [.int funded, .int rewarded, .ref bal, .ref stk, .ref due], ar_I stk cI 80 (sk_draw sz fstk ffz a n v), ar_I due cI 1100 (du_draw hh w_ sz fstk ffz fdue a n v), ob_J nd 1 [.int (nI sz), .ref kp, .ref ct, .ref sa, .ref la, .ref fz], ar_I fz cZ 8 ffz]) := by
  refine en_I (by decide) (Nat.le_of_ble_eq_true rfl) ?_
  intro p e s m below meth c A ls H locs hx hb hr hml hts hown hlk hN hK hA hP hD hS hl
  have hown : s.vm.findClass RX5 = some m.cls := hown
  have hl : lv_has ls 5 [(0, .ref x), (1, .int a), (2, .int n), (3, .int v)] := hl
  refine lv_aload_n hx hb dX5_draw_0 rfl (lv_at hl 0 rfl) ?_
  refine lv_iload_n hx hb dX5_draw_1 rfl (lv_at hl 1 rfl) ?_
  refine lv_iload_n hx hb dX5_draw_2 rfl (lv_at hl 2 rfl) ?_
  refine lv_iload_n hx hb dX5_draw_3 rfl (lv_at hl 3 rfl) ?_
  refine ca_VI (rest := []) (wr := [ar_I rl cI 4 frl, ob_J bk 0 [.int funded, .int rewarded, .ref bal, .ref stk, .ref due], ar_I stk cI 80 fstk, ar_I due cI 1100 fdue, ar_I fz cZ 8 ffz]) (w2 := fun u_u => [ob_J x 5 [.int (nI hh), .ref rl, .ref bk, .ref nd, .ref st, .ref sh, .ref wy], ar_I rl cI 4 frl, ob_J bk 0 [.int funded, .int rewarded, .ref bal, .ref stk, .ref due], ar_I stk cI 80 fstk, ar_I due cI 1100 fdue, ob_J nd 1 [.int (nI sz), .ref kp, .ref ct, .ref sa, .ref la, .ref fz], ar_I fz cZ 8 ffz]) (k_X5_isMove l D cI cJ cZ x nd hh rl bk st sh wy sz kp ct sa la fz a n v ) hx hb hml hown hts hN hK hA hP hD hS 5 0 rfl rfl bw_186 bw_188 bs_0 bw_1 bw_189 3 rfl (by decide +kernel) ⟨by decide, by decide⟩ [0, 5] [1, 2, 3, 4, 6] [5, 0, 1, 2, 3, 6, 4] rfl rfl (by decide) (fun _ => rfl) hl.1 rfl (Nat.le_of_ble_eq_true rfl) dX5_draw_4 ⟨Nat.zero_le _, Nat.zero_le _⟩ (fun r_4 u_u H locs w_4 hP hD hS => ?_)
  have hP : va_P D cl_A [ob_J x 5 [.int (nI hh), .ref rl, .ref bk, .ref nd, .ref st, .ref sh, .ref wy], ar_I rl cI 4 frl, ob_J bk 0 [.int funded, .int rewarded, .ref bal, .ref stk, .ref due], ar_I stk cI 80 fstk, ar_I due cI 1100 fdue, ob_J nd 1 [.int (nI sz), .ref kp, .ref ct, .ref sa, .ref la, .ref fz], ar_I fz cZ 8 ffz] H := hP
  have hD : va_D A [ob_J x 5 [.int (nI hh), .ref rl, .ref bk, .ref nd, .ref st, .ref sh, .ref wy], ar_I rl cI 4 frl, ob_J bk 0 [.int funded, .int rewarded, .ref bal, .ref stk, .ref due], ar_I stk cI 80 fstk, ar_I due cI 1100 fdue, ob_J nd 1 [.int (nI sz), .ref kp, .ref ct, .ref sa, .ref la, .ref fz], ar_I fz cZ 8 ffz] := hD
  have w_4 : r_4 = if (0 ≤ a ∧ a ≤ 9) ∧ (0 ≤ n ∧ n < nI sz) ∧ (1 ≤ v ∧ v ≤ 1000000) then 1 else 0 := w_4
  by_cases h_4 : (0 ≤ a ∧ a ≤ 9) ∧ (0 ≤ n ∧ n < nI sz) ∧ (1 ≤ v ∧ v ≤ 1000000)
  · rw [if_pos h_4] at w_4; subst w_4
    obtain ⟨ia, h_ia, rfl⟩ : ∃ z : Nat, z < 10 ∧ a = nI z := ix_le (by decide) h_4.1
    have t_ia := tn_nI (n := ia) (by omega)
    obtain ⟨jn, h_jn, rfl⟩ : ∃ z : Nat, z < sz ∧ n = nI z := ix_lt (by omega) h_4.2.1
    have t_jn := tn_nI (n := jn) (by omega)
    refine lv_if_ne (tgt := 12) hx hb dX5_draw_7 (by decide) (fun _ => ?_) (fun h9 => absurd h9 (by decide))
    refine lv_iload_n hx hb dX5_draw_12 rfl (lv_at hl 2 rfl) ?_
    refine lv_iload_n hx hb dX5_draw_13 rfl (lv_at hl 1 rfl) ?_
    refine ca_SI (rest := []) (k_X5_stakePlace l D cI cJ cZ jn ia ) hx hb hml hown hts hN hK hA hP hD hS bw_194 bw_195 bw_1 bw_196 2 rfl (by decide +kernel) ⟨by decide, by decide⟩ hl.1 rfl (Nat.le_of_ble_eq_true rfl) dX5_draw_14 ⟨Nat.zero_le _, Nat.zero_le _⟩ (fun r_14 u_u H locs w_14 hP hD hS => ?_)
    have w_14 : r_14 = nI (jn * 10 + ia) := w_14
    subst w_14
    refine lv_istore (lv' := [(4, .int (nI (jn * 10 + ia))), (0, .ref x), (1, .int (nI ia)), (2, .int (nI jn)), (3, .int v)]) hx hb dX5_draw_17 hl (by decide) rfl (fun ls hl => ?_)
    refine lv_aload_n hx hb dX5_draw_19 rfl (lv_at hl 1 rfl) ?_
    refine va_get (ci := 5) (v := .ref bk) (C := RX5) (T := TX5) (N := 7) hx hb hts bi_5 hown hK hP 0 rfl rfl 2 (by decide) (hts _ bw_135) (fun _ h9 => h9) rfl dX5_draw_20 ?_
    refine va_get (ci := 0) (v := .ref stk) (C := RX0) (T := TX0) (N := 5) hx hb hts bi_0 hown hK hP 2 rfl rfl 3 (by decide) (hts _ bw_30) (fun _ h9 => h9) rfl dX5_draw_23 ?_
    refine lv_iload hx hb dX5_draw_26 (lv_at hl 0 rfl) ?_
    refine ar_ld hx hb hK hP 3 (k := jn * 10 + ia) rfl rfl (by omega) (by decide) dX5_draw_28 ?_
    refine lv_iload_n hx hb dX5_draw_29 rfl (lv_at hl 4 rfl) ?_
    refine lv_icmp_ge (tgt := 36) hx hb dX5_draw_30 (by decide) (fun c_30 => ?_) (fun c_30 => ?_)
    · refine lv_aload_n hx hb dX5_draw_36 rfl (lv_at hl 1 rfl) ?_
      refine va_get (ci := 5) (v := .ref nd) (C := RX5) (T := TX5) (N := 7) hx hb hts bi_5 hown hK hP 0 rfl rfl 3 (by decide) (hts _ bw_136) (fun _ h9 => h9) rfl dX5_draw_37 ?_
      refine va_get (ci := 1) (v := .ref fz) (C := RX1) (T := TX1) (N := 6) hx hb hts bi_1 hown hK hP 5 rfl rfl 5 (by decide) (hts _ bw_62) (fun _ h9 => h9) rfl dX5_draw_40 ?_
      refine lv_iload_n hx hb dX5_draw_43 rfl (lv_at hl 3 rfl) ?_
      refine ar_zd hx hb hK hP 6 (k := jn) rfl rfl (by omega) (by decide) dX5_draw_44 ?_
      refine lv_if_eq (tgt := 51) hx hb dX5_draw_45 (by decide) (fun c_45 => ?_) (fun c_45 => ?_)
      · refine lv_aload_n hx hb dX5_draw_51 rfl (lv_at hl 1 rfl) ?_
        refine va_get (ci := 5) (v := .ref bk) (C := RX5) (T := TX5) (N := 7) hx hb hts bi_5 hown hK hP 0 rfl rfl 2 (by decide) (hts _ bw_135) (fun _ h9 => h9) rfl dX5_draw_52 ?_
        refine va_get (ci := 0) (v := .ref stk) (C := RX0) (T := TX0) (N := 5) hx hb hts bi_0 hown hK hP 2 rfl rfl 3 (by decide) (hts _ bw_30) (fun _ h9 => h9) rfl dX5_draw_55 ?_
        refine lv_iload hx hb dX5_draw_58 (lv_at hl 0 rfl) ?_
        refine lv_dup2_11 hx hb dX5_draw_60 rfl rfl ?_
        refine ar_ld hx hb hK hP 3 (k := jn * 10 + ia) rfl rfl (by omega) (by decide) dX5_draw_61 ?_
        refine lv_iload_n hx hb dX5_draw_62 rfl (lv_at hl 4 rfl) ?_
        refine lv_isub hx hb dX5_draw_63 ?_
        refine ar_st hx hb hK hP hD hS 3 (k := jn * 10 + ia) rfl rfl (by omega) (by decide) dX5_draw_64 _ rfl (fun H locs hP hD hS => ?_)
        have hP : va_P D cl_A [ob_J x 5 [.int (nI hh), .ref rl, .ref bk, .ref nd, .ref st, .ref sh, .ref wy], ar_I rl cI 4 frl, ob_J bk 0 [.int funded, .int rewarded, .ref bal, .ref stk, .ref due], ar_I stk cI 80 (upd fstk (jn * 10 + ia) ((fstk (jn * 10 + ia)) - v)), ar_I due cI 1100 fdue, ob_J nd 1 [.int (nI sz), .ref kp, .ref ct, .ref sa, .ref la, .ref fz], ar_I fz cZ 8 ffz] H := hP
        have hD : va_D A [ob_J x 5 [.int (nI hh), .ref rl, .ref bk, .ref nd, .ref st, .ref sh, .ref wy], ar_I rl cI 4 frl, ob_J bk 0 [.int funded, .int rewarded, .ref bal, .ref stk, .ref due], ar_I stk cI 80 (upd fstk (jn * 10 + ia) ((fstk (jn * 10 + ia)) - v)), ar_I due cI 1100 fdue, ob_J nd 1 [.int (nI sz), .ref kp, .ref ct, .ref sa, .ref la, .ref fz], ar_I fz cZ 8 ffz] := hD
        refine lv_aload_n hx hb dX5_draw_65 rfl (lv_at hl 1 rfl) ?_
        refine va_get (ci := 5) (v := .ref bk) (C := RX5) (T := TX5) (N := 7) hx hb hts bi_5 hown hK hP 0 rfl rfl 2 (by decide) (hts _ bw_135) (fun _ h9 => h9) rfl dX5_draw_66 ?_
        refine va_get (ci := 0) (v := .ref due) (C := RX0) (T := TX0) (N := 5) hx hb hts bi_0 hown hK hP 2 rfl rfl 4 (by decide) (hts _ bw_32) (fun _ h9 => h9) rfl dX5_draw_69 ?_
        refine lv_iload_n hx hb dX5_draw_72 rfl (lv_at hl 2 rfl) ?_
        refine lv_aload_n hx hb dX5_draw_73 rfl (lv_at hl 1 rfl) ?_
        refine va_get (ci := 5) (v := .int (nI hh)) (C := RX5) (T := TX5) (N := 7) hx hb hts bi_5 hown hK hP 0 rfl rfl 0 (by decide) (hts _ bw_133) (fun _ h9 => h9) rfl dX5_draw_74 ?_
        refine lv_aload_n hx hb dX5_draw_77 rfl (lv_at hl 1 rfl) ?_
        refine va_get (ci := 5) (v := .ref rl) (C := RX5) (T := TX5) (N := 7) hx hb hts bi_5 hown hK hP 0 rfl rfl 1 (by decide) (hts _ bw_134) (fun _ h9 => h9) rfl dX5_draw_78 ?_
        refine lv_iconst (v := 0) hx hb dX5_draw_81 (by decide) ?_
        refine ar_ld hx hb hK hP 1 (k := 0) rfl rfl (by omega) (by decide) dX5_draw_82 ?_
        refine tp_i (x' := nI w_) (hw) ?_
        refine lv_iadd hx hb dX5_draw_83 ?_
        refine tp_i (x' := nI (hh + w_)) (nn_add rfl rfl) ?_
        refine ca_SI (rest := [.ref due]) (k_X5_duePlace l D cI cJ cZ ia (hh + w_) ) hx hb hml hown hts hN hK hA hP hD hS bw_201 bw_202 bw_1 bw_203 2 rfl (by decide +kernel) ⟨by decide, by decide⟩ hl.1 rfl (Nat.le_of_ble_eq_true rfl) dX5_draw_84 ⟨Nat.zero_le _, Nat.zero_le _⟩ (fun r_84 u_u H locs w_84 hP hD hS => ?_)
        have w_84 : r_84 = nI (ia * 110 + (hh + w_)) := w_84
        subst w_84
        refine lv_dup2_11 hx hb dX5_draw_87 rfl rfl ?_
        refine ar_ld hx hb hK hP 4 (k := ia * 110 + (hh + w_)) rfl rfl (by omega) (by decide) dX5_draw_88 ?_
        refine lv_iload_n hx hb dX5_draw_89 rfl (lv_at hl 4 rfl) ?_
        refine lv_iadd hx hb dX5_draw_90 ?_
        refine ar_st hx hb hK hP hD hS 4 (k := ia * 110 + (hh + w_)) rfl rfl (by omega) (by decide) dX5_draw_91 _ rfl (fun H locs hP hD hS => ?_)
        have hP : va_P D cl_A [ob_J x 5 [.int (nI hh), .ref rl, .ref bk, .ref nd, .ref st, .ref sh, .ref wy], ar_I rl cI 4 frl, ob_J bk 0 [.int funded, .int rewarded, .ref bal, .ref stk, .ref due], ar_I stk cI 80 (upd fstk (jn * 10 + ia) ((fstk (jn * 10 + ia)) - v)), ar_I due cI 1100 (upd fdue (ia * 110 + (hh + w_)) ((fdue (ia * 110 + (hh + w_))) + v)), ob_J nd 1 [.int (nI sz), .ref kp, .ref ct, .ref sa, .ref la, .ref fz], ar_I fz cZ 8 ffz] H := hP
        have hD : va_D A [ob_J x 5 [.int (nI hh), .ref rl, .ref bk, .ref nd, .ref st, .ref sh, .ref wy], ar_I rl cI 4 frl, ob_J bk 0 [.int funded, .int rewarded, .ref bal, .ref stk, .ref due], ar_I stk cI 80 (upd fstk (jn * 10 + ia) ((fstk (jn * 10 + ia)) - v)), ar_I due cI 1100 (upd fdue (ia * 110 + (hh + w_)) ((fdue (ia * 110 + (hh + w_))) + v)), ob_J nd 1 [.int (nI sz), .ref kp, .ref ct, .ref sa, .ref la, .ref fz], ar_I fz cZ 8 ffz] := hD
        refine lv_aload_n hx hb dX5_draw_92 rfl (lv_at hl 1 rfl) ?_
        refine va_get (ci := 5) (v := .ref bk) (C := RX5) (T := TX5) (N := 7) hx hb hts bi_5 hown hK hP 0 rfl rfl 2 (by decide) (hts _ bw_135) (fun _ h9 => h9) rfl dX5_draw_93 ?_
        refine va_get (ci := 0) (v := .ref stk) (C := RX0) (T := TX0) (N := 5) hx hb hts bi_0 hown hK hP 2 rfl rfl 3 (by decide) (hts _ bw_30) (fun _ h9 => h9) rfl dX5_draw_96 ?_
        refine lv_iload hx hb dX5_draw_99 (lv_at hl 0 rfl) ?_
        refine ar_ld hx hb hK hP 3 (k := jn * 10 + ia) rfl rfl (by omega) (by decide) dX5_draw_101 ?_
        have q_1 : upd fstk (jn * 10 + ia) ((fstk (jn * 10 + ia)) - v) = sk_draw sz fstk ffz (nI ia) (nI jn) v := by simp [rr_draw, sk_draw, du_draw, dr_P, mv_P, up_i, h_4, t_ia, t_jn, c_30, c_45]
        obtain ⟨hP, hD⟩ := cs_W (fun z_z => [ob_J x 5 [.int (nI hh), .ref rl, .ref bk, .ref nd, .ref st, .ref sh, .ref wy], ar_I rl cI 4 frl, ob_J bk 0 [.int funded, .int rewarded, .ref bal, .ref stk, .ref due], ar_I stk cI 80 z_z, ar_I due cI 1100 (upd fdue (ia * 110 + (hh + w_)) ((fdue (ia * 110 + (hh + w_))) + v)), ob_J nd 1 [.int (nI sz), .ref kp, .ref ct, .ref sa, .ref la, .ref fz], ar_I fz cZ 8 ffz]) q_1 hP hD
        have q_2 : upd fdue (ia * 110 + (hh + w_)) ((fdue (ia * 110 + (hh + w_))) + v) = du_draw hh w_ sz fstk ffz fdue (nI ia) (nI jn) v := by simp [rr_draw, sk_draw, du_draw, dr_P, mv_P, up_i, h_4, t_ia, t_jn, c_30, c_45]
        obtain ⟨hP, hD⟩ := cs_W (fun z_z => [ob_J x 5 [.int (nI hh), .ref rl, .ref bk, .ref nd, .ref st, .ref sh, .ref wy], ar_I rl cI 4 frl, ob_J bk 0 [.int funded, .int rewarded, .ref bal, .ref stk, .ref due], ar_I stk cI 80 (sk_draw sz fstk ffz (nI ia) (nI jn) v), ar_I due cI 1100 z_z, ob_J nd 1 [.int (nI sz), .ref kp, .ref ct, .ref sa, .ref la, .ref fz], ar_I fz cZ 8 ffz]) q_2 hP hD
        exact re_I (w1 := fun u_u : Unit => [ob_J x 5 [.int (nI hh), .ref rl, .ref bk, .ref nd, .ref st, .ref sh, .ref wy], ar_I rl cI 4 frl, ob_J bk 0 [.int funded, .int rewarded, .ref bal, .ref stk, .ref due], ar_I stk cI 80 (sk_draw sz fstk ffz (nI ia) (nI jn) v), ar_I due cI 1100 (du_draw hh w_ sz fstk ffz fdue (nI ia) (nI jn) v), ob_J nd 1 [.int (nI sz), .ref kp, .ref ct, .ref sa, .ref la, .ref fz], ar_I fz cZ 8 ffz]) (v := (upd fstk (jn * 10 + ia) ((fstk (jn * 10 + ia)) - v)) (jn * 10 + ia)) hx hb hr hlk hK hS rfl () hP hD (show (upd fstk (jn * 10 + ia) ((fstk (jn * 10 + ia)) - v)) (jn * 10 + ia) = rr_draw sz fstk ffz (nI ia) (nI jn) v from by simp [rr_draw, sk_draw, du_draw, dr_P, mv_P, up_i, h_4, t_ia, t_jn, c_30, c_45]) dX5_draw_102
      · refine lv_bipush (v := (-4)) hx hb dX5_draw_48 (by decide) ?_
        have q_3 : fstk = sk_draw sz fstk ffz (nI ia) (nI jn) v := by simp [rr_draw, sk_draw, du_draw, dr_P, mv_P, up_i, h_4, t_ia, t_jn, c_30, c_45]
        obtain ⟨hP, hD⟩ := cs_W (fun z_z => [ob_J x 5 [.int (nI hh), .ref rl, .ref bk, .ref nd, .ref st, .ref sh, .ref wy], ar_I rl cI 4 frl, ob_J bk 0 [.int funded, .int rewarded, .ref bal, .ref stk, .ref due], ar_I stk cI 80 z_z, ar_I due cI 1100 fdue, ob_J nd 1 [.int (nI sz), .ref kp, .ref ct, .ref sa, .ref la, .ref fz], ar_I fz cZ 8 ffz]) q_3 hP hD
        have q_4 : fdue = du_draw hh w_ sz fstk ffz fdue (nI ia) (nI jn) v := by simp [rr_draw, sk_draw, du_draw, dr_P, mv_P, up_i, h_4, t_ia, t_jn, c_30, c_45]
        obtain ⟨hP, hD⟩ := cs_W (fun z_z => [ob_J x 5 [.int (nI hh), .ref rl, .ref bk, .ref nd, .ref st, .ref sh, .ref wy], ar_I rl cI 4 frl, ob_J bk 0 [.int funded, .int rewarded, .ref bal, .ref stk, .ref due], ar_I stk cI 80 (sk_draw sz fstk ffz (nI ia) (nI jn) v), ar_I due cI 1100 z_z, ob_J nd 1 [.int (nI sz), .ref kp, .ref ct, .ref sa, .ref la, .ref fz], ar_I fz cZ 8 ffz]) q_4 hP hD
        exact re_I (w1 := fun u_u : Unit => [ob_J x 5 [.int (nI hh), .ref rl, .ref bk, .ref nd, .ref st, .ref sh, .ref wy], ar_I rl cI 4 frl, ob_J bk 0 [.int funded, .int rewarded, .ref bal, .ref stk, .ref due], ar_I stk cI 80 (sk_draw sz fstk ffz (nI ia) (nI jn) v), ar_I due cI 1100 (du_draw hh w_ sz fstk ffz fdue (nI ia) (nI jn) v), ob_J nd 1 [.int (nI sz), .ref kp, .ref ct, .ref sa, .ref la, .ref fz], ar_I fz cZ 8 ffz]) (v := (-4)) hx hb hr hlk hK hS rfl () hP hD (show (-4) = rr_draw sz fstk ffz (nI ia) (nI jn) v from by simp [rr_draw, sk_draw, du_draw, dr_P, mv_P, up_i, h_4, t_ia, t_jn, c_30, c_45]) dX5_draw_50
    · refine lv_bipush (v := (-3)) hx hb dX5_draw_33 (by decide) ?_
      have q_5 : fstk = sk_draw sz fstk ffz (nI ia) (nI jn) v := by simp [rr_draw, sk_draw, du_draw, dr_P, mv_P, up_i, h_4, t_ia, t_jn, c_30]
      obtain ⟨hP, hD⟩ := cs_W (fun z_z => [ob_J x 5 [.int (nI hh), .ref rl, .ref bk, .ref nd, .ref st, .ref sh, .ref wy], ar_I rl cI 4 frl, ob_J bk 0 [.int funded, .int rewarded, .ref bal, .ref stk, .ref due], ar_I stk cI 80 z_z, ar_I due cI 1100 fdue, ob_J nd 1 [.int (nI sz), .ref kp, .ref ct, .ref sa, .ref la, .ref fz], ar_I fz cZ 8 ffz]) q_5 hP hD
      have q_6 : fdue = du_draw hh w_ sz fstk ffz fdue (nI ia) (nI jn) v := by simp [rr_draw, sk_draw, du_draw, dr_P, mv_P, up_i, h_4, t_ia, t_jn, c_30]
      obtain ⟨hP, hD⟩ := cs_W (fun z_z => [ob_J x 5 [.int (nI hh), .ref rl, .ref bk, .ref nd, .ref st, .ref sh, .ref wy], ar_I rl cI 4 frl, ob_J bk 0 [.int funded, .int rewarded, .ref bal, .ref stk, .ref due], ar_I stk cI 80 (sk_draw sz fstk ffz (nI ia) (nI jn) v), ar_I due cI 1100 z_z, ob_J nd 1 [.int (nI sz), .ref kp, .ref ct, .ref sa, .ref la, .ref fz], ar_I fz cZ 8 ffz]) q_6 hP hD
      exact re_I (w1 := fun u_u : Unit => [ob_J x 5 [.int (nI hh), .ref rl, .ref bk, .ref nd, .ref st, .ref sh, .ref wy], ar_I rl cI 4 frl, ob_J bk 0 [.int funded, .int rewarded, .ref bal, .ref stk, .ref due], ar_I stk cI 80 (sk_draw sz fstk ffz (nI ia) (nI jn) v), ar_I due cI 1100 (du_draw hh w_ sz fstk ffz fdue (nI ia) (nI jn) v), ob_J nd 1 [.int (nI sz), .ref kp, .ref ct, .ref sa, .ref la, .ref fz], ar_I fz cZ 8 ffz]) (v := (-3)) hx hb hr hlk hK hS rfl () hP hD (show (-3) = rr_draw sz fstk ffz (nI ia) (nI jn) v from by simp [rr_draw, sk_draw, du_draw, dr_P, mv_P, up_i, h_4, t_ia, t_jn, c_30]) dX5_draw_35
  · rw [if_neg h_4] at w_4; subst w_4
    refine lv_if_ne (tgt := 12) hx hb dX5_draw_7 (by decide) (fun h9 => absurd (by decide) h9) (fun _ => ?_)
    refine lv_iconst (v := (-1)) hx hb dX5_draw_10 (by decide) ?_
    have q_7 : fstk = sk_draw sz fstk ffz a n v := by simp [rr_draw, sk_draw, du_draw, dr_P, mv_P, up_i, h_4]
    obtain ⟨hP, hD⟩ := cs_W (fun z_z => [ob_J x 5 [.int (nI hh), .ref rl, .ref bk, .ref nd, .ref st, .ref sh, .ref wy], ar_I rl cI 4 frl, ob_J bk 0 [.int funded, .int rewarded, .ref bal, .ref stk, .ref due], ar_I stk cI 80 z_z, ar_I due cI 1100 fdue, ob_J nd 1 [.int (nI sz), .ref kp, .ref ct, .ref sa, .ref la, .ref fz], ar_I fz cZ 8 ffz]) q_7 hP hD
    have q_8 : fdue = du_draw hh w_ sz fstk ffz fdue a n v := by simp [rr_draw, sk_draw, du_draw, dr_P, mv_P, up_i, h_4]
    obtain ⟨hP, hD⟩ := cs_W (fun z_z => [ob_J x 5 [.int (nI hh), .ref rl, .ref bk, .ref nd, .ref st, .ref sh, .ref wy], ar_I rl cI 4 frl, ob_J bk 0 [.int funded, .int rewarded, .ref bal, .ref stk, .ref due], ar_I stk cI 80 (sk_draw sz fstk ffz a n v), ar_I due cI 1100 z_z, ob_J nd 1 [.int (nI sz), .ref kp, .ref ct, .ref sa, .ref la, .ref fz], ar_I fz cZ 8 ffz]) q_8 hP hD
    exact re_I (w1 := fun u_u : Unit => [ob_J x 5 [.int (nI hh), .ref rl, .ref bk, .ref nd, .ref st, .ref sh, .ref wy], ar_I rl cI 4 frl, ob_J bk 0 [.int funded, .int rewarded, .ref bal, .ref stk, .ref due], ar_I stk cI 80 (sk_draw sz fstk ffz a n v), ar_I due cI 1100 (du_draw hh w_ sz fstk ffz fdue a n v), ob_J nd 1 [.int (nI sz), .ref kp, .ref ct, .ref sa, .ref la, .ref fz], ar_I fz cZ 8 ffz]) (v := (-1)) hx hb hr hlk hK hS rfl () hP hD (show (-1) = rr_draw sz fstk ffz a n v from by simp [rr_draw, sk_draw, du_draw, dr_P, mv_P, up_i, h_4]) dX5_draw_11

set_option maxHeartbeats 4000000 in
set_option maxRecDepth 100000 in
theorem k_X5_join (l : Launch) (D : va_G) (cI cJ cZ : ClassId) (x : Nat) (nd : Nat) (sa : Nat) (hh : Nat) (rl : Nat) (bk : Nat) (st : Nat) (sh : Nat) (wy : Nat) (sz : Nat) (kp : Nat) (ct : Nat) (la : Nat) (fz : Nat) (fsa : Nat → Int32) (n : Int32) (hsz : sz ≤ 8) : mt_I l yX5_join cX5_join 2 .int 1 21 D cI cJ cZ [ob_J x 5 [.int (nI hh), .ref rl, .ref bk, .ref nd, .ref st, .ref sh, .ref wy], ob_J nd 1 [.int (nI sz), .ref kp, .ref ct, .ref sa, .ref la, .ref fz], ar_I sa cI 8 fsa] [.ref x, .int n] (fun r (u_u : Unit) => r = rr_join hh sz fsa n) (fun u_u : Unit => [ob_J x 5 [.int (nI hh), .ref rl, .ref bk, .ref nd, .ref st, .ref sh, .ref wy], ob_J nd 1 [.int (nI sz), .ref kp, .ref ct, .ref sa, .ref la, .ref fz], ar_I sa cI 8 (sa_join sz fsa n)]) := by
  refine en_I (by decide) (Nat.le_of_ble_eq_true rfl) ?_
  intro p e s m below meth c A ls H locs hx hb hr hml hts hown hlk hN hK hA hP hD hS hl
  have hown : s.vm.findClass RX5 = some m.cls := hown
  have hl : lv_has ls 2 [(0, .ref x), (1, .int n)] := hl
  refine lv_aload_n hx hb dX5_join_0 rfl (lv_at hl 0 rfl) ?_
  refine va_get (ci := 5) (v := .ref nd) (C := RX5) (T := TX5) (N := 7) hx hb hts bi_5 hown hK hP 0 rfl rfl 3 (by decide) (hts _ bw_136) (fun _ h9 => h9) rfl dX5_join_1 ?_
  refine lv_iload_n hx hb dX5_join_4 rfl (lv_at hl 1 rfl) ?_
  refine ca_VI (rest := []) (wr := [ob_J x 5 [.int (nI hh), .ref rl, .ref bk, .ref nd, .ref st, .ref sh, .ref wy], ar_I sa cI 8 fsa]) (w2 := fun u_u => [ob_J x 5 [.int (nI hh), .ref rl, .ref bk, .ref nd, .ref st, .ref sh, .ref wy], ob_J nd 1 [.int (nI sz), .ref kp, .ref ct, .ref sa, .ref la, .ref fz], ar_I sa cI 8 fsa]) (k_X1_has l D cI cJ cZ nd sz kp ct sa la fz n ) hx hb hml hown hts hN hK hA hP hD hS 1 0 rfl rfl bw_190 bw_191 bw_192 bw_3 bw_193 1 rfl (by decide +kernel) ⟨by decide, by decide⟩ [1] [0, 2] [0, 2, 1] rfl rfl (by decide) (fun _ => rfl) hl.1 rfl (Nat.le_of_ble_eq_true rfl) dX5_join_5 ⟨Nat.zero_le _, Nat.zero_le _⟩ (fun r_5 u_u H locs w_5 hP hD hS => ?_)
  have hP : va_P D cl_A [ob_J x 5 [.int (nI hh), .ref rl, .ref bk, .ref nd, .ref st, .ref sh, .ref wy], ob_J nd 1 [.int (nI sz), .ref kp, .ref ct, .ref sa, .ref la, .ref fz], ar_I sa cI 8 fsa] H := hP
  have hD : va_D A [ob_J x 5 [.int (nI hh), .ref rl, .ref bk, .ref nd, .ref st, .ref sh, .ref wy], ob_J nd 1 [.int (nI sz), .ref kp, .ref ct, .ref sa, .ref la, .ref fz], ar_I sa cI 8 fsa] := hD
  have w_5 : r_5 = if 0 ≤ n ∧ n < nI sz then 1 else 0 := w_5
  by_cases h_5 : 0 ≤ n ∧ n < nI sz
  · rw [if_pos h_5] at w_5; subst w_5
    obtain ⟨jn, h_jn, rfl⟩ : ∃ z : Nat, z < sz ∧ n = nI z := ix_lt (by omega) h_5
    have t_jn := tn_nI (n := jn) (by omega)
    refine lv_if_ne (tgt := 13) hx hb dX5_join_8 (by decide) (fun _ => ?_) (fun h9 => absurd h9 (by decide))
    refine lv_aload_n hx hb dX5_join_13 rfl (lv_at hl 0 rfl) ?_
    refine va_get (ci := 5) (v := .ref nd) (C := RX5) (T := TX5) (N := 7) hx hb hts bi_5 hown hK hP 0 rfl rfl 3 (by decide) (hts _ bw_136) (fun _ h9 => h9) rfl dX5_join_14 ?_
    refine va_get (ci := 1) (v := .ref sa) (C := RX1) (T := TX1) (N := 6) hx hb hts bi_1 hown hK hP 1 rfl rfl 3 (by decide) (hts _ bw_58) (fun _ h9 => h9) rfl dX5_join_17 ?_
    refine lv_iload_n hx hb dX5_join_20 rfl (lv_at hl 1 rfl) ?_
    refine ar_ld hx hb hK hP 2 (k := jn) rfl rfl (by omega) (by decide) dX5_join_21 ?_
    refine lv_if_eq (tgt := 28) hx hb dX5_join_22 (by decide) (fun c_22 => ?_) (fun c_22 => ?_)
    · refine lv_aload_n hx hb dX5_join_28 rfl (lv_at hl 0 rfl) ?_
      refine va_get (ci := 5) (v := .ref nd) (C := RX5) (T := TX5) (N := 7) hx hb hts bi_5 hown hK hP 0 rfl rfl 3 (by decide) (hts _ bw_136) (fun _ h9 => h9) rfl dX5_join_29 ?_
      refine va_get (ci := 1) (v := .ref sa) (C := RX1) (T := TX1) (N := 6) hx hb hts bi_1 hown hK hP 1 rfl rfl 3 (by decide) (hts _ bw_58) (fun _ h9 => h9) rfl dX5_join_32 ?_
      refine lv_iload_n hx hb dX5_join_35 rfl (lv_at hl 1 rfl) ?_
      refine lv_iconst (v := 1) hx hb dX5_join_36 (by decide) ?_
      refine ar_st hx hb hK hP hD hS 2 (k := jn) rfl rfl (by omega) (by decide) dX5_join_37 _ rfl (fun H locs hP hD hS => ?_)
      have hP : va_P D cl_A [ob_J x 5 [.int (nI hh), .ref rl, .ref bk, .ref nd, .ref st, .ref sh, .ref wy], ob_J nd 1 [.int (nI sz), .ref kp, .ref ct, .ref sa, .ref la, .ref fz], ar_I sa cI 8 (upd fsa jn 1)] H := hP
      have hD : va_D A [ob_J x 5 [.int (nI hh), .ref rl, .ref bk, .ref nd, .ref st, .ref sh, .ref wy], ob_J nd 1 [.int (nI sz), .ref kp, .ref ct, .ref sa, .ref la, .ref fz], ar_I sa cI 8 (upd fsa jn 1)] := hD
      refine lv_aload_n hx hb dX5_join_38 rfl (lv_at hl 0 rfl) ?_
      refine va_get (ci := 5) (v := .int (nI hh)) (C := RX5) (T := TX5) (N := 7) hx hb hts bi_5 hown hK hP 0 rfl rfl 0 (by decide) (hts _ bw_133) (fun _ h9 => h9) rfl dX5_join_39 ?_
      refine lv_iconst (v := 1) hx hb dX5_join_42 (by decide) ?_
      refine lv_iadd hx hb dX5_join_43 ?_
      refine tp_i (x' := nI (hh + 1)) (nn_add rfl rfl) ?_
      have q_1 : upd fsa jn 1 = sa_join sz fsa (nI jn) := by simp [rr_join, sa_join, hn_P, h_5, t_jn, c_22]
      obtain ⟨hP, hD⟩ := cs_W (fun z_z => [ob_J x 5 [.int (nI hh), .ref rl, .ref bk, .ref nd, .ref st, .ref sh, .ref wy], ob_J nd 1 [.int (nI sz), .ref kp, .ref ct, .ref sa, .ref la, .ref fz], ar_I sa cI 8 z_z]) q_1 hP hD
      exact re_I (w1 := fun u_u : Unit => [ob_J x 5 [.int (nI hh), .ref rl, .ref bk, .ref nd, .ref st, .ref sh, .ref wy], ob_J nd 1 [.int (nI sz), .ref kp, .ref ct, .ref sa, .ref la, .ref fz], ar_I sa cI 8 (sa_join sz fsa (nI jn))]) (v := nI (hh + 1)) hx hb hr hlk hK hS rfl () hP hD (show nI (hh + 1) = rr_join hh sz fsa (nI jn) from by simp [rr_join, sa_join, hn_P, h_5, t_jn, c_22]) dX5_join_44
    · refine lv_bipush (v := (-4)) hx hb dX5_join_25 (by decide) ?_
      have q_2 : fsa = sa_join sz fsa (nI jn) := by simp [rr_join, sa_join, hn_P, h_5, t_jn, c_22]
      obtain ⟨hP, hD⟩ := cs_W (fun z_z => [ob_J x 5 [.int (nI hh), .ref rl, .ref bk, .ref nd, .ref st, .ref sh, .ref wy], ob_J nd 1 [.int (nI sz), .ref kp, .ref ct, .ref sa, .ref la, .ref fz], ar_I sa cI 8 z_z]) q_2 hP hD
      exact re_I (w1 := fun u_u : Unit => [ob_J x 5 [.int (nI hh), .ref rl, .ref bk, .ref nd, .ref st, .ref sh, .ref wy], ob_J nd 1 [.int (nI sz), .ref kp, .ref ct, .ref sa, .ref la, .ref fz], ar_I sa cI 8 (sa_join sz fsa (nI jn))]) (v := (-4)) hx hb hr hlk hK hS rfl () hP hD (show (-4) = rr_join hh sz fsa (nI jn) from by simp [rr_join, sa_join, hn_P, h_5, t_jn, c_22]) dX5_join_27
  · rw [if_neg h_5] at w_5; subst w_5
    refine lv_if_ne (tgt := 13) hx hb dX5_join_8 (by decide) (fun h9 => absurd (by decide) h9) (fun _ => ?_)
    refine lv_iconst (v := (-1)) hx hb dX5_join_11 (by decide) ?_
    have q_3 : fsa = sa_join sz fsa n := by simp [rr_join, sa_join, hn_P, h_5]
    obtain ⟨hP, hD⟩ := cs_W (fun z_z => [ob_J x 5 [.int (nI hh), .ref rl, .ref bk, .ref nd, .ref st, .ref sh, .ref wy], ob_J nd 1 [.int (nI sz), .ref kp, .ref ct, .ref sa, .ref la, .ref fz], ar_I sa cI 8 z_z]) q_3 hP hD
    exact re_I (w1 := fun u_u : Unit => [ob_J x 5 [.int (nI hh), .ref rl, .ref bk, .ref nd, .ref st, .ref sh, .ref wy], ob_J nd 1 [.int (nI sz), .ref kp, .ref ct, .ref sa, .ref la, .ref fz], ar_I sa cI 8 (sa_join sz fsa n)]) (v := (-1)) hx hb hr hlk hK hS rfl () hP hD (show (-1) = rr_join hh sz fsa n from by simp [rr_join, sa_join, hn_P, h_5]) dX5_join_12

set_option maxHeartbeats 4000000 in
set_option maxRecDepth 100000 in
theorem k_X5_leave (l : Launch) (D : va_G) (cI cJ cZ : ClassId) (x : Nat) (rl : Nat) (nd : Nat) (sa : Nat) (la : Nat) (fz : Nat) (hh : Nat) (bk : Nat) (st : Nat) (sh : Nat) (wy : Nat) (frl : Nat → Int32) (sz : Nat) (kp : Nat) (ct : Nat) (fsa : Nat → Int32) (fla : Nat → Int32) (ffz : Nat → Int32) (n : Int32) (w_ : Nat) (hsz : sz ≤ 8) (hw : frl 0 = nI w_) (hw9 : w_ ≤ 9) : mt_I l yX5_leave cX5_leave 2 .int 1 21 D cI cJ cZ [ob_J x 5 [.int (nI hh), .ref rl, .ref bk, .ref nd, .ref st, .ref sh, .ref wy], ar_I rl cI 4 frl, ob_J nd 1 [.int (nI sz), .ref kp, .ref ct, .ref sa, .ref la, .ref fz], ar_I sa cI 8 fsa, ar_I la cI 8 fla, ar_I fz cZ 8 ffz] [.ref x, .int n] (fun r (u_u : Unit) => r = rr_leave hh w_ sz fsa ffz n) (fun u_u : Unit => [ob_J x 5 [.int (nI hh), .ref rl, .ref bk, .ref nd, .ref st, .ref sh, .ref wy], ar_I rl cI 4 frl, ob_J nd 1 [.int (nI sz), .ref kp, .ref ct, .ref sa, .ref la, .ref fz], ar_I sa cI 8 (up_leave sz fsa ffz n fsa 3), ar_I la cI 8 (up_leave sz fsa ffz n fla (nI (hh + w_))), ar_I fz cZ 8 ffz]) := by
  refine en_I (by decide) (Nat.le_of_ble_eq_true rfl) ?_
  intro p e s m below meth c A ls H locs hx hb hr hml hts hown hlk hN hK hA hP hD hS hl
  have hown : s.vm.findClass RX5 = some m.cls := hown
  have hl : lv_has ls 2 [(0, .ref x), (1, .int n)] := hl
  refine lv_aload_n hx hb dX5_leave_0 rfl (lv_at hl 0 rfl) ?_
  refine va_get (ci := 5) (v := .ref nd) (C := RX5) (T := TX5) (N := 7) hx hb hts bi_5 hown hK hP 0 rfl rfl 3 (by decide) (hts _ bw_136) (fun _ h9 => h9) rfl dX5_leave_1 ?_
  refine lv_iload_n hx hb dX5_leave_4 rfl (lv_at hl 1 rfl) ?_
  refine ca_VI (rest := []) (wr := [ob_J x 5 [.int (nI hh), .ref rl, .ref bk, .ref nd, .ref st, .ref sh, .ref wy], ar_I rl cI 4 frl, ar_I sa cI 8 fsa, ar_I la cI 8 fla, ar_I fz cZ 8 ffz]) (w2 := fun u_u => [ob_J x 5 [.int (nI hh), .ref rl, .ref bk, .ref nd, .ref st, .ref sh, .ref wy], ar_I rl cI 4 frl, ob_J nd 1 [.int (nI sz), .ref kp, .ref ct, .ref sa, .ref la, .ref fz], ar_I sa cI 8 fsa, ar_I la cI 8 fla, ar_I fz cZ 8 ffz]) (k_X1_has l D cI cJ cZ nd sz kp ct sa la fz n ) hx hb hml hown hts hN hK hA hP hD hS 1 0 rfl rfl bw_190 bw_191 bw_192 bw_3 bw_193 1 rfl (by decide +kernel) ⟨by decide, by decide⟩ [2] [0, 1, 3, 4, 5] [0, 1, 5, 2, 3, 4] rfl rfl (by decide) (fun _ => rfl) hl.1 rfl (Nat.le_of_ble_eq_true rfl) dX5_leave_5 ⟨Nat.zero_le _, Nat.zero_le _⟩ (fun r_5 u_u H locs w_5 hP hD hS => ?_)
  have hP : va_P D cl_A [ob_J x 5 [.int (nI hh), .ref rl, .ref bk, .ref nd, .ref st, .ref sh, .ref wy], ar_I rl cI 4 frl, ob_J nd 1 [.int (nI sz), .ref kp, .ref ct, .ref sa, .ref la, .ref fz], ar_I sa cI 8 fsa, ar_I la cI 8 fla, ar_I fz cZ 8 ffz] H := hP
  have hD : va_D A [ob_J x 5 [.int (nI hh), .ref rl, .ref bk, .ref nd, .ref st, .ref sh, .ref wy], ar_I rl cI 4 frl, ob_J nd 1 [.int (nI sz), .ref kp, .ref ct, .ref sa, .ref la, .ref fz], ar_I sa cI 8 fsa, ar_I la cI 8 fla, ar_I fz cZ 8 ffz] := hD
  have w_5 : r_5 = if 0 ≤ n ∧ n < nI sz then 1 else 0 := w_5
  by_cases h_5 : 0 ≤ n ∧ n < nI sz
  · rw [if_pos h_5] at w_5; subst w_5
    obtain ⟨jn, h_jn, rfl⟩ : ∃ z : Nat, z < sz ∧ n = nI z := ix_lt (by omega) h_5
    have t_jn := tn_nI (n := jn) (by omega)
    refine lv_if_ne (tgt := 13) hx hb dX5_leave_8 (by decide) (fun _ => ?_) (fun h9 => absurd h9 (by decide))
    refine lv_aload_n hx hb dX5_leave_13 rfl (lv_at hl 0 rfl) ?_
    refine va_get (ci := 5) (v := .ref nd) (C := RX5) (T := TX5) (N := 7) hx hb hts bi_5 hown hK hP 0 rfl rfl 3 (by decide) (hts _ bw_136) (fun _ h9 => h9) rfl dX5_leave_14 ?_
    refine va_get (ci := 1) (v := .ref sa) (C := RX1) (T := TX1) (N := 6) hx hb hts bi_1 hown hK hP 2 rfl rfl 3 (by decide) (hts _ bw_58) (fun _ h9 => h9) rfl dX5_leave_17 ?_
    refine lv_iload_n hx hb dX5_leave_20 rfl (lv_at hl 1 rfl) ?_
    refine ar_ld hx hb hK hP 3 (k := jn) rfl rfl (by omega) (by decide) dX5_leave_21 ?_
    refine lv_iconst (v := 2) hx hb dX5_leave_22 (by decide) ?_
    refine lv_icmp_ne (tgt := 38) hx hb dX5_leave_23 (by decide) (fun c_23 => ?_) (fun c_23 => ?_)
    · refine lv_bipush (v := (-4)) hx hb dX5_leave_38 (by decide) ?_
      have q_1 : fsa = up_leave sz fsa ffz (nI jn) fsa 3 := by simp [rr_leave, up_leave, le_P, hn_P, up_i, h_5, t_jn, c_23]
      obtain ⟨hP, hD⟩ := cs_W (fun z_z => [ob_J x 5 [.int (nI hh), .ref rl, .ref bk, .ref nd, .ref st, .ref sh, .ref wy], ar_I rl cI 4 frl, ob_J nd 1 [.int (nI sz), .ref kp, .ref ct, .ref sa, .ref la, .ref fz], ar_I sa cI 8 z_z, ar_I la cI 8 fla, ar_I fz cZ 8 ffz]) q_1 hP hD
      have q_2 : fla = up_leave sz fsa ffz (nI jn) fla (nI (hh + w_)) := by simp [rr_leave, up_leave, le_P, hn_P, up_i, h_5, t_jn, c_23]
      obtain ⟨hP, hD⟩ := cs_W (fun z_z => [ob_J x 5 [.int (nI hh), .ref rl, .ref bk, .ref nd, .ref st, .ref sh, .ref wy], ar_I rl cI 4 frl, ob_J nd 1 [.int (nI sz), .ref kp, .ref ct, .ref sa, .ref la, .ref fz], ar_I sa cI 8 (up_leave sz fsa ffz (nI jn) fsa 3), ar_I la cI 8 z_z, ar_I fz cZ 8 ffz]) q_2 hP hD
      exact re_I (w1 := fun u_u : Unit => [ob_J x 5 [.int (nI hh), .ref rl, .ref bk, .ref nd, .ref st, .ref sh, .ref wy], ar_I rl cI 4 frl, ob_J nd 1 [.int (nI sz), .ref kp, .ref ct, .ref sa, .ref la, .ref fz], ar_I sa cI 8 (up_leave sz fsa ffz (nI jn) fsa 3), ar_I la cI 8 (up_leave sz fsa ffz (nI jn) fla (nI (hh + w_))), ar_I fz cZ 8 ffz]) (v := (-4)) hx hb hr hlk hK hS rfl () hP hD (show (-4) = rr_leave hh w_ sz fsa ffz (nI jn) from by simp [rr_leave, up_leave, le_P, hn_P, up_i, h_5, t_jn, c_23]) dX5_leave_40
    · refine lv_aload_n hx hb dX5_leave_26 rfl (lv_at hl 0 rfl) ?_
      refine va_get (ci := 5) (v := .ref nd) (C := RX5) (T := TX5) (N := 7) hx hb hts bi_5 hown hK hP 0 rfl rfl 3 (by decide) (hts _ bw_136) (fun _ h9 => h9) rfl dX5_leave_27 ?_
      refine va_get (ci := 1) (v := .ref fz) (C := RX1) (T := TX1) (N := 6) hx hb hts bi_1 hown hK hP 2 rfl rfl 5 (by decide) (hts _ bw_62) (fun _ h9 => h9) rfl dX5_leave_30 ?_
      refine lv_iload_n hx hb dX5_leave_33 rfl (lv_at hl 1 rfl) ?_
      refine ar_zd hx hb hK hP 5 (k := jn) rfl rfl (by omega) (by decide) dX5_leave_34 ?_
      refine lv_if_eq (tgt := 41) hx hb dX5_leave_35 (by decide) (fun c_35 => ?_) (fun c_35 => ?_)
      · refine lv_aload_n hx hb dX5_leave_41 rfl (lv_at hl 0 rfl) ?_
        refine va_get (ci := 5) (v := .ref nd) (C := RX5) (T := TX5) (N := 7) hx hb hts bi_5 hown hK hP 0 rfl rfl 3 (by decide) (hts _ bw_136) (fun _ h9 => h9) rfl dX5_leave_42 ?_
        refine va_get (ci := 1) (v := .ref sa) (C := RX1) (T := TX1) (N := 6) hx hb hts bi_1 hown hK hP 2 rfl rfl 3 (by decide) (hts _ bw_58) (fun _ h9 => h9) rfl dX5_leave_45 ?_
        refine lv_iload_n hx hb dX5_leave_48 rfl (lv_at hl 1 rfl) ?_
        refine lv_iconst (v := 3) hx hb dX5_leave_49 (by decide) ?_
        refine ar_st hx hb hK hP hD hS 3 (k := jn) rfl rfl (by omega) (by decide) dX5_leave_50 _ rfl (fun H locs hP hD hS => ?_)
        have hP : va_P D cl_A [ob_J x 5 [.int (nI hh), .ref rl, .ref bk, .ref nd, .ref st, .ref sh, .ref wy], ar_I rl cI 4 frl, ob_J nd 1 [.int (nI sz), .ref kp, .ref ct, .ref sa, .ref la, .ref fz], ar_I sa cI 8 (upd fsa jn 3), ar_I la cI 8 fla, ar_I fz cZ 8 ffz] H := hP
        have hD : va_D A [ob_J x 5 [.int (nI hh), .ref rl, .ref bk, .ref nd, .ref st, .ref sh, .ref wy], ar_I rl cI 4 frl, ob_J nd 1 [.int (nI sz), .ref kp, .ref ct, .ref sa, .ref la, .ref fz], ar_I sa cI 8 (upd fsa jn 3), ar_I la cI 8 fla, ar_I fz cZ 8 ffz] := hD
        refine lv_aload_n hx hb dX5_leave_51 rfl (lv_at hl 0 rfl) ?_
        refine va_get (ci := 5) (v := .ref nd) (C := RX5) (T := TX5) (N := 7) hx hb hts bi_5 hown hK hP 0 rfl rfl 3 (by decide) (hts _ bw_136) (fun _ h9 => h9) rfl dX5_leave_52 ?_
        refine va_get (ci := 1) (v := .ref la) (C := RX1) (T := TX1) (N := 6) hx hb hts bi_1 hown hK hP 2 rfl rfl 4 (by decide) (hts _ bw_60) (fun _ h9 => h9) rfl dX5_leave_55 ?_
        refine lv_iload_n hx hb dX5_leave_58 rfl (lv_at hl 1 rfl) ?_
        refine lv_aload_n hx hb dX5_leave_59 rfl (lv_at hl 0 rfl) ?_
        refine va_get (ci := 5) (v := .int (nI hh)) (C := RX5) (T := TX5) (N := 7) hx hb hts bi_5 hown hK hP 0 rfl rfl 0 (by decide) (hts _ bw_133) (fun _ h9 => h9) rfl dX5_leave_60 ?_
        refine lv_aload_n hx hb dX5_leave_63 rfl (lv_at hl 0 rfl) ?_
        refine va_get (ci := 5) (v := .ref rl) (C := RX5) (T := TX5) (N := 7) hx hb hts bi_5 hown hK hP 0 rfl rfl 1 (by decide) (hts _ bw_134) (fun _ h9 => h9) rfl dX5_leave_64 ?_
        refine lv_iconst (v := 0) hx hb dX5_leave_67 (by decide) ?_
        refine ar_ld hx hb hK hP 1 (k := 0) rfl rfl (by omega) (by decide) dX5_leave_68 ?_
        refine tp_i (x' := nI w_) (hw) ?_
        refine lv_iadd hx hb dX5_leave_69 ?_
        refine tp_i (x' := nI (hh + w_)) (nn_add rfl rfl) ?_
        refine ar_st hx hb hK hP hD hS 4 (k := jn) rfl rfl (by omega) (by decide) dX5_leave_70 _ rfl (fun H locs hP hD hS => ?_)
        have hP : va_P D cl_A [ob_J x 5 [.int (nI hh), .ref rl, .ref bk, .ref nd, .ref st, .ref sh, .ref wy], ar_I rl cI 4 frl, ob_J nd 1 [.int (nI sz), .ref kp, .ref ct, .ref sa, .ref la, .ref fz], ar_I sa cI 8 (upd fsa jn 3), ar_I la cI 8 (upd fla jn (nI (hh + w_))), ar_I fz cZ 8 ffz] H := hP
        have hD : va_D A [ob_J x 5 [.int (nI hh), .ref rl, .ref bk, .ref nd, .ref st, .ref sh, .ref wy], ar_I rl cI 4 frl, ob_J nd 1 [.int (nI sz), .ref kp, .ref ct, .ref sa, .ref la, .ref fz], ar_I sa cI 8 (upd fsa jn 3), ar_I la cI 8 (upd fla jn (nI (hh + w_))), ar_I fz cZ 8 ffz] := hD
        refine lv_aload_n hx hb dX5_leave_71 rfl (lv_at hl 0 rfl) ?_
        refine va_get (ci := 5) (v := .ref nd) (C := RX5) (T := TX5) (N := 7) hx hb hts bi_5 hown hK hP 0 rfl rfl 3 (by decide) (hts _ bw_136) (fun _ h9 => h9) rfl dX5_leave_72 ?_
        refine va_get (ci := 1) (v := .ref la) (C := RX1) (T := TX1) (N := 6) hx hb hts bi_1 hown hK hP 2 rfl rfl 4 (by decide) (hts _ bw_60) (fun _ h9 => h9) rfl dX5_leave_75 ?_
        refine lv_iload_n hx hb dX5_leave_78 rfl (lv_at hl 1 rfl) ?_
        refine ar_ld hx hb hK hP 4 (k := jn) rfl rfl (by omega) (by decide) dX5_leave_79 ?_
        have q_3 : upd fsa jn 3 = up_leave sz fsa ffz (nI jn) fsa 3 := by simp [rr_leave, up_leave, le_P, hn_P, up_i, h_5, t_jn, c_23, c_35]
        obtain ⟨hP, hD⟩ := cs_W (fun z_z => [ob_J x 5 [.int (nI hh), .ref rl, .ref bk, .ref nd, .ref st, .ref sh, .ref wy], ar_I rl cI 4 frl, ob_J nd 1 [.int (nI sz), .ref kp, .ref ct, .ref sa, .ref la, .ref fz], ar_I sa cI 8 z_z, ar_I la cI 8 (upd fla jn (nI (hh + w_))), ar_I fz cZ 8 ffz]) q_3 hP hD
        have q_4 : upd fla jn (nI (hh + w_)) = up_leave sz fsa ffz (nI jn) fla (nI (hh + w_)) := by simp [rr_leave, up_leave, le_P, hn_P, up_i, h_5, t_jn, c_23, c_35]
        obtain ⟨hP, hD⟩ := cs_W (fun z_z => [ob_J x 5 [.int (nI hh), .ref rl, .ref bk, .ref nd, .ref st, .ref sh, .ref wy], ar_I rl cI 4 frl, ob_J nd 1 [.int (nI sz), .ref kp, .ref ct, .ref sa, .ref la, .ref fz], ar_I sa cI 8 (up_leave sz fsa ffz (nI jn) fsa 3), ar_I la cI 8 z_z, ar_I fz cZ 8 ffz]) q_4 hP hD
        exact re_I (w1 := fun u_u : Unit => [ob_J x 5 [.int (nI hh), .ref rl, .ref bk, .ref nd, .ref st, .ref sh, .ref wy], ar_I rl cI 4 frl, ob_J nd 1 [.int (nI sz), .ref kp, .ref ct, .ref sa, .ref la, .ref fz], ar_I sa cI 8 (up_leave sz fsa ffz (nI jn) fsa 3), ar_I la cI 8 (up_leave sz fsa ffz (nI jn) fla (nI (hh + w_))), ar_I fz cZ 8 ffz]) (v := (upd fla jn (nI (hh + w_))) jn) hx hb hr hlk hK hS rfl () hP hD (show (upd fla jn (nI (hh + w_))) jn = rr_leave hh w_ sz fsa ffz (nI jn) from by simp [rr_leave, up_leave, le_P, hn_P, up_i, h_5, t_jn, c_23, c_35]) dX5_leave_80
      · refine lv_bipush (v := (-4)) hx hb dX5_leave_38 (by decide) ?_
        have q_5 : fsa = up_leave sz fsa ffz (nI jn) fsa 3 := by simp [rr_leave, up_leave, le_P, hn_P, up_i, h_5, t_jn, c_23, c_35]
        obtain ⟨hP, hD⟩ := cs_W (fun z_z => [ob_J x 5 [.int (nI hh), .ref rl, .ref bk, .ref nd, .ref st, .ref sh, .ref wy], ar_I rl cI 4 frl, ob_J nd 1 [.int (nI sz), .ref kp, .ref ct, .ref sa, .ref la, .ref fz], ar_I sa cI 8 z_z, ar_I la cI 8 fla, ar_I fz cZ 8 ffz]) q_5 hP hD
        have q_6 : fla = up_leave sz fsa ffz (nI jn) fla (nI (hh + w_)) := by simp [rr_leave, up_leave, le_P, hn_P, up_i, h_5, t_jn, c_23, c_35]
        obtain ⟨hP, hD⟩ := cs_W (fun z_z => [ob_J x 5 [.int (nI hh), .ref rl, .ref bk, .ref nd, .ref st, .ref sh, .ref wy], ar_I rl cI 4 frl, ob_J nd 1 [.int (nI sz), .ref kp, .ref ct, .ref sa, .ref la, .ref fz], ar_I sa cI 8 (up_leave sz fsa ffz (nI jn) fsa 3), ar_I la cI 8 z_z, ar_I fz cZ 8 ffz]) q_6 hP hD
        exact re_I (w1 := fun u_u : Unit => [ob_J x 5 [.int (nI hh), .ref rl, .ref bk, .ref nd, .ref st, .ref sh, .ref wy], ar_I rl cI 4 frl, ob_J nd 1 [.int (nI sz), .ref kp, .ref ct, .ref sa, .ref la, .ref fz], ar_I sa cI 8 (up_leave sz fsa ffz (nI jn) fsa 3), ar_I la cI 8 (up_leave sz fsa ffz (nI jn) fla (nI (hh + w_))), ar_I fz cZ 8 ffz]) (v := (-4)) hx hb hr hlk hK hS rfl () hP hD (show (-4) = rr_leave hh w_ sz fsa ffz (nI jn) from by simp [rr_leave, up_leave, le_P, hn_P, up_i, h_5, t_jn, c_23, c_35]) dX5_leave_40
  · rw [if_neg h_5] at w_5; subst w_5
    refine lv_if_ne (tgt := 13) hx hb dX5_leave_8 (by decide) (fun h9 => absurd (by decide) h9) (fun _ => ?_)
    refine lv_iconst (v := (-1)) hx hb dX5_leave_11 (by decide) ?_
    have q_7 : fsa = up_leave sz fsa ffz n fsa 3 := by simp [rr_leave, up_leave, le_P, hn_P, up_i, h_5]
    obtain ⟨hP, hD⟩ := cs_W (fun z_z => [ob_J x 5 [.int (nI hh), .ref rl, .ref bk, .ref nd, .ref st, .ref sh, .ref wy], ar_I rl cI 4 frl, ob_J nd 1 [.int (nI sz), .ref kp, .ref ct, .ref sa, .ref la, .ref fz], ar_I sa cI 8 z_z, ar_I la cI 8 fla, ar_I fz cZ 8 ffz]) q_7 hP hD
    have q_8 : fla = up_leave sz fsa ffz n fla (nI (hh + w_)) := by simp [rr_leave, up_leave, le_P, hn_P, up_i, h_5]
    obtain ⟨hP, hD⟩ := cs_W (fun z_z => [ob_J x 5 [.int (nI hh), .ref rl, .ref bk, .ref nd, .ref st, .ref sh, .ref wy], ar_I rl cI 4 frl, ob_J nd 1 [.int (nI sz), .ref kp, .ref ct, .ref sa, .ref la, .ref fz], ar_I sa cI 8 (up_leave sz fsa ffz n fsa 3), ar_I la cI 8 z_z, ar_I fz cZ 8 ffz]) q_8 hP hD
    exact re_I (w1 := fun u_u : Unit => [ob_J x 5 [.int (nI hh), .ref rl, .ref bk, .ref nd, .ref st, .ref sh, .ref wy], ar_I rl cI 4 frl, ob_J nd 1 [.int (nI sz), .ref kp, .ref ct, .ref sa, .ref la, .ref fz], ar_I sa cI 8 (up_leave sz fsa ffz n fsa 3), ar_I la cI 8 (up_leave sz fsa ffz n fla (nI (hh + w_))), ar_I fz cZ 8 ffz]) (v := (-1)) hx hb hr hlk hK hS rfl () hP hD (show (-1) = rr_leave hh w_ sz fsa ffz n from by simp [rr_leave, up_leave, le_P, hn_P, up_i, h_5]) dX5_leave_12

set_option maxHeartbeats 4000000 in
set_option maxRecDepth 100000 in
theorem k_X5_freeze (l : Launch) (D : va_G) (cI cJ cZ : ClassId) (x : Nat) (nd : Nat) (fz : Nat) (hh : Nat) (rl : Nat) (bk : Nat) (st : Nat) (sh : Nat) (wy : Nat) (sz : Nat) (kp : Nat) (ct : Nat) (sa : Nat) (la : Nat) (ffz : Nat → Int32) (n : Int32) (on_ : Int32) (hsz : sz ≤ 8) (hon : vp_nar .boolean on_ = on_) : mt_I l yX5_freeze cX5_freeze 4 .int 1 21 D cI cJ cZ [ob_J x 5 [.int (nI hh), .ref rl, .ref bk, .ref nd, .ref st, .ref sh, .ref wy], ob_J nd 1 [.int (nI sz), .ref kp, .ref ct, .ref sa, .ref la, .ref fz], ar_I fz cZ 8 ffz] [.ref x, .int n, .int on_] (fun r (u_u : Unit) => r = rr_freeze sz ffz n) (fun u_u : Unit => [ob_J x 5 [.int (nI hh), .ref rl, .ref bk, .ref nd, .ref st, .ref sh, .ref wy], ob_J nd 1 [.int (nI sz), .ref kp, .ref ct, .ref sa, .ref la, .ref fz], ar_I fz cZ 8 (fz_freeze sz ffz n on_)]) := by
  refine en_I (by decide) (Nat.le_of_ble_eq_true rfl) ?_
  intro p e s m below meth c A ls H locs hx hb hr hml hts hown hlk hN hK hA hP hD hS hl
  have hown : s.vm.findClass RX5 = some m.cls := hown
  have hl : lv_has ls 4 [(0, .ref x), (1, .int n), (2, .int on_)] := hl
  refine lv_aload_n hx hb dX5_freeze_0 rfl (lv_at hl 0 rfl) ?_
  refine va_get (ci := 5) (v := .ref nd) (C := RX5) (T := TX5) (N := 7) hx hb hts bi_5 hown hK hP 0 rfl rfl 3 (by decide) (hts _ bw_136) (fun _ h9 => h9) rfl dX5_freeze_1 ?_
  refine lv_iload_n hx hb dX5_freeze_4 rfl (lv_at hl 1 rfl) ?_
  refine ca_VI (rest := []) (wr := [ob_J x 5 [.int (nI hh), .ref rl, .ref bk, .ref nd, .ref st, .ref sh, .ref wy], ar_I fz cZ 8 ffz]) (w2 := fun u_u => [ob_J x 5 [.int (nI hh), .ref rl, .ref bk, .ref nd, .ref st, .ref sh, .ref wy], ob_J nd 1 [.int (nI sz), .ref kp, .ref ct, .ref sa, .ref la, .ref fz], ar_I fz cZ 8 ffz]) (k_X1_has l D cI cJ cZ nd sz kp ct sa la fz n ) hx hb hml hown hts hN hK hA hP hD hS 1 0 rfl rfl bw_190 bw_191 bw_192 bw_3 bw_193 1 rfl (by decide +kernel) ⟨by decide, by decide⟩ [1] [0, 2] [0, 2, 1] rfl rfl (by decide) (fun _ => rfl) hl.1 rfl (Nat.le_of_ble_eq_true rfl) dX5_freeze_5 ⟨Nat.zero_le _, Nat.zero_le _⟩ (fun r_5 u_u H locs w_5 hP hD hS => ?_)
  have hP : va_P D cl_A [ob_J x 5 [.int (nI hh), .ref rl, .ref bk, .ref nd, .ref st, .ref sh, .ref wy], ob_J nd 1 [.int (nI sz), .ref kp, .ref ct, .ref sa, .ref la, .ref fz], ar_I fz cZ 8 ffz] H := hP
  have hD : va_D A [ob_J x 5 [.int (nI hh), .ref rl, .ref bk, .ref nd, .ref st, .ref sh, .ref wy], ob_J nd 1 [.int (nI sz), .ref kp, .ref ct, .ref sa, .ref la, .ref fz], ar_I fz cZ 8 ffz] := hD
  have w_5 : r_5 = if 0 ≤ n ∧ n < nI sz then 1 else 0 := w_5
  by_cases h_5 : 0 ≤ n ∧ n < nI sz
  · rw [if_pos h_5] at w_5; subst w_5
    obtain ⟨jn, h_jn, rfl⟩ : ∃ z : Nat, z < sz ∧ n = nI z := ix_lt (by omega) h_5
    have t_jn := tn_nI (n := jn) (by omega)
    refine lv_if_ne (tgt := 13) hx hb dX5_freeze_8 (by decide) (fun _ => ?_) (fun h9 => absurd h9 (by decide))
    refine lv_aload_n hx hb dX5_freeze_13 rfl (lv_at hl 0 rfl) ?_
    refine va_get (ci := 5) (v := .ref nd) (C := RX5) (T := TX5) (N := 7) hx hb hts bi_5 hown hK hP 0 rfl rfl 3 (by decide) (hts _ bw_136) (fun _ h9 => h9) rfl dX5_freeze_14 ?_
    refine va_get (ci := 1) (v := .ref fz) (C := RX1) (T := TX1) (N := 6) hx hb hts bi_1 hown hK hP 1 rfl rfl 5 (by decide) (hts _ bw_62) (fun _ h9 => h9) rfl dX5_freeze_17 ?_
    refine lv_iload_n hx hb dX5_freeze_20 rfl (lv_at hl 1 rfl) ?_
    refine ar_zd hx hb hK hP 2 (k := jn) rfl rfl (by omega) (by decide) dX5_freeze_21 ?_
    refine lv_if_eq (tgt := 29) hx hb dX5_freeze_22 (by decide) (fun c_22 => ?_) (fun c_22 => ?_)
    · refine lv_iconst (v := 0) hx hb dX5_freeze_29 (by decide) ?_
      refine lv_istore_n (lv' := [(3, .int 0), (0, .ref x), (1, .int (nI jn)), (2, .int on_)]) hx hb dX5_freeze_30 rfl hl (by decide) rfl (fun ls hl => ?_)
      refine lv_aload_n hx hb dX5_freeze_31 rfl (lv_at hl 1 rfl) ?_
      refine va_get (ci := 5) (v := .ref nd) (C := RX5) (T := TX5) (N := 7) hx hb hts bi_5 hown hK hP 0 rfl rfl 3 (by decide) (hts _ bw_136) (fun _ h9 => h9) rfl dX5_freeze_32 ?_
      refine va_get (ci := 1) (v := .ref fz) (C := RX1) (T := TX1) (N := 6) hx hb hts bi_1 hown hK hP 1 rfl rfl 5 (by decide) (hts _ bw_62) (fun _ h9 => h9) rfl dX5_freeze_35 ?_
      refine lv_iload_n hx hb dX5_freeze_38 rfl (lv_at hl 2 rfl) ?_
      refine lv_iload_n hx hb dX5_freeze_39 rfl (lv_at hl 3 rfl) ?_
      refine ar_zst hx hb hK hP hD hS 2 (k := jn) rfl rfl (by omega) (by decide) (hon) dX5_freeze_40 _ rfl (fun H locs hP hD hS => ?_)
      have hP : va_P D cl_A [ob_J x 5 [.int (nI hh), .ref rl, .ref bk, .ref nd, .ref st, .ref sh, .ref wy], ob_J nd 1 [.int (nI sz), .ref kp, .ref ct, .ref sa, .ref la, .ref fz], ar_I fz cZ 8 (upd ffz jn on_)] H := hP
      have hD : va_D A [ob_J x 5 [.int (nI hh), .ref rl, .ref bk, .ref nd, .ref st, .ref sh, .ref wy], ob_J nd 1 [.int (nI sz), .ref kp, .ref ct, .ref sa, .ref la, .ref fz], ar_I fz cZ 8 (upd ffz jn on_)] := hD
      refine lv_iload_n hx hb dX5_freeze_41 rfl (lv_at hl 0 rfl) ?_
      have q_1 : upd ffz jn on_ = fz_freeze sz ffz (nI jn) on_ := by simp [rr_freeze, fz_freeze, hn_P, h_5, t_jn, c_22]
      obtain ⟨hP, hD⟩ := cs_W (fun z_z => [ob_J x 5 [.int (nI hh), .ref rl, .ref bk, .ref nd, .ref st, .ref sh, .ref wy], ob_J nd 1 [.int (nI sz), .ref kp, .ref ct, .ref sa, .ref la, .ref fz], ar_I fz cZ 8 z_z]) q_1 hP hD
      exact re_I (w1 := fun u_u : Unit => [ob_J x 5 [.int (nI hh), .ref rl, .ref bk, .ref nd, .ref st, .ref sh, .ref wy], ob_J nd 1 [.int (nI sz), .ref kp, .ref ct, .ref sa, .ref la, .ref fz], ar_I fz cZ 8 (fz_freeze sz ffz (nI jn) on_)]) (v := 0) hx hb hr hlk hK hS rfl () hP hD (show 0 = rr_freeze sz ffz (nI jn) from by simp [rr_freeze, fz_freeze, hn_P, h_5, t_jn, c_22]) dX5_freeze_42
    · refine lv_iconst (v := 1) hx hb dX5_freeze_25 (by decide) ?_
      refine lv_goto (tgt := 30) hx hb dX5_freeze_26 (by decide) ?_
      refine lv_istore_n (lv' := [(3, .int 1), (0, .ref x), (1, .int (nI jn)), (2, .int on_)]) hx hb dX5_freeze_30 rfl hl (by decide) rfl (fun ls hl => ?_)
      refine lv_aload_n hx hb dX5_freeze_31 rfl (lv_at hl 1 rfl) ?_
      refine va_get (ci := 5) (v := .ref nd) (C := RX5) (T := TX5) (N := 7) hx hb hts bi_5 hown hK hP 0 rfl rfl 3 (by decide) (hts _ bw_136) (fun _ h9 => h9) rfl dX5_freeze_32 ?_
      refine va_get (ci := 1) (v := .ref fz) (C := RX1) (T := TX1) (N := 6) hx hb hts bi_1 hown hK hP 1 rfl rfl 5 (by decide) (hts _ bw_62) (fun _ h9 => h9) rfl dX5_freeze_35 ?_
      refine lv_iload_n hx hb dX5_freeze_38 rfl (lv_at hl 2 rfl) ?_
      refine lv_iload_n hx hb dX5_freeze_39 rfl (lv_at hl 3 rfl) ?_
      refine ar_zst hx hb hK hP hD hS 2 (k := jn) rfl rfl (by omega) (by decide) (hon) dX5_freeze_40 _ rfl (fun H locs hP hD hS => ?_)
      have hP : va_P D cl_A [ob_J x 5 [.int (nI hh), .ref rl, .ref bk, .ref nd, .ref st, .ref sh, .ref wy], ob_J nd 1 [.int (nI sz), .ref kp, .ref ct, .ref sa, .ref la, .ref fz], ar_I fz cZ 8 (upd ffz jn on_)] H := hP
      have hD : va_D A [ob_J x 5 [.int (nI hh), .ref rl, .ref bk, .ref nd, .ref st, .ref sh, .ref wy], ob_J nd 1 [.int (nI sz), .ref kp, .ref ct, .ref sa, .ref la, .ref fz], ar_I fz cZ 8 (upd ffz jn on_)] := hD
      refine lv_iload_n hx hb dX5_freeze_41 rfl (lv_at hl 0 rfl) ?_
      have q_2 : upd ffz jn on_ = fz_freeze sz ffz (nI jn) on_ := by simp [rr_freeze, fz_freeze, hn_P, h_5, t_jn, c_22]
      obtain ⟨hP, hD⟩ := cs_W (fun z_z => [ob_J x 5 [.int (nI hh), .ref rl, .ref bk, .ref nd, .ref st, .ref sh, .ref wy], ob_J nd 1 [.int (nI sz), .ref kp, .ref ct, .ref sa, .ref la, .ref fz], ar_I fz cZ 8 z_z]) q_2 hP hD
      exact re_I (w1 := fun u_u : Unit => [ob_J x 5 [.int (nI hh), .ref rl, .ref bk, .ref nd, .ref st, .ref sh, .ref wy], ob_J nd 1 [.int (nI sz), .ref kp, .ref ct, .ref sa, .ref la, .ref fz], ar_I fz cZ 8 (fz_freeze sz ffz (nI jn) on_)]) (v := 1) hx hb hr hlk hK hS rfl () hP hD (show 1 = rr_freeze sz ffz (nI jn) from by simp [rr_freeze, fz_freeze, hn_P, h_5, t_jn, c_22]) dX5_freeze_42
  · rw [if_neg h_5] at w_5; subst w_5
    refine lv_if_ne (tgt := 13) hx hb dX5_freeze_8 (by decide) (fun h9 => absurd (by decide) h9) (fun _ => ?_)
    refine lv_iconst (v := (-1)) hx hb dX5_freeze_11 (by decide) ?_
    have q_3 : ffz = fz_freeze sz ffz n on_ := by simp [rr_freeze, fz_freeze, hn_P, h_5]
    obtain ⟨hP, hD⟩ := cs_W (fun z_z => [ob_J x 5 [.int (nI hh), .ref rl, .ref bk, .ref nd, .ref st, .ref sh, .ref wy], ob_J nd 1 [.int (nI sz), .ref kp, .ref ct, .ref sa, .ref la, .ref fz], ar_I fz cZ 8 z_z]) q_3 hP hD
    exact re_I (w1 := fun u_u : Unit => [ob_J x 5 [.int (nI hh), .ref rl, .ref bk, .ref nd, .ref st, .ref sh, .ref wy], ob_J nd 1 [.int (nI sz), .ref kp, .ref ct, .ref sa, .ref la, .ref fz], ar_I fz cZ 8 (fz_freeze sz ffz n on_)]) (v := (-1)) hx hb hr hlk hK hS rfl () hP hD (show (-1) = rr_freeze sz ffz n from by simp [rr_freeze, fz_freeze, hn_P, h_5]) dX5_freeze_12

set_option maxHeartbeats 4000000 in
set_option maxRecDepth 100000 in
theorem k_X5_balance (l : Launch) (D : va_G) (cI cJ cZ : ClassId) (x : Nat) (bk : Nat) (bal : Nat) (hh : Nat) (rl : Nat) (nd : Nat) (st : Nat) (sh : Nat) (wy : Nat) (funded : Int32) (rewarded : Int32) (stk : Nat) (due : Nat) (fbal : Nat → Int32) (a : Int32)  : mt_I l yX5_balance cX5_balance 2 .int 2 42 D cI cJ cZ [ob_J x 5 [.int (nI hh), .ref rl, .ref bk, .ref nd, .ref st, .ref sh, .ref wy], ob_J bk 0 [.int funded, .int rewarded, .ref bal, .ref stk, .ref due], ar_I bal cI 10 fbal] [.ref x, .int a] (fun r (u_u : Unit) => r = rr_balance fbal a) (fun u_u : Unit => [ob_J x 5 [.int (nI hh), .ref rl, .ref bk, .ref nd, .ref st, .ref sh, .ref wy], ob_J bk 0 [.int funded, .int rewarded, .ref bal, .ref stk, .ref due], ar_I bal cI 10 fbal]) := by
  refine en_I (by decide) (Nat.le_of_ble_eq_true rfl) ?_
  intro p e s m below meth c A ls H locs hx hb hr hml hts hown hlk hN hK hA hP hD hS hl
  have hown : s.vm.findClass RX5 = some m.cls := hown
  have hl : lv_has ls 2 [(0, .ref x), (1, .int a)] := hl
  refine lv_iload_n hx hb dX5_balance_0 rfl (lv_at hl 1 rfl) ?_
  refine ca_SI (rest := []) (k_X5_isAccount l D cI cJ cZ a ) hx hb hml hown hts hN hK hA hP hD hS bw_170 bw_171 bw_1 bw_172 1 rfl (by decide +kernel) ⟨by decide, by decide⟩ hl.1 rfl (Nat.le_of_ble_eq_true rfl) dX5_balance_1 ⟨Nat.zero_le _, Nat.zero_le _⟩ (fun r_1 u_u H locs w_1 hP hD hS => ?_)
  have w_1 : r_1 = if 0 ≤ a ∧ a ≤ 9 then 1 else 0 := w_1
  by_cases h_1 : 0 ≤ a ∧ a ≤ 9
  · rw [if_pos h_1] at w_1; subst w_1
    obtain ⟨ia, h_ia, rfl⟩ : ∃ z : Nat, z < 10 ∧ a = nI z := ix_le (by decide) h_1
    have t_ia := tn_nI (n := ia) (by omega)
    refine lv_if_eq (tgt := 19) hx hb dX5_balance_4 (by decide) (fun h9 => absurd h9 (by decide)) (fun _ => ?_)
    refine lv_aload_n hx hb dX5_balance_7 rfl (lv_at hl 0 rfl) ?_
    refine va_get (ci := 5) (v := .ref bk) (C := RX5) (T := TX5) (N := 7) hx hb hts bi_5 hown hK hP 0 rfl rfl 2 (by decide) (hts _ bw_135) (fun _ h9 => h9) rfl dX5_balance_8 ?_
    refine va_get (ci := 0) (v := .ref bal) (C := RX0) (T := TX0) (N := 5) hx hb hts bi_0 hown hK hP 1 rfl rfl 2 (by decide) (hts _ bw_28) (fun _ h9 => h9) rfl dX5_balance_11 ?_
    refine lv_iload_n hx hb dX5_balance_14 rfl (lv_at hl 1 rfl) ?_
    refine ar_ld hx hb hK hP 2 (k := ia) rfl rfl (by omega) (by decide) dX5_balance_15 ?_
    refine lv_goto (tgt := 20) hx hb dX5_balance_16 (by decide) ?_
    exact re_I (w1 := fun u_u : Unit => [ob_J x 5 [.int (nI hh), .ref rl, .ref bk, .ref nd, .ref st, .ref sh, .ref wy], ob_J bk 0 [.int funded, .int rewarded, .ref bal, .ref stk, .ref due], ar_I bal cI 10 fbal]) (v := fbal ia) hx hb hr hlk hK hS rfl () hP hD (show fbal ia = rr_balance fbal (nI ia) from by simp [rr_balance, ac_P, h_1, t_ia]) dX5_balance_20
  · rw [if_neg h_1] at w_1; subst w_1
    refine lv_if_eq (tgt := 19) hx hb dX5_balance_4 (by decide) (fun _ => ?_) (fun h9 => absurd (by decide) h9)
    refine lv_iconst (v := (-1)) hx hb dX5_balance_19 (by decide) ?_
    exact re_I (w1 := fun u_u : Unit => [ob_J x 5 [.int (nI hh), .ref rl, .ref bk, .ref nd, .ref st, .ref sh, .ref wy], ob_J bk 0 [.int funded, .int rewarded, .ref bal, .ref stk, .ref due], ar_I bal cI 10 fbal]) (v := (-1)) hx hb hr hlk hK hS rfl () hP hD (show (-1) = rr_balance fbal a from by simp [rr_balance, ac_P, h_1]) dX5_balance_20

set_option maxHeartbeats 4000000 in
set_option maxRecDepth 100000 in
theorem k_X5_staked (l : Launch) (D : va_G) (cI cJ cZ : ClassId) (x : Nat) (bk : Nat) (stk : Nat) (nd : Nat) (hh : Nat) (rl : Nat) (st : Nat) (sh : Nat) (wy : Nat) (funded : Int32) (rewarded : Int32) (bal : Nat) (due : Nat) (fstk : Nat → Int32) (sz : Nat) (kp : Nat) (ct : Nat) (sa : Nat) (la : Nat) (fz : Nat) (a : Int32) (n : Int32) (hsz : sz ≤ 8) : mt_I l yX5_staked cX5_staked 3 .int 2 44 D cI cJ cZ [ob_J x 5 [.int (nI hh), .ref rl, .ref bk, .ref nd, .ref st, .ref sh, .ref wy], ob_J bk 0 [.int funded, .int rewarded, .ref bal, .ref stk, .ref due], ar_I stk cI 80 fstk, ob_J nd 1 [.int (nI sz), .ref kp, .ref ct, .ref sa, .ref la, .ref fz]] [.ref x, .int a, .int n] (fun r (u_u : Unit) => r = rr_staked sz fstk a n) (fun u_u : Unit => [ob_J x 5 [.int (nI hh), .ref rl, .ref bk, .ref nd, .ref st, .ref sh, .ref wy], ob_J bk 0 [.int funded, .int rewarded, .ref bal, .ref stk, .ref due], ar_I stk cI 80 fstk, ob_J nd 1 [.int (nI sz), .ref kp, .ref ct, .ref sa, .ref la, .ref fz]]) := by
  refine en_I (by decide) (Nat.le_of_ble_eq_true rfl) ?_
  intro p e s m below meth c A ls H locs hx hb hr hml hts hown hlk hN hK hA hP hD hS hl
  have hown : s.vm.findClass RX5 = some m.cls := hown
  have hl : lv_has ls 3 [(0, .ref x), (1, .int a), (2, .int n)] := hl
  refine lv_iload_n hx hb dX5_staked_0 rfl (lv_at hl 1 rfl) ?_
  refine ca_SI (rest := []) (k_X5_isAccount l D cI cJ cZ a ) hx hb hml hown hts hN hK hA hP hD hS bw_170 bw_171 bw_1 bw_172 1 rfl (by decide +kernel) ⟨by decide, by decide⟩ hl.1 rfl (Nat.le_of_ble_eq_true rfl) dX5_staked_1 ⟨Nat.zero_le _, Nat.zero_le _⟩ (fun r_1 u_u H locs w_1 hP hD hS => ?_)
  have w_1 : r_1 = if 0 ≤ a ∧ a ≤ 9 then 1 else 0 := w_1
  by_cases h_1 : 0 ≤ a ∧ a ≤ 9
  · rw [if_pos h_1] at w_1; subst w_1
    obtain ⟨ia, h_ia, rfl⟩ : ∃ z : Nat, z < 10 ∧ a = nI z := ix_le (by decide) h_1
    have t_ia := tn_nI (n := ia) (by omega)
    refine lv_if_ne (tgt := 9) hx hb dX5_staked_4 (by decide) (fun _ => ?_) (fun h9 => absurd h9 (by decide))
    refine lv_iload_n hx hb dX5_staked_9 rfl (lv_at hl 2 rfl) ?_
    refine lv_iconst (v := (-1)) hx hb dX5_staked_10 (by decide) ?_
    refine lv_icmp_ne (tgt := 23) hx hb dX5_staked_11 (by decide) (fun c_11 => ?_) (fun c_11 => ?_)
    · refine lv_aload_n hx hb dX5_staked_23 rfl (lv_at hl 0 rfl) ?_
      refine va_get (ci := 5) (v := .ref nd) (C := RX5) (T := TX5) (N := 7) hx hb hts bi_5 hown hK hP 0 rfl rfl 3 (by decide) (hts _ bw_136) (fun _ h9 => h9) rfl dX5_staked_24 ?_
      refine lv_iload_n hx hb dX5_staked_27 rfl (lv_at hl 2 rfl) ?_
      refine ca_VI (rest := []) (wr := [ob_J x 5 [.int (nI hh), .ref rl, .ref bk, .ref nd, .ref st, .ref sh, .ref wy], ob_J bk 0 [.int funded, .int rewarded, .ref bal, .ref stk, .ref due], ar_I stk cI 80 fstk]) (w2 := fun u_u => [ob_J x 5 [.int (nI hh), .ref rl, .ref bk, .ref nd, .ref st, .ref sh, .ref wy], ob_J bk 0 [.int funded, .int rewarded, .ref bal, .ref stk, .ref due], ar_I stk cI 80 fstk, ob_J nd 1 [.int (nI sz), .ref kp, .ref ct, .ref sa, .ref la, .ref fz]]) (k_X1_has l D cI cJ cZ nd sz kp ct sa la fz n ) hx hb hml hown hts hN hK hA hP hD hS 1 0 rfl rfl bw_190 bw_191 bw_192 bw_3 bw_193 1 rfl (by decide +kernel) ⟨by decide, by decide⟩ [3] [0, 1, 2] [0, 1, 2, 3] rfl rfl (by decide) (fun _ => rfl) hl.1 rfl (Nat.le_of_ble_eq_true rfl) dX5_staked_28 ⟨Nat.zero_le _, Nat.zero_le _⟩ (fun r_28 u_u H locs w_28 hP hD hS => ?_)
      have hP : va_P D cl_A [ob_J x 5 [.int (nI hh), .ref rl, .ref bk, .ref nd, .ref st, .ref sh, .ref wy], ob_J bk 0 [.int funded, .int rewarded, .ref bal, .ref stk, .ref due], ar_I stk cI 80 fstk, ob_J nd 1 [.int (nI sz), .ref kp, .ref ct, .ref sa, .ref la, .ref fz]] H := hP
      have hD : va_D A [ob_J x 5 [.int (nI hh), .ref rl, .ref bk, .ref nd, .ref st, .ref sh, .ref wy], ob_J bk 0 [.int funded, .int rewarded, .ref bal, .ref stk, .ref due], ar_I stk cI 80 fstk, ob_J nd 1 [.int (nI sz), .ref kp, .ref ct, .ref sa, .ref la, .ref fz]] := hD
      have w_28 : r_28 = if 0 ≤ n ∧ n < nI sz then 1 else 0 := w_28
      by_cases h_28 : 0 ≤ n ∧ n < nI sz
      · rw [if_pos h_28] at w_28; subst w_28
        obtain ⟨jn, h_jn, rfl⟩ : ∃ z : Nat, z < sz ∧ n = nI z := ix_lt (by omega) h_28
        have t_jn := tn_nI (n := jn) (by omega)
        refine lv_if_eq (tgt := 50) hx hb dX5_staked_31 (by decide) (fun h9 => absurd h9 (by decide)) (fun _ => ?_)
        refine lv_aload_n hx hb dX5_staked_34 rfl (lv_at hl 0 rfl) ?_
        refine va_get (ci := 5) (v := .ref bk) (C := RX5) (T := TX5) (N := 7) hx hb hts bi_5 hown hK hP 0 rfl rfl 2 (by decide) (hts _ bw_135) (fun _ h9 => h9) rfl dX5_staked_35 ?_
        refine va_get (ci := 0) (v := .ref stk) (C := RX0) (T := TX0) (N := 5) hx hb hts bi_0 hown hK hP 1 rfl rfl 3 (by decide) (hts _ bw_30) (fun _ h9 => h9) rfl dX5_staked_38 ?_
        refine lv_iload_n hx hb dX5_staked_41 rfl (lv_at hl 2 rfl) ?_
        refine lv_iload_n hx hb dX5_staked_42 rfl (lv_at hl 1 rfl) ?_
        refine ca_SI (rest := [.ref stk]) (k_X5_stakePlace l D cI cJ cZ jn ia ) hx hb hml hown hts hN hK hA hP hD hS bw_194 bw_195 bw_1 bw_196 2 rfl (by decide +kernel) ⟨by decide, by decide⟩ hl.1 rfl (Nat.le_of_ble_eq_true rfl) dX5_staked_43 ⟨Nat.zero_le _, Nat.zero_le _⟩ (fun r_43 u_u H locs w_43 hP hD hS => ?_)
        have w_43 : r_43 = nI (jn * 10 + ia) := w_43
        subst w_43
        refine ar_ld hx hb hK hP 2 (k := jn * 10 + ia) rfl rfl (by omega) (by decide) dX5_staked_46 ?_
        refine lv_goto (tgt := 51) hx hb dX5_staked_47 (by decide) ?_
        exact re_I (w1 := fun u_u : Unit => [ob_J x 5 [.int (nI hh), .ref rl, .ref bk, .ref nd, .ref st, .ref sh, .ref wy], ob_J bk 0 [.int funded, .int rewarded, .ref bal, .ref stk, .ref due], ar_I stk cI 80 fstk, ob_J nd 1 [.int (nI sz), .ref kp, .ref ct, .ref sa, .ref la, .ref fz]]) (v := fstk (jn * 10 + ia)) hx hb hr hlk hK hS rfl () hP hD (show fstk (jn * 10 + ia) = rr_staked sz fstk (nI ia) (nI jn) from by simp [rr_staked, ac_P, hn_P, h_1, t_ia, c_11, h_28, t_jn]) dX5_staked_51
      · rw [if_neg h_28] at w_28; subst w_28
        refine lv_if_eq (tgt := 50) hx hb dX5_staked_31 (by decide) (fun _ => ?_) (fun h9 => absurd (by decide) h9)
        refine lv_iconst (v := (-1)) hx hb dX5_staked_50 (by decide) ?_
        exact re_I (w1 := fun u_u : Unit => [ob_J x 5 [.int (nI hh), .ref rl, .ref bk, .ref nd, .ref st, .ref sh, .ref wy], ob_J bk 0 [.int funded, .int rewarded, .ref bal, .ref stk, .ref due], ar_I stk cI 80 fstk, ob_J nd 1 [.int (nI sz), .ref kp, .ref ct, .ref sa, .ref la, .ref fz]]) (v := (-1)) hx hb hr hlk hK hS rfl () hP hD (show (-1) = rr_staked sz fstk (nI ia) n from by simp [rr_staked, ac_P, hn_P, h_1, t_ia, c_11, h_28]) dX5_staked_51
    · refine lv_aload_n hx hb dX5_staked_14 rfl (lv_at hl 0 rfl) ?_
      refine va_get (ci := 5) (v := .ref bk) (C := RX5) (T := TX5) (N := 7) hx hb hts bi_5 hown hK hP 0 rfl rfl 2 (by decide) (hts _ bw_135) (fun _ h9 => h9) rfl dX5_staked_15 ?_
      refine lv_iload_n hx hb dX5_staked_18 rfl (lv_at hl 1 rfl) ?_
      refine ca_VI (rest := []) (wr := [ob_J x 5 [.int (nI hh), .ref rl, .ref bk, .ref nd, .ref st, .ref sh, .ref wy], ob_J nd 1 [.int (nI sz), .ref kp, .ref ct, .ref sa, .ref la, .ref fz]]) (w2 := fun u_u => [ob_J x 5 [.int (nI hh), .ref rl, .ref bk, .ref nd, .ref st, .ref sh, .ref wy], ob_J bk 0 [.int funded, .int rewarded, .ref bal, .ref stk, .ref due], ar_I stk cI 80 fstk, ob_J nd 1 [.int (nI sz), .ref kp, .ref ct, .ref sa, .ref la, .ref fz]]) (k_X0_stakesOfAccount l D cI cJ cZ bk stk funded rewarded bal due fstk ia (by first | assumption | omega)) hx hb hml hown hts hN hK hA hP hD hS 0 0 rfl rfl bw_289 bw_290 bw_291 bw_2 bw_292 1 rfl (by decide +kernel) ⟨by decide, by decide⟩ [1, 2] [0, 3] [0, 2, 3, 1] rfl rfl (by decide) (fun _ => rfl) hl.1 rfl (Nat.le_of_ble_eq_true rfl) dX5_staked_19 ⟨Nat.zero_le _, Nat.zero_le _⟩ (fun r_19 u_u H locs w_19 hP hD hS => ?_)
      have hP : va_P D cl_A [ob_J x 5 [.int (nI hh), .ref rl, .ref bk, .ref nd, .ref st, .ref sh, .ref wy], ob_J bk 0 [.int funded, .int rewarded, .ref bal, .ref stk, .ref due], ar_I stk cI 80 fstk, ob_J nd 1 [.int (nI sz), .ref kp, .ref ct, .ref sa, .ref la, .ref fz]] H := hP
      have hD : va_D A [ob_J x 5 [.int (nI hh), .ref rl, .ref bk, .ref nd, .ref st, .ref sh, .ref wy], ob_J bk 0 [.int funded, .int rewarded, .ref bal, .ref stk, .ref due], ar_I stk cI 80 fstk, ob_J nd 1 [.int (nI sz), .ref kp, .ref ct, .ref sa, .ref la, .ref fz]] := hD
      have w_19 : r_19 = sI_ (fun k => fstk (k * 10 + ia)) 8 := w_19
      subst w_19
      exact re_I (w1 := fun u_u : Unit => [ob_J x 5 [.int (nI hh), .ref rl, .ref bk, .ref nd, .ref st, .ref sh, .ref wy], ob_J bk 0 [.int funded, .int rewarded, .ref bal, .ref stk, .ref due], ar_I stk cI 80 fstk, ob_J nd 1 [.int (nI sz), .ref kp, .ref ct, .ref sa, .ref la, .ref fz]]) (v := sI_ (fun k => fstk (k * 10 + ia)) 8) hx hb hr hlk hK hS rfl () hP hD (show sI_ (fun k => fstk (k * 10 + ia)) 8 = rr_staked sz fstk (nI ia) n from by simp [rr_staked, ac_P, hn_P, h_1, t_ia, c_11]) dX5_staked_22
  · rw [if_neg h_1] at w_1; subst w_1
    refine lv_if_ne (tgt := 9) hx hb dX5_staked_4 (by decide) (fun h9 => absurd (by decide) h9) (fun _ => ?_)
    refine lv_iconst (v := (-1)) hx hb dX5_staked_7 (by decide) ?_
    exact re_I (w1 := fun u_u : Unit => [ob_J x 5 [.int (nI hh), .ref rl, .ref bk, .ref nd, .ref st, .ref sh, .ref wy], ob_J bk 0 [.int funded, .int rewarded, .ref bal, .ref stk, .ref due], ar_I stk cI 80 fstk, ob_J nd 1 [.int (nI sz), .ref kp, .ref ct, .ref sa, .ref la, .ref fz]]) (v := (-1)) hx hb hr hlk hK hS rfl () hP hD (show (-1) = rr_staked sz fstk a n from by simp [rr_staked, ac_P, hn_P, h_1]) dX5_staked_8

set_option maxHeartbeats 4000000 in
set_option maxRecDepth 100000 in
theorem k_X5_drawn (l : Launch) (D : va_G) (cI cJ cZ : ClassId) (x : Nat) (bk : Nat) (due : Nat) (hh : Nat) (rl : Nat) (nd : Nat) (st : Nat) (sh : Nat) (wy : Nat) (funded : Int32) (rewarded : Int32) (bal : Nat) (stk : Nat) (fdue : Nat → Int32) (a : Int32) (q : Int32)  : mt_I l yX5_drawn cX5_drawn 3 .int 2 44 D cI cJ cZ [ob_J x 5 [.int (nI hh), .ref rl, .ref bk, .ref nd, .ref st, .ref sh, .ref wy], ob_J bk 0 [.int funded, .int rewarded, .ref bal, .ref stk, .ref due], ar_I due cI 1100 fdue] [.ref x, .int a, .int q] (fun r (u_u : Unit) => r = rr_drawn fdue a q) (fun u_u : Unit => [ob_J x 5 [.int (nI hh), .ref rl, .ref bk, .ref nd, .ref st, .ref sh, .ref wy], ob_J bk 0 [.int funded, .int rewarded, .ref bal, .ref stk, .ref due], ar_I due cI 1100 fdue]) := by
  refine en_I (by decide) (Nat.le_of_ble_eq_true rfl) ?_
  intro p e s m below meth c A ls H locs hx hb hr hml hts hown hlk hN hK hA hP hD hS hl
  have hown : s.vm.findClass RX5 = some m.cls := hown
  have hl : lv_has ls 3 [(0, .ref x), (1, .int a), (2, .int q)] := hl
  refine lv_iload_n hx hb dX5_drawn_0 rfl (lv_at hl 1 rfl) ?_
  refine ca_SI (rest := []) (k_X5_isAccount l D cI cJ cZ a ) hx hb hml hown hts hN hK hA hP hD hS bw_170 bw_171 bw_1 bw_172 1 rfl (by decide +kernel) ⟨by decide, by decide⟩ hl.1 rfl (Nat.le_of_ble_eq_true rfl) dX5_drawn_1 ⟨Nat.zero_le _, Nat.zero_le _⟩ (fun r_1 u_u H locs w_1 hP hD hS => ?_)
  have w_1 : r_1 = if 0 ≤ a ∧ a ≤ 9 then 1 else 0 := w_1
  by_cases h_1 : 0 ≤ a ∧ a ≤ 9
  · rw [if_pos h_1] at w_1; subst w_1
    obtain ⟨ia, h_ia, rfl⟩ : ∃ z : Nat, z < 10 ∧ a = nI z := ix_le (by decide) h_1
    have t_ia := tn_nI (n := ia) (by omega)
    refine lv_if_ne (tgt := 9) hx hb dX5_drawn_4 (by decide) (fun _ => ?_) (fun h9 => absurd h9 (by decide))
    refine lv_iload_n hx hb dX5_drawn_9 rfl (lv_at hl 2 rfl) ?_
    refine lv_iconst (v := (-1)) hx hb dX5_drawn_10 (by decide) ?_
    refine lv_icmp_ne (tgt := 23) hx hb dX5_drawn_11 (by decide) (fun c_11 => ?_) (fun c_11 => ?_)
    · refine lv_iload_n hx hb dX5_drawn_23 rfl (lv_at hl 2 rfl) ?_
      refine lv_iconst (v := 1) hx hb dX5_drawn_24 (by decide) ?_
      refine lv_bipush (v := 109) hx hb dX5_drawn_25 (by decide) ?_
      refine ca_SI (rest := []) (k_X5_isWithin l D cI cJ cZ q 1 109 ) hx hb hml hown hts hN hK hA hP hD hS bw_163 bw_164 bw_1 bw_165 3 rfl (by decide +kernel) ⟨by decide, by decide⟩ hl.1 rfl (Nat.le_of_ble_eq_true rfl) dX5_drawn_27 ⟨Nat.zero_le _, Nat.zero_le _⟩ (fun r_27 u_u H locs w_27 hP hD hS => ?_)
      have w_27 : r_27 = if 1 ≤ q ∧ q ≤ 109 then 1 else 0 := w_27
      by_cases h_27 : 1 ≤ q ∧ q ≤ 109
      · rw [if_pos h_27] at w_27; subst w_27
        obtain ⟨iq, h_iq, rfl⟩ : ∃ z : Nat, z < 110 ∧ q = nI z := ix_le (n := 109) (by decide) ⟨Int32.le_trans (by decide) h_27.1, h_27.2⟩
        have t_iq := tn_nI (n := iq) (by omega)
        refine lv_if_eq (tgt := 49) hx hb dX5_drawn_30 (by decide) (fun h9 => absurd h9 (by decide)) (fun _ => ?_)
        refine lv_aload_n hx hb dX5_drawn_33 rfl (lv_at hl 0 rfl) ?_
        refine va_get (ci := 5) (v := .ref bk) (C := RX5) (T := TX5) (N := 7) hx hb hts bi_5 hown hK hP 0 rfl rfl 2 (by decide) (hts _ bw_135) (fun _ h9 => h9) rfl dX5_drawn_34 ?_
        refine va_get (ci := 0) (v := .ref due) (C := RX0) (T := TX0) (N := 5) hx hb hts bi_0 hown hK hP 1 rfl rfl 4 (by decide) (hts _ bw_32) (fun _ h9 => h9) rfl dX5_drawn_37 ?_
        refine lv_iload_n hx hb dX5_drawn_40 rfl (lv_at hl 1 rfl) ?_
        refine lv_iload_n hx hb dX5_drawn_41 rfl (lv_at hl 2 rfl) ?_
        refine ca_SI (rest := [.ref due]) (k_X5_duePlace l D cI cJ cZ ia iq ) hx hb hml hown hts hN hK hA hP hD hS bw_201 bw_202 bw_1 bw_203 2 rfl (by decide +kernel) ⟨by decide, by decide⟩ hl.1 rfl (Nat.le_of_ble_eq_true rfl) dX5_drawn_42 ⟨Nat.zero_le _, Nat.zero_le _⟩ (fun r_42 u_u H locs w_42 hP hD hS => ?_)
        have w_42 : r_42 = nI (ia * 110 + iq) := w_42
        subst w_42
        refine ar_ld hx hb hK hP 2 (k := ia * 110 + iq) rfl rfl (by omega) (by decide) dX5_drawn_45 ?_
        refine lv_goto (tgt := 50) hx hb dX5_drawn_46 (by decide) ?_
        exact re_I (w1 := fun u_u : Unit => [ob_J x 5 [.int (nI hh), .ref rl, .ref bk, .ref nd, .ref st, .ref sh, .ref wy], ob_J bk 0 [.int funded, .int rewarded, .ref bal, .ref stk, .ref due], ar_I due cI 1100 fdue]) (v := fdue (ia * 110 + iq)) hx hb hr hlk hK hS rfl () hP hD (show fdue (ia * 110 + iq) = rr_drawn fdue (nI ia) (nI iq) from by simp [rr_drawn, ac_P, h_1, t_ia, c_11, h_27, t_iq]) dX5_drawn_50
      · rw [if_neg h_27] at w_27; subst w_27
        refine lv_if_eq (tgt := 49) hx hb dX5_drawn_30 (by decide) (fun _ => ?_) (fun h9 => absurd (by decide) h9)
        refine lv_iconst (v := (-1)) hx hb dX5_drawn_49 (by decide) ?_
        exact re_I (w1 := fun u_u : Unit => [ob_J x 5 [.int (nI hh), .ref rl, .ref bk, .ref nd, .ref st, .ref sh, .ref wy], ob_J bk 0 [.int funded, .int rewarded, .ref bal, .ref stk, .ref due], ar_I due cI 1100 fdue]) (v := (-1)) hx hb hr hlk hK hS rfl () hP hD (show (-1) = rr_drawn fdue (nI ia) q from by simp [rr_drawn, ac_P, h_1, t_ia, c_11, h_27]) dX5_drawn_50
    · refine lv_aload_n hx hb dX5_drawn_14 rfl (lv_at hl 0 rfl) ?_
      refine va_get (ci := 5) (v := .ref bk) (C := RX5) (T := TX5) (N := 7) hx hb hts bi_5 hown hK hP 0 rfl rfl 2 (by decide) (hts _ bw_135) (fun _ h9 => h9) rfl dX5_drawn_15 ?_
      refine lv_iload_n hx hb dX5_drawn_18 rfl (lv_at hl 1 rfl) ?_
      refine ca_VI (rest := []) (wr := [ob_J x 5 [.int (nI hh), .ref rl, .ref bk, .ref nd, .ref st, .ref sh, .ref wy]]) (w2 := fun u_u => [ob_J x 5 [.int (nI hh), .ref rl, .ref bk, .ref nd, .ref st, .ref sh, .ref wy], ob_J bk 0 [.int funded, .int rewarded, .ref bal, .ref stk, .ref due], ar_I due cI 1100 fdue]) (k_X0_dueOfAccount l D cI cJ cZ bk due funded rewarded bal stk fdue ia (by first | assumption | omega)) hx hb hml hown hts hN hK hA hP hD hS 0 0 rfl rfl bw_297 bw_298 bw_299 bw_2 bw_300 1 rfl (by decide +kernel) ⟨by decide, by decide⟩ [1, 2] [0] [0, 1, 2] rfl rfl (by decide) (fun _ => rfl) hl.1 rfl (Nat.le_of_ble_eq_true rfl) dX5_drawn_19 ⟨Nat.zero_le _, Nat.zero_le _⟩ (fun r_19 u_u H locs w_19 hP hD hS => ?_)
      have hP : va_P D cl_A [ob_J x 5 [.int (nI hh), .ref rl, .ref bk, .ref nd, .ref st, .ref sh, .ref wy], ob_J bk 0 [.int funded, .int rewarded, .ref bal, .ref stk, .ref due], ar_I due cI 1100 fdue] H := hP
      have hD : va_D A [ob_J x 5 [.int (nI hh), .ref rl, .ref bk, .ref nd, .ref st, .ref sh, .ref wy], ob_J bk 0 [.int funded, .int rewarded, .ref bal, .ref stk, .ref due], ar_I due cI 1100 fdue] := hD
      have w_19 : r_19 = sI_ (fun k => fdue (ia * 110 + (k + 1))) 109 := w_19
      subst w_19
      exact re_I (w1 := fun u_u : Unit => [ob_J x 5 [.int (nI hh), .ref rl, .ref bk, .ref nd, .ref st, .ref sh, .ref wy], ob_J bk 0 [.int funded, .int rewarded, .ref bal, .ref stk, .ref due], ar_I due cI 1100 fdue]) (v := sI_ (fun k => fdue (ia * 110 + (k + 1))) 109) hx hb hr hlk hK hS rfl () hP hD (show sI_ (fun k => fdue (ia * 110 + (k + 1))) 109 = rr_drawn fdue (nI ia) q from by simp [rr_drawn, ac_P, h_1, t_ia, c_11]) dX5_drawn_22
  · rw [if_neg h_1] at w_1; subst w_1
    refine lv_if_ne (tgt := 9) hx hb dX5_drawn_4 (by decide) (fun h9 => absurd (by decide) h9) (fun _ => ?_)
    refine lv_iconst (v := (-1)) hx hb dX5_drawn_7 (by decide) ?_
    exact re_I (w1 := fun u_u : Unit => [ob_J x 5 [.int (nI hh), .ref rl, .ref bk, .ref nd, .ref st, .ref sh, .ref wy], ob_J bk 0 [.int funded, .int rewarded, .ref bal, .ref stk, .ref due], ar_I due cI 1100 fdue]) (v := (-1)) hx hb hr hlk hK hS rfl () hP hD (show (-1) = rr_drawn fdue a q from by simp [rr_drawn, ac_P, h_1]) dX5_drawn_8

set_option maxHeartbeats 4000000 in
set_option maxRecDepth 100000 in
theorem k_X5_about (l : Launch) (D : va_G) (cI cJ cZ : ClassId) (x : Nat) (bk : Nat) (stk : Nat) (nd : Nat) (kp : Nat) (ct : Nat) (sa : Nat) (la : Nat) (fz : Nat) (hh : Nat) (rl : Nat) (st : Nat) (sh : Nat) (wy : Nat) (funded : Int32) (rewarded : Int32) (bal : Nat) (due : Nat) (fstk : Nat → Int32) (sz : Nat) (fkp : Nat → Int32) (fct : Nat → Int32) (fsa : Nat → Int32) (fla : Nat → Int32) (ffz : Nat → Int32) (n : Int32) (what : Int32) (hsz : sz ≤ 8) : mt_I l yX5_about cX5_about 3 .int 2 44 D cI cJ cZ [ob_J x 5 [.int (nI hh), .ref rl, .ref bk, .ref nd, .ref st, .ref sh, .ref wy], ob_J bk 0 [.int funded, .int rewarded, .ref bal, .ref stk, .ref due], ar_I stk cI 80 fstk, ob_J nd 1 [.int (nI sz), .ref kp, .ref ct, .ref sa, .ref la, .ref fz], ar_I kp cI 8 fkp, ar_I ct cI 8 fct, ar_I sa cI 8 fsa, ar_I la cI 8 fla, ar_I fz cZ 8 ffz] [.ref x, .int n, .int what] (fun r (u_u : Unit) => r = rr_about sz fsa ffz fla fkp fct fstk n what) (fun u_u : Unit => [ob_J x 5 [.int (nI hh), .ref rl, .ref bk, .ref nd, .ref st, .ref sh, .ref wy], ob_J bk 0 [.int funded, .int rewarded, .ref bal, .ref stk, .ref due], ar_I stk cI 80 fstk, ob_J nd 1 [.int (nI sz), .ref kp, .ref ct, .ref sa, .ref la, .ref fz], ar_I kp cI 8 fkp, ar_I ct cI 8 fct, ar_I sa cI 8 fsa, ar_I la cI 8 fla, ar_I fz cZ 8 ffz]) := by
  refine en_I (by decide) (Nat.le_of_ble_eq_true rfl) ?_
  intro p e s m below meth c A ls H locs hx hb hr hml hts hown hlk hN hK hA hP hD hS hl
  have hown : s.vm.findClass RX5 = some m.cls := hown
  have hl : lv_has ls 3 [(0, .ref x), (1, .int n), (2, .int what)] := hl
  refine lv_aload_n hx hb dX5_about_0 rfl (lv_at hl 0 rfl) ?_
  refine va_get (ci := 5) (v := .ref nd) (C := RX5) (T := TX5) (N := 7) hx hb hts bi_5 hown hK hP 0 rfl rfl 3 (by decide) (hts _ bw_136) (fun _ h9 => h9) rfl dX5_about_1 ?_
  refine lv_iload_n hx hb dX5_about_4 rfl (lv_at hl 1 rfl) ?_
  refine ca_VI (rest := []) (wr := [ob_J x 5 [.int (nI hh), .ref rl, .ref bk, .ref nd, .ref st, .ref sh, .ref wy], ob_J bk 0 [.int funded, .int rewarded, .ref bal, .ref stk, .ref due], ar_I stk cI 80 fstk, ar_I kp cI 8 fkp, ar_I ct cI 8 fct, ar_I sa cI 8 fsa, ar_I la cI 8 fla, ar_I fz cZ 8 ffz]) (w2 := fun u_u => [ob_J x 5 [.int (nI hh), .ref rl, .ref bk, .ref nd, .ref st, .ref sh, .ref wy], ob_J bk 0 [.int funded, .int rewarded, .ref bal, .ref stk, .ref due], ar_I stk cI 80 fstk, ob_J nd 1 [.int (nI sz), .ref kp, .ref ct, .ref sa, .ref la, .ref fz], ar_I kp cI 8 fkp, ar_I ct cI 8 fct, ar_I sa cI 8 fsa, ar_I la cI 8 fla, ar_I fz cZ 8 ffz]) (k_X1_has l D cI cJ cZ nd sz kp ct sa la fz n ) hx hb hml hown hts hN hK hA hP hD hS 1 0 rfl rfl bw_190 bw_191 bw_192 bw_3 bw_193 1 rfl (by decide +kernel) ⟨by decide, by decide⟩ [3] [0, 1, 2, 4, 5, 6, 7, 8] [0, 1, 2, 8, 3, 4, 5, 6, 7] rfl rfl (by decide) (fun _ => rfl) hl.1 rfl (Nat.le_of_ble_eq_true rfl) dX5_about_5 ⟨Nat.zero_le _, Nat.zero_le _⟩ (fun r_5 u_u H locs w_5 hP hD hS => ?_)
  have hP : va_P D cl_A [ob_J x 5 [.int (nI hh), .ref rl, .ref bk, .ref nd, .ref st, .ref sh, .ref wy], ob_J bk 0 [.int funded, .int rewarded, .ref bal, .ref stk, .ref due], ar_I stk cI 80 fstk, ob_J nd 1 [.int (nI sz), .ref kp, .ref ct, .ref sa, .ref la, .ref fz], ar_I kp cI 8 fkp, ar_I ct cI 8 fct, ar_I sa cI 8 fsa, ar_I la cI 8 fla, ar_I fz cZ 8 ffz] H := hP
  have hD : va_D A [ob_J x 5 [.int (nI hh), .ref rl, .ref bk, .ref nd, .ref st, .ref sh, .ref wy], ob_J bk 0 [.int funded, .int rewarded, .ref bal, .ref stk, .ref due], ar_I stk cI 80 fstk, ob_J nd 1 [.int (nI sz), .ref kp, .ref ct, .ref sa, .ref la, .ref fz], ar_I kp cI 8 fkp, ar_I ct cI 8 fct, ar_I sa cI 8 fsa, ar_I la cI 8 fla, ar_I fz cZ 8 ffz] := hD
  have w_5 : r_5 = if 0 ≤ n ∧ n < nI sz then 1 else 0 := w_5
  by_cases h_5 : 0 ≤ n ∧ n < nI sz
  · rw [if_pos h_5] at w_5; subst w_5
    obtain ⟨jn, h_jn, rfl⟩ : ∃ z : Nat, z < sz ∧ n = nI z := ix_lt (by omega) h_5
    have t_jn := tn_nI (n := jn) (by omega)
    refine lv_if_ne (tgt := 13) hx hb dX5_about_8 (by decide) (fun _ => ?_) (fun h9 => absurd h9 (by decide))
    refine lv_iload_n hx hb dX5_about_13 rfl (lv_at hl 2 rfl) ?_
    by_cases e_14_0 : what = 0
    · subst e_14_0
      refine lv_tableIn (off := 38) (tgt := 52) hx hb dX5_about_14 (by decide) (by decide) (by decide) (by decide) ?_
      refine lv_aload_n hx hb dX5_about_52 rfl (lv_at hl 0 rfl) ?_
      refine va_get (ci := 5) (v := .ref nd) (C := RX5) (T := TX5) (N := 7) hx hb hts bi_5 hown hK hP 0 rfl rfl 3 (by decide) (hts _ bw_136) (fun _ h9 => h9) rfl dX5_about_53 ?_
      refine va_get (ci := 1) (v := .ref sa) (C := RX1) (T := TX1) (N := 6) hx hb hts bi_1 hown hK hP 3 rfl rfl 3 (by decide) (hts _ bw_58) (fun _ h9 => h9) rfl dX5_about_56 ?_
      refine lv_iload_n hx hb dX5_about_59 rfl (lv_at hl 1 rfl) ?_
      refine ar_ld hx hb hK hP 6 (k := jn) rfl rfl (by omega) (by decide) dX5_about_60 ?_
      exact re_I (w1 := fun u_u : Unit => [ob_J x 5 [.int (nI hh), .ref rl, .ref bk, .ref nd, .ref st, .ref sh, .ref wy], ob_J bk 0 [.int funded, .int rewarded, .ref bal, .ref stk, .ref due], ar_I stk cI 80 fstk, ob_J nd 1 [.int (nI sz), .ref kp, .ref ct, .ref sa, .ref la, .ref fz], ar_I kp cI 8 fkp, ar_I ct cI 8 fct, ar_I sa cI 8 fsa, ar_I la cI 8 fla, ar_I fz cZ 8 ffz]) (v := fsa jn) hx hb hr hlk hK hS rfl () hP hD (show fsa jn = rr_about sz fsa ffz fla fkp fct fstk (nI jn) 0 from by simp [rr_about, hn_P, h_5, t_jn]) dX5_about_61
    by_cases e_14_1 : what = 1
    · subst e_14_1
      refine lv_tableIn (off := 48) (tgt := 62) hx hb dX5_about_14 (by decide) (by decide) (by decide) (by decide) ?_
      refine lv_aload_n hx hb dX5_about_62 rfl (lv_at hl 0 rfl) ?_
      refine va_get (ci := 5) (v := .ref nd) (C := RX5) (T := TX5) (N := 7) hx hb hts bi_5 hown hK hP 0 rfl rfl 3 (by decide) (hts _ bw_136) (fun _ h9 => h9) rfl dX5_about_63 ?_
      refine va_get (ci := 1) (v := .ref fz) (C := RX1) (T := TX1) (N := 6) hx hb hts bi_1 hown hK hP 3 rfl rfl 5 (by decide) (hts _ bw_62) (fun _ h9 => h9) rfl dX5_about_66 ?_
      refine lv_iload_n hx hb dX5_about_69 rfl (lv_at hl 1 rfl) ?_
      refine ar_zd hx hb hK hP 8 (k := jn) rfl rfl (by omega) (by decide) dX5_about_70 ?_
      refine lv_if_eq (tgt := 78) hx hb dX5_about_71 (by decide) (fun c_71 => ?_) (fun c_71 => ?_)
      · refine lv_iconst (v := 0) hx hb dX5_about_78 (by decide) ?_
        exact re_I (w1 := fun u_u : Unit => [ob_J x 5 [.int (nI hh), .ref rl, .ref bk, .ref nd, .ref st, .ref sh, .ref wy], ob_J bk 0 [.int funded, .int rewarded, .ref bal, .ref stk, .ref due], ar_I stk cI 80 fstk, ob_J nd 1 [.int (nI sz), .ref kp, .ref ct, .ref sa, .ref la, .ref fz], ar_I kp cI 8 fkp, ar_I ct cI 8 fct, ar_I sa cI 8 fsa, ar_I la cI 8 fla, ar_I fz cZ 8 ffz]) (v := 0) hx hb hr hlk hK hS rfl () hP hD (show 0 = rr_about sz fsa ffz fla fkp fct fstk (nI jn) 1 from by simp [rr_about, hn_P, h_5, t_jn, e_14_0, c_71]) dX5_about_79
      · refine lv_iconst (v := 1) hx hb dX5_about_74 (by decide) ?_
        refine lv_goto (tgt := 79) hx hb dX5_about_75 (by decide) ?_
        exact re_I (w1 := fun u_u : Unit => [ob_J x 5 [.int (nI hh), .ref rl, .ref bk, .ref nd, .ref st, .ref sh, .ref wy], ob_J bk 0 [.int funded, .int rewarded, .ref bal, .ref stk, .ref due], ar_I stk cI 80 fstk, ob_J nd 1 [.int (nI sz), .ref kp, .ref ct, .ref sa, .ref la, .ref fz], ar_I kp cI 8 fkp, ar_I ct cI 8 fct, ar_I sa cI 8 fsa, ar_I la cI 8 fla, ar_I fz cZ 8 ffz]) (v := 1) hx hb hr hlk hK hS rfl () hP hD (show 1 = rr_about sz fsa ffz fla fkp fct fstk (nI jn) 1 from by simp [rr_about, hn_P, h_5, t_jn, e_14_0, c_71]) dX5_about_79
    by_cases e_14_2 : what = 2
    · subst e_14_2
      refine lv_tableIn (off := 66) (tgt := 80) hx hb dX5_about_14 (by decide) (by decide) (by decide) (by decide) ?_
      refine lv_aload_n hx hb dX5_about_80 rfl (lv_at hl 0 rfl) ?_
      refine va_get (ci := 5) (v := .ref nd) (C := RX5) (T := TX5) (N := 7) hx hb hts bi_5 hown hK hP 0 rfl rfl 3 (by decide) (hts _ bw_136) (fun _ h9 => h9) rfl dX5_about_81 ?_
      refine va_get (ci := 1) (v := .ref la) (C := RX1) (T := TX1) (N := 6) hx hb hts bi_1 hown hK hP 3 rfl rfl 4 (by decide) (hts _ bw_60) (fun _ h9 => h9) rfl dX5_about_84 ?_
      refine lv_iload_n hx hb dX5_about_87 rfl (lv_at hl 1 rfl) ?_
      refine ar_ld hx hb hK hP 7 (k := jn) rfl rfl (by omega) (by decide) dX5_about_88 ?_
      exact re_I (w1 := fun u_u : Unit => [ob_J x 5 [.int (nI hh), .ref rl, .ref bk, .ref nd, .ref st, .ref sh, .ref wy], ob_J bk 0 [.int funded, .int rewarded, .ref bal, .ref stk, .ref due], ar_I stk cI 80 fstk, ob_J nd 1 [.int (nI sz), .ref kp, .ref ct, .ref sa, .ref la, .ref fz], ar_I kp cI 8 fkp, ar_I ct cI 8 fct, ar_I sa cI 8 fsa, ar_I la cI 8 fla, ar_I fz cZ 8 ffz]) (v := fla jn) hx hb hr hlk hK hS rfl () hP hD (show fla jn = rr_about sz fsa ffz fla fkp fct fstk (nI jn) 2 from by simp [rr_about, hn_P, h_5, t_jn, e_14_0, e_14_1]) dX5_about_89
    by_cases e_14_3 : what = 3
    · subst e_14_3
      refine lv_tableIn (off := 76) (tgt := 90) hx hb dX5_about_14 (by decide) (by decide) (by decide) (by decide) ?_
      refine lv_aload_n hx hb dX5_about_90 rfl (lv_at hl 0 rfl) ?_
      refine va_get (ci := 5) (v := .ref nd) (C := RX5) (T := TX5) (N := 7) hx hb hts bi_5 hown hK hP 0 rfl rfl 3 (by decide) (hts _ bw_136) (fun _ h9 => h9) rfl dX5_about_91 ?_
      refine va_get (ci := 1) (v := .ref kp) (C := RX1) (T := TX1) (N := 6) hx hb hts bi_1 hown hK hP 3 rfl rfl 1 (by decide) (hts _ bw_54) (fun _ h9 => h9) rfl dX5_about_94 ?_
      refine lv_iload_n hx hb dX5_about_97 rfl (lv_at hl 1 rfl) ?_
      refine ar_ld hx hb hK hP 4 (k := jn) rfl rfl (by omega) (by decide) dX5_about_98 ?_
      exact re_I (w1 := fun u_u : Unit => [ob_J x 5 [.int (nI hh), .ref rl, .ref bk, .ref nd, .ref st, .ref sh, .ref wy], ob_J bk 0 [.int funded, .int rewarded, .ref bal, .ref stk, .ref due], ar_I stk cI 80 fstk, ob_J nd 1 [.int (nI sz), .ref kp, .ref ct, .ref sa, .ref la, .ref fz], ar_I kp cI 8 fkp, ar_I ct cI 8 fct, ar_I sa cI 8 fsa, ar_I la cI 8 fla, ar_I fz cZ 8 ffz]) (v := fkp jn) hx hb hr hlk hK hS rfl () hP hD (show fkp jn = rr_about sz fsa ffz fla fkp fct fstk (nI jn) 3 from by simp [rr_about, hn_P, h_5, t_jn, e_14_0, e_14_1, e_14_2]) dX5_about_99
    by_cases e_14_4 : what = 4
    · subst e_14_4
      refine lv_tableIn (off := 86) (tgt := 100) hx hb dX5_about_14 (by decide) (by decide) (by decide) (by decide) ?_
      refine lv_aload_n hx hb dX5_about_100 rfl (lv_at hl 0 rfl) ?_
      refine va_get (ci := 5) (v := .ref nd) (C := RX5) (T := TX5) (N := 7) hx hb hts bi_5 hown hK hP 0 rfl rfl 3 (by decide) (hts _ bw_136) (fun _ h9 => h9) rfl dX5_about_101 ?_
      refine va_get (ci := 1) (v := .ref ct) (C := RX1) (T := TX1) (N := 6) hx hb hts bi_1 hown hK hP 3 rfl rfl 2 (by decide) (hts _ bw_56) (fun _ h9 => h9) rfl dX5_about_104 ?_
      refine lv_iload_n hx hb dX5_about_107 rfl (lv_at hl 1 rfl) ?_
      refine ar_ld hx hb hK hP 5 (k := jn) rfl rfl (by omega) (by decide) dX5_about_108 ?_
      exact re_I (w1 := fun u_u : Unit => [ob_J x 5 [.int (nI hh), .ref rl, .ref bk, .ref nd, .ref st, .ref sh, .ref wy], ob_J bk 0 [.int funded, .int rewarded, .ref bal, .ref stk, .ref due], ar_I stk cI 80 fstk, ob_J nd 1 [.int (nI sz), .ref kp, .ref ct, .ref sa, .ref la, .ref fz], ar_I kp cI 8 fkp, ar_I ct cI 8 fct, ar_I sa cI 8 fsa, ar_I la cI 8 fla, ar_I fz cZ 8 ffz]) (v := fct jn) hx hb hr hlk hK hS rfl () hP hD (show fct jn = rr_about sz fsa ffz fla fkp fct fstk (nI jn) 4 from by simp [rr_about, hn_P, h_5, t_jn, e_14_0, e_14_1, e_14_2, e_14_3]) dX5_about_109
    by_cases e_14_5 : what = 5
    · subst e_14_5
      refine lv_tableIn (off := 96) (tgt := 110) hx hb dX5_about_14 (by decide) (by decide) (by decide) (by decide) ?_
      refine lv_aload_n hx hb dX5_about_110 rfl (lv_at hl 0 rfl) ?_
      refine va_get (ci := 5) (v := .ref bk) (C := RX5) (T := TX5) (N := 7) hx hb hts bi_5 hown hK hP 0 rfl rfl 2 (by decide) (hts _ bw_135) (fun _ h9 => h9) rfl dX5_about_111 ?_
      refine lv_iload_n hx hb dX5_about_114 rfl (lv_at hl 1 rfl) ?_
      refine ca_VI (rest := []) (wr := [ob_J x 5 [.int (nI hh), .ref rl, .ref bk, .ref nd, .ref st, .ref sh, .ref wy], ob_J nd 1 [.int (nI sz), .ref kp, .ref ct, .ref sa, .ref la, .ref fz], ar_I kp cI 8 fkp, ar_I ct cI 8 fct, ar_I sa cI 8 fsa, ar_I la cI 8 fla, ar_I fz cZ 8 ffz]) (w2 := fun u_u => [ob_J x 5 [.int (nI hh), .ref rl, .ref bk, .ref nd, .ref st, .ref sh, .ref wy], ob_J bk 0 [.int funded, .int rewarded, .ref bal, .ref stk, .ref due], ar_I stk cI 80 fstk, ob_J nd 1 [.int (nI sz), .ref kp, .ref ct, .ref sa, .ref la, .ref fz], ar_I kp cI 8 fkp, ar_I ct cI 8 fct, ar_I sa cI 8 fsa, ar_I la cI 8 fla, ar_I fz cZ 8 ffz]) (k_X0_stakesOfNode l D cI cJ cZ bk stk funded rewarded bal due fstk jn (by first | assumption | omega)) hx hb hml hown hts hN hK hA hP hD hS 0 0 rfl rfl bw_268 bw_269 bw_270 bw_2 bw_271 1 rfl (by decide +kernel) ⟨by decide, by decide⟩ [1, 2] [0, 3, 4, 5, 6, 7, 8] [0, 7, 8, 1, 2, 3, 4, 5, 6] rfl rfl (by decide) (fun _ => rfl) hl.1 rfl (Nat.le_of_ble_eq_true rfl) dX5_about_115 ⟨Nat.zero_le _, Nat.zero_le _⟩ (fun r_115 u_u H locs w_115 hP hD hS => ?_)
      have hP : va_P D cl_A [ob_J x 5 [.int (nI hh), .ref rl, .ref bk, .ref nd, .ref st, .ref sh, .ref wy], ob_J bk 0 [.int funded, .int rewarded, .ref bal, .ref stk, .ref due], ar_I stk cI 80 fstk, ob_J nd 1 [.int (nI sz), .ref kp, .ref ct, .ref sa, .ref la, .ref fz], ar_I kp cI 8 fkp, ar_I ct cI 8 fct, ar_I sa cI 8 fsa, ar_I la cI 8 fla, ar_I fz cZ 8 ffz] H := hP
      have hD : va_D A [ob_J x 5 [.int (nI hh), .ref rl, .ref bk, .ref nd, .ref st, .ref sh, .ref wy], ob_J bk 0 [.int funded, .int rewarded, .ref bal, .ref stk, .ref due], ar_I stk cI 80 fstk, ob_J nd 1 [.int (nI sz), .ref kp, .ref ct, .ref sa, .ref la, .ref fz], ar_I kp cI 8 fkp, ar_I ct cI 8 fct, ar_I sa cI 8 fsa, ar_I la cI 8 fla, ar_I fz cZ 8 ffz] := hD
      have w_115 : r_115 = sI_ (fun a => fstk (jn * 10 + a)) 10 := w_115
      subst w_115
      exact re_I (w1 := fun u_u : Unit => [ob_J x 5 [.int (nI hh), .ref rl, .ref bk, .ref nd, .ref st, .ref sh, .ref wy], ob_J bk 0 [.int funded, .int rewarded, .ref bal, .ref stk, .ref due], ar_I stk cI 80 fstk, ob_J nd 1 [.int (nI sz), .ref kp, .ref ct, .ref sa, .ref la, .ref fz], ar_I kp cI 8 fkp, ar_I ct cI 8 fct, ar_I sa cI 8 fsa, ar_I la cI 8 fla, ar_I fz cZ 8 ffz]) (v := sI_ (fun a => fstk (jn * 10 + a)) 10) hx hb hr hlk hK hS rfl () hP hD (show sI_ (fun a => fstk (jn * 10 + a)) 10 = rr_about sz fsa ffz fla fkp fct fstk (nI jn) 5 from by simp [rr_about, hn_P, h_5, t_jn, e_14_0, e_14_1, e_14_2, e_14_3, e_14_4]) dX5_about_118
    refine lv_tableOut (tgt := 119) hx hb dX5_about_14 (sw_out 5 (fun z hz => ?_)) (by decide) ?_
    · rcases (show z = 0 ∨ z = 1 ∨ z = 2 ∨ z = 3 ∨ z = 4 ∨ z = 5 by omega) with rfl | rfl | rfl | rfl | rfl | rfl
      · exact e_14_0
      · exact e_14_1
      · exact e_14_2
      · exact e_14_3
      · exact e_14_4
      · exact e_14_5
    · refine lv_iconst (v := (-1)) hx hb dX5_about_119 (by decide) ?_
      exact re_I (w1 := fun u_u : Unit => [ob_J x 5 [.int (nI hh), .ref rl, .ref bk, .ref nd, .ref st, .ref sh, .ref wy], ob_J bk 0 [.int funded, .int rewarded, .ref bal, .ref stk, .ref due], ar_I stk cI 80 fstk, ob_J nd 1 [.int (nI sz), .ref kp, .ref ct, .ref sa, .ref la, .ref fz], ar_I kp cI 8 fkp, ar_I ct cI 8 fct, ar_I sa cI 8 fsa, ar_I la cI 8 fla, ar_I fz cZ 8 ffz]) (v := (-1)) hx hb hr hlk hK hS rfl () hP hD (show (-1) = rr_about sz fsa ffz fla fkp fct fstk (nI jn) what from by simp [rr_about, hn_P, h_5, t_jn, e_14_0, e_14_1, e_14_2, e_14_3, e_14_4, e_14_5]) dX5_about_120
  · rw [if_neg h_5] at w_5; subst w_5
    refine lv_if_ne (tgt := 13) hx hb dX5_about_8 (by decide) (fun h9 => absurd (by decide) h9) (fun _ => ?_)
    refine lv_iconst (v := (-1)) hx hb dX5_about_11 (by decide) ?_
    exact re_I (w1 := fun u_u : Unit => [ob_J x 5 [.int (nI hh), .ref rl, .ref bk, .ref nd, .ref st, .ref sh, .ref wy], ob_J bk 0 [.int funded, .int rewarded, .ref bal, .ref stk, .ref due], ar_I stk cI 80 fstk, ob_J nd 1 [.int (nI sz), .ref kp, .ref ct, .ref sa, .ref la, .ref fz], ar_I kp cI 8 fkp, ar_I ct cI 8 fct, ar_I sa cI 8 fsa, ar_I la cI 8 fla, ar_I fz cZ 8 ffz]) (v := (-1)) hx hb hr hlk hK hS rfl () hP hD (show (-1) = rr_about sz fsa ffz fla fkp fct fstk n what from by simp [rr_about, hn_P, h_5]) dX5_about_12

set_option maxHeartbeats 4000000 in
set_option maxRecDepth 100000 in
theorem k_X5_weight (l : Launch) (D : va_G) (cI cJ cZ : ClassId) (x : Nat) (nd : Nat) (st : Nat) (wt : Nat) (al : Nat) (hh : Nat) (rl : Nat) (bk : Nat) (sh : Nat) (wy : Nat) (sz : Nat) (kp : Nat) (ct : Nat) (sa : Nat) (la : Nat) (fz : Nat) (rw : Nat) (br : Nat) (fx : Nat) (fwt : Nat → Int32) (fal : Nat → Int32) (n : Int32) (q : Int32) (hsz : sz ≤ 8) (hhh : hh ≤ 100) : mt_I l yX5_weight cX5_weight 3 .int 2 43 D cI cJ cZ [ob_J x 5 [.int (nI hh), .ref rl, .ref bk, .ref nd, .ref st, .ref sh, .ref wy], ob_J nd 1 [.int (nI sz), .ref kp, .ref ct, .ref sa, .ref la, .ref fz], ob_J st 2 [.ref wt, .ref rw, .ref al, .ref br, .ref fx], ar_I wt cI 808 fwt, ar_I al cI 101 fal] [.ref x, .int n, .int q] (fun r (u_u : Unit) => r = rr_weight hh sz fwt fal n q) (fun u_u : Unit => [ob_J x 5 [.int (nI hh), .ref rl, .ref bk, .ref nd, .ref st, .ref sh, .ref wy], ob_J nd 1 [.int (nI sz), .ref kp, .ref ct, .ref sa, .ref la, .ref fz], ob_J st 2 [.ref wt, .ref rw, .ref al, .ref br, .ref fx], ar_I wt cI 808 fwt, ar_I al cI 101 fal]) := by
  refine en_I (by decide) (Nat.le_of_ble_eq_true rfl) ?_
  intro p e s m below meth c A ls H locs hx hb hr hml hts hown hlk hN hK hA hP hD hS hl
  have hown : s.vm.findClass RX5 = some m.cls := hown
  have hl : lv_has ls 3 [(0, .ref x), (1, .int n), (2, .int q)] := hl
  refine lv_aload_n hx hb dX5_weight_0 rfl (lv_at hl 0 rfl) ?_
  refine lv_iload_n hx hb dX5_weight_1 rfl (lv_at hl 2 rfl) ?_
  refine ca_VI (rest := []) (wr := [ob_J nd 1 [.int (nI sz), .ref kp, .ref ct, .ref sa, .ref la, .ref fz], ob_J st 2 [.ref wt, .ref rw, .ref al, .ref br, .ref fx], ar_I wt cI 808 fwt, ar_I al cI 101 fal]) (w2 := fun u_u => [ob_J x 5 [.int (nI hh), .ref rl, .ref bk, .ref nd, .ref st, .ref sh, .ref wy], ob_J nd 1 [.int (nI sz), .ref kp, .ref ct, .ref sa, .ref la, .ref fz], ob_J st 2 [.ref wt, .ref rw, .ref al, .ref br, .ref fx], ar_I wt cI 808 fwt, ar_I al cI 101 fal]) (k_X5_hasSet l D cI cJ cZ x hh rl bk nd st sh wy q ) hx hb hml hown hts hN hK hA hP hD hS 5 0 rfl rfl bw_309 bw_311 bs_6 bw_1 bw_312 1 rfl (by decide +kernel) ⟨by decide, by decide⟩ [0] [1, 2, 3, 4] [4, 0, 1, 2, 3] rfl rfl (by decide) (fun _ => rfl) hl.1 rfl (Nat.le_of_ble_eq_true rfl) dX5_weight_2 ⟨Nat.zero_le _, Nat.zero_le _⟩ (fun r_2 u_u H locs w_2 hP hD hS => ?_)
  have hP : va_P D cl_A [ob_J x 5 [.int (nI hh), .ref rl, .ref bk, .ref nd, .ref st, .ref sh, .ref wy], ob_J nd 1 [.int (nI sz), .ref kp, .ref ct, .ref sa, .ref la, .ref fz], ob_J st 2 [.ref wt, .ref rw, .ref al, .ref br, .ref fx], ar_I wt cI 808 fwt, ar_I al cI 101 fal] H := hP
  have hD : va_D A [ob_J x 5 [.int (nI hh), .ref rl, .ref bk, .ref nd, .ref st, .ref sh, .ref wy], ob_J nd 1 [.int (nI sz), .ref kp, .ref ct, .ref sa, .ref la, .ref fz], ob_J st 2 [.ref wt, .ref rw, .ref al, .ref br, .ref fx], ar_I wt cI 808 fwt, ar_I al cI 101 fal] := hD
  have w_2 : r_2 = if 0 ≤ q ∧ q ≤ nI hh then 1 else 0 := w_2
  by_cases h_2 : 0 ≤ q ∧ q ≤ nI hh
  · rw [if_pos h_2] at w_2; subst w_2
    obtain ⟨iq, h_iq, rfl⟩ : ∃ z : Nat, z < (hh + 1) ∧ q = nI z := ix_hs (by omega) h_2
    have t_iq := tn_nI (n := iq) (by omega)
    refine lv_if_ne (tgt := 10) hx hb dX5_weight_5 (by decide) (fun _ => ?_) (fun h9 => absurd h9 (by decide))
    refine lv_iload_n hx hb dX5_weight_10 rfl (lv_at hl 1 rfl) ?_
    refine lv_iconst (v := (-1)) hx hb dX5_weight_11 (by decide) ?_
    refine lv_icmp_ne (tgt := 25) hx hb dX5_weight_12 (by decide) (fun c_12 => ?_) (fun c_12 => ?_)
    · refine lv_aload_n hx hb dX5_weight_25 rfl (lv_at hl 0 rfl) ?_
      refine va_get (ci := 5) (v := .ref nd) (C := RX5) (T := TX5) (N := 7) hx hb hts bi_5 hown hK hP 0 rfl rfl 3 (by decide) (hts _ bw_136) (fun _ h9 => h9) rfl dX5_weight_26 ?_
      refine lv_iload_n hx hb dX5_weight_29 rfl (lv_at hl 1 rfl) ?_
      refine ca_VI (rest := []) (wr := [ob_J x 5 [.int (nI hh), .ref rl, .ref bk, .ref nd, .ref st, .ref sh, .ref wy], ob_J st 2 [.ref wt, .ref rw, .ref al, .ref br, .ref fx], ar_I wt cI 808 fwt, ar_I al cI 101 fal]) (w2 := fun u_u => [ob_J x 5 [.int (nI hh), .ref rl, .ref bk, .ref nd, .ref st, .ref sh, .ref wy], ob_J nd 1 [.int (nI sz), .ref kp, .ref ct, .ref sa, .ref la, .ref fz], ob_J st 2 [.ref wt, .ref rw, .ref al, .ref br, .ref fx], ar_I wt cI 808 fwt, ar_I al cI 101 fal]) (k_X1_has l D cI cJ cZ nd sz kp ct sa la fz n ) hx hb hml hown hts hN hK hA hP hD hS 1 0 rfl rfl bw_190 bw_191 bw_192 bw_3 bw_193 1 rfl (by decide +kernel) ⟨by decide, by decide⟩ [1] [0, 2, 3, 4] [0, 4, 1, 2, 3] rfl rfl (by decide) (fun _ => rfl) hl.1 rfl (Nat.le_of_ble_eq_true rfl) dX5_weight_30 ⟨Nat.zero_le _, Nat.zero_le _⟩ (fun r_30 u_u H locs w_30 hP hD hS => ?_)
      have hP : va_P D cl_A [ob_J x 5 [.int (nI hh), .ref rl, .ref bk, .ref nd, .ref st, .ref sh, .ref wy], ob_J nd 1 [.int (nI sz), .ref kp, .ref ct, .ref sa, .ref la, .ref fz], ob_J st 2 [.ref wt, .ref rw, .ref al, .ref br, .ref fx], ar_I wt cI 808 fwt, ar_I al cI 101 fal] H := hP
      have hD : va_D A [ob_J x 5 [.int (nI hh), .ref rl, .ref bk, .ref nd, .ref st, .ref sh, .ref wy], ob_J nd 1 [.int (nI sz), .ref kp, .ref ct, .ref sa, .ref la, .ref fz], ob_J st 2 [.ref wt, .ref rw, .ref al, .ref br, .ref fx], ar_I wt cI 808 fwt, ar_I al cI 101 fal] := hD
      have w_30 : r_30 = if 0 ≤ n ∧ n < nI sz then 1 else 0 := w_30
      by_cases h_30 : 0 ≤ n ∧ n < nI sz
      · rw [if_pos h_30] at w_30; subst w_30
        obtain ⟨jn, h_jn, rfl⟩ : ∃ z : Nat, z < sz ∧ n = nI z := ix_lt (by omega) h_30
        have t_jn := tn_nI (n := jn) (by omega)
        refine lv_if_eq (tgt := 52) hx hb dX5_weight_33 (by decide) (fun h9 => absurd h9 (by decide)) (fun _ => ?_)
        refine lv_aload_n hx hb dX5_weight_36 rfl (lv_at hl 0 rfl) ?_
        refine va_get (ci := 5) (v := .ref st) (C := RX5) (T := TX5) (N := 7) hx hb hts bi_5 hown hK hP 0 rfl rfl 4 (by decide) (hts _ bw_137) (fun _ h9 => h9) rfl dX5_weight_37 ?_
        refine va_get (ci := 2) (v := .ref wt) (C := RX2) (T := TX2) (N := 5) hx hb hts bi_2 hown hK hP 2 rfl rfl 0 (by decide) (hts _ bw_84) (fun _ h9 => h9) rfl dX5_weight_40 ?_
        refine lv_iload_n hx hb dX5_weight_43 rfl (lv_at hl 2 rfl) ?_
        refine lv_iload_n hx hb dX5_weight_44 rfl (lv_at hl 1 rfl) ?_
        refine ca_SI (rest := [.ref wt]) (k_X5_setPlace l D cI cJ cZ iq jn ) hx hb hml hown hts hN hK hA hP hD hS bw_228 bw_229 bw_1 bw_230 2 rfl (by decide +kernel) ⟨by decide, by decide⟩ hl.1 rfl (Nat.le_of_ble_eq_true rfl) dX5_weight_45 ⟨Nat.zero_le _, Nat.zero_le _⟩ (fun r_45 u_u H locs w_45 hP hD hS => ?_)
        have w_45 : r_45 = nI (iq * 8 + jn) := w_45
        subst w_45
        refine ar_ld hx hb hK hP 3 (k := iq * 8 + jn) rfl rfl (by omega) (by decide) dX5_weight_48 ?_
        refine lv_goto (tgt := 53) hx hb dX5_weight_49 (by decide) ?_
        exact re_I (w1 := fun u_u : Unit => [ob_J x 5 [.int (nI hh), .ref rl, .ref bk, .ref nd, .ref st, .ref sh, .ref wy], ob_J nd 1 [.int (nI sz), .ref kp, .ref ct, .ref sa, .ref la, .ref fz], ob_J st 2 [.ref wt, .ref rw, .ref al, .ref br, .ref fx], ar_I wt cI 808 fwt, ar_I al cI 101 fal]) (v := fwt (iq * 8 + jn)) hx hb hr hlk hK hS rfl () hP hD (show fwt (iq * 8 + jn) = rr_weight hh sz fwt fal (nI jn) (nI iq) from by simp [rr_weight, hs_P, hn_P, h_2, t_iq, c_12, h_30, t_jn]) dX5_weight_53
      · rw [if_neg h_30] at w_30; subst w_30
        refine lv_if_eq (tgt := 52) hx hb dX5_weight_33 (by decide) (fun _ => ?_) (fun h9 => absurd (by decide) h9)
        refine lv_iconst (v := (-1)) hx hb dX5_weight_52 (by decide) ?_
        exact re_I (w1 := fun u_u : Unit => [ob_J x 5 [.int (nI hh), .ref rl, .ref bk, .ref nd, .ref st, .ref sh, .ref wy], ob_J nd 1 [.int (nI sz), .ref kp, .ref ct, .ref sa, .ref la, .ref fz], ob_J st 2 [.ref wt, .ref rw, .ref al, .ref br, .ref fx], ar_I wt cI 808 fwt, ar_I al cI 101 fal]) (v := (-1)) hx hb hr hlk hK hS rfl () hP hD (show (-1) = rr_weight hh sz fwt fal n (nI iq) from by simp [rr_weight, hs_P, hn_P, h_2, t_iq, c_12, h_30]) dX5_weight_53
    · refine lv_aload_n hx hb dX5_weight_15 rfl (lv_at hl 0 rfl) ?_
      refine va_get (ci := 5) (v := .ref st) (C := RX5) (T := TX5) (N := 7) hx hb hts bi_5 hown hK hP 0 rfl rfl 4 (by decide) (hts _ bw_137) (fun _ h9 => h9) rfl dX5_weight_16 ?_
      refine va_get (ci := 2) (v := .ref al) (C := RX2) (T := TX2) (N := 5) hx hb hts bi_2 hown hK hP 2 rfl rfl 2 (by decide) (hts _ bw_88) (fun _ h9 => h9) rfl dX5_weight_19 ?_
      refine lv_iload_n hx hb dX5_weight_22 rfl (lv_at hl 2 rfl) ?_
      refine ar_ld hx hb hK hP 4 (k := iq) rfl rfl (by omega) (by decide) dX5_weight_23 ?_
      exact re_I (w1 := fun u_u : Unit => [ob_J x 5 [.int (nI hh), .ref rl, .ref bk, .ref nd, .ref st, .ref sh, .ref wy], ob_J nd 1 [.int (nI sz), .ref kp, .ref ct, .ref sa, .ref la, .ref fz], ob_J st 2 [.ref wt, .ref rw, .ref al, .ref br, .ref fx], ar_I wt cI 808 fwt, ar_I al cI 101 fal]) (v := fal iq) hx hb hr hlk hK hS rfl () hP hD (show fal iq = rr_weight hh sz fwt fal n (nI iq) from by simp [rr_weight, hs_P, hn_P, h_2, t_iq, c_12]) dX5_weight_24
  · rw [if_neg h_2] at w_2; subst w_2
    refine lv_if_ne (tgt := 10) hx hb dX5_weight_5 (by decide) (fun h9 => absurd (by decide) h9) (fun _ => ?_)
    refine lv_iconst (v := (-1)) hx hb dX5_weight_8 (by decide) ?_
    exact re_I (w1 := fun u_u : Unit => [ob_J x 5 [.int (nI hh), .ref rl, .ref bk, .ref nd, .ref st, .ref sh, .ref wy], ob_J nd 1 [.int (nI sz), .ref kp, .ref ct, .ref sa, .ref la, .ref fz], ob_J st 2 [.ref wt, .ref rw, .ref al, .ref br, .ref fx], ar_I wt cI 808 fwt, ar_I al cI 101 fal]) (v := (-1)) hx hb hr hlk hK hS rfl () hP hD (show (-1) = rr_weight hh sz fwt fal n q from by simp [rr_weight, hs_P, hn_P, h_2]) dX5_weight_9

set_option maxHeartbeats 4000000 in
set_option maxRecDepth 100000 in
theorem k_X5_reward (l : Launch) (D : va_G) (cI cJ cZ : ClassId) (x : Nat) (nd : Nat) (st : Nat) (rw : Nat) (hh : Nat) (rl : Nat) (bk : Nat) (sh : Nat) (wy : Nat) (sz : Nat) (kp : Nat) (ct : Nat) (sa : Nat) (la : Nat) (fz : Nat) (wt : Nat) (al : Nat) (br : Nat) (fx : Nat) (frw : Nat → Int32) (n : Int32) (q : Int32) (hsz : sz ≤ 8) (hhh : hh ≤ 100) : mt_I l yX5_reward cX5_reward 3 .int 2 44 D cI cJ cZ [ob_J x 5 [.int (nI hh), .ref rl, .ref bk, .ref nd, .ref st, .ref sh, .ref wy], ob_J nd 1 [.int (nI sz), .ref kp, .ref ct, .ref sa, .ref la, .ref fz], ob_J st 2 [.ref wt, .ref rw, .ref al, .ref br, .ref fx], ar_I rw cI 808 frw] [.ref x, .int n, .int q] (fun r (u_u : Unit) => r = rr_reward hh sz frw n q) (fun u_u : Unit => [ob_J x 5 [.int (nI hh), .ref rl, .ref bk, .ref nd, .ref st, .ref sh, .ref wy], ob_J nd 1 [.int (nI sz), .ref kp, .ref ct, .ref sa, .ref la, .ref fz], ob_J st 2 [.ref wt, .ref rw, .ref al, .ref br, .ref fx], ar_I rw cI 808 frw]) := by
  refine en_I (by decide) (Nat.le_of_ble_eq_true rfl) ?_
  intro p e s m below meth c A ls H locs hx hb hr hml hts hown hlk hN hK hA hP hD hS hl
  have hown : s.vm.findClass RX5 = some m.cls := hown
  have hl : lv_has ls 3 [(0, .ref x), (1, .int n), (2, .int q)] := hl
  refine lv_iload_n hx hb dX5_reward_0 rfl (lv_at hl 2 rfl) ?_
  refine lv_iconst (v := 0) hx hb dX5_reward_1 (by decide) ?_
  refine lv_aload_n hx hb dX5_reward_2 rfl (lv_at hl 0 rfl) ?_
  refine va_get (ci := 5) (v := .int (nI hh)) (C := RX5) (T := TX5) (N := 7) hx hb hts bi_5 hown hK hP 0 rfl rfl 0 (by decide) (hts _ bw_133) (fun _ h9 => h9) rfl dX5_reward_3 ?_
  refine lv_iconst (v := 1) hx hb dX5_reward_6 (by decide) ?_
  refine lv_isub hx hb dX5_reward_7 ?_
  refine ca_SI (rest := []) (k_X5_isWithin l D cI cJ cZ q 0 ((nI hh) - 1) ) hx hb hml hown hts hN hK hA hP hD hS bw_163 bw_164 bw_1 bw_165 3 rfl (by decide +kernel) ⟨by decide, by decide⟩ hl.1 rfl (Nat.le_of_ble_eq_true rfl) dX5_reward_8 ⟨Nat.zero_le _, Nat.zero_le _⟩ (fun r_8 u_u H locs w_8 hP hD hS => ?_)
  have w_8 : r_8 = if 0 ≤ q ∧ q ≤ ((nI hh) - 1) then 1 else 0 := w_8
  by_cases h_8 : 0 ≤ q ∧ q ≤ ((nI hh) - 1)
  · rw [if_pos h_8] at w_8; subst w_8
    obtain ⟨iq, h_iq, rfl⟩ : ∃ z : Nat, z < hh ∧ q = nI z := ix_m1 (by omega) h_8
    have t_iq := tn_nI (n := iq) (by omega)
    refine lv_if_ne (tgt := 16) hx hb dX5_reward_11 (by decide) (fun _ => ?_) (fun h9 => absurd h9 (by decide))
    refine lv_iload_n hx hb dX5_reward_16 rfl (lv_at hl 1 rfl) ?_
    refine lv_iconst (v := (-1)) hx hb dX5_reward_17 (by decide) ?_
    refine lv_icmp_ne (tgt := 30) hx hb dX5_reward_18 (by decide) (fun c_18 => ?_) (fun c_18 => ?_)
    · refine lv_aload_n hx hb dX5_reward_30 rfl (lv_at hl 0 rfl) ?_
      refine va_get (ci := 5) (v := .ref nd) (C := RX5) (T := TX5) (N := 7) hx hb hts bi_5 hown hK hP 0 rfl rfl 3 (by decide) (hts _ bw_136) (fun _ h9 => h9) rfl dX5_reward_31 ?_
      refine lv_iload_n hx hb dX5_reward_34 rfl (lv_at hl 1 rfl) ?_
      refine ca_VI (rest := []) (wr := [ob_J x 5 [.int (nI hh), .ref rl, .ref bk, .ref nd, .ref st, .ref sh, .ref wy], ob_J st 2 [.ref wt, .ref rw, .ref al, .ref br, .ref fx], ar_I rw cI 808 frw]) (w2 := fun u_u => [ob_J x 5 [.int (nI hh), .ref rl, .ref bk, .ref nd, .ref st, .ref sh, .ref wy], ob_J nd 1 [.int (nI sz), .ref kp, .ref ct, .ref sa, .ref la, .ref fz], ob_J st 2 [.ref wt, .ref rw, .ref al, .ref br, .ref fx], ar_I rw cI 808 frw]) (k_X1_has l D cI cJ cZ nd sz kp ct sa la fz n ) hx hb hml hown hts hN hK hA hP hD hS 1 0 rfl rfl bw_190 bw_191 bw_192 bw_3 bw_193 1 rfl (by decide +kernel) ⟨by decide, by decide⟩ [1] [0, 2, 3] [0, 3, 1, 2] rfl rfl (by decide) (fun _ => rfl) hl.1 rfl (Nat.le_of_ble_eq_true rfl) dX5_reward_35 ⟨Nat.zero_le _, Nat.zero_le _⟩ (fun r_35 u_u H locs w_35 hP hD hS => ?_)
      have hP : va_P D cl_A [ob_J x 5 [.int (nI hh), .ref rl, .ref bk, .ref nd, .ref st, .ref sh, .ref wy], ob_J nd 1 [.int (nI sz), .ref kp, .ref ct, .ref sa, .ref la, .ref fz], ob_J st 2 [.ref wt, .ref rw, .ref al, .ref br, .ref fx], ar_I rw cI 808 frw] H := hP
      have hD : va_D A [ob_J x 5 [.int (nI hh), .ref rl, .ref bk, .ref nd, .ref st, .ref sh, .ref wy], ob_J nd 1 [.int (nI sz), .ref kp, .ref ct, .ref sa, .ref la, .ref fz], ob_J st 2 [.ref wt, .ref rw, .ref al, .ref br, .ref fx], ar_I rw cI 808 frw] := hD
      have w_35 : r_35 = if 0 ≤ n ∧ n < nI sz then 1 else 0 := w_35
      by_cases h_35 : 0 ≤ n ∧ n < nI sz
      · rw [if_pos h_35] at w_35; subst w_35
        obtain ⟨jn, h_jn, rfl⟩ : ∃ z : Nat, z < sz ∧ n = nI z := ix_lt (by omega) h_35
        have t_jn := tn_nI (n := jn) (by omega)
        refine lv_if_eq (tgt := 57) hx hb dX5_reward_38 (by decide) (fun h9 => absurd h9 (by decide)) (fun _ => ?_)
        refine lv_aload_n hx hb dX5_reward_41 rfl (lv_at hl 0 rfl) ?_
        refine va_get (ci := 5) (v := .ref st) (C := RX5) (T := TX5) (N := 7) hx hb hts bi_5 hown hK hP 0 rfl rfl 4 (by decide) (hts _ bw_137) (fun _ h9 => h9) rfl dX5_reward_42 ?_
        refine va_get (ci := 2) (v := .ref rw) (C := RX2) (T := TX2) (N := 5) hx hb hts bi_2 hown hK hP 2 rfl rfl 1 (by decide) (hts _ bw_86) (fun _ h9 => h9) rfl dX5_reward_45 ?_
        refine lv_iload_n hx hb dX5_reward_48 rfl (lv_at hl 2 rfl) ?_
        refine lv_iload_n hx hb dX5_reward_49 rfl (lv_at hl 1 rfl) ?_
        refine ca_SI (rest := [.ref rw]) (k_X5_setPlace l D cI cJ cZ iq jn ) hx hb hml hown hts hN hK hA hP hD hS bw_228 bw_229 bw_1 bw_230 2 rfl (by decide +kernel) ⟨by decide, by decide⟩ hl.1 rfl (Nat.le_of_ble_eq_true rfl) dX5_reward_50 ⟨Nat.zero_le _, Nat.zero_le _⟩ (fun r_50 u_u H locs w_50 hP hD hS => ?_)
        have w_50 : r_50 = nI (iq * 8 + jn) := w_50
        subst w_50
        refine ar_ld hx hb hK hP 3 (k := iq * 8 + jn) rfl rfl (by omega) (by decide) dX5_reward_53 ?_
        refine lv_goto (tgt := 58) hx hb dX5_reward_54 (by decide) ?_
        exact re_I (w1 := fun u_u : Unit => [ob_J x 5 [.int (nI hh), .ref rl, .ref bk, .ref nd, .ref st, .ref sh, .ref wy], ob_J nd 1 [.int (nI sz), .ref kp, .ref ct, .ref sa, .ref la, .ref fz], ob_J st 2 [.ref wt, .ref rw, .ref al, .ref br, .ref fx], ar_I rw cI 808 frw]) (v := frw (iq * 8 + jn)) hx hb hr hlk hK hS rfl () hP hD (show frw (iq * 8 + jn) = rr_reward hh sz frw (nI jn) (nI iq) from by simp [rr_reward, hn_P, h_8, t_iq, c_18, h_35, t_jn]) dX5_reward_58
      · rw [if_neg h_35] at w_35; subst w_35
        refine lv_if_eq (tgt := 57) hx hb dX5_reward_38 (by decide) (fun _ => ?_) (fun h9 => absurd (by decide) h9)
        refine lv_iconst (v := (-1)) hx hb dX5_reward_57 (by decide) ?_
        exact re_I (w1 := fun u_u : Unit => [ob_J x 5 [.int (nI hh), .ref rl, .ref bk, .ref nd, .ref st, .ref sh, .ref wy], ob_J nd 1 [.int (nI sz), .ref kp, .ref ct, .ref sa, .ref la, .ref fz], ob_J st 2 [.ref wt, .ref rw, .ref al, .ref br, .ref fx], ar_I rw cI 808 frw]) (v := (-1)) hx hb hr hlk hK hS rfl () hP hD (show (-1) = rr_reward hh sz frw n (nI iq) from by simp [rr_reward, hn_P, h_8, t_iq, c_18, h_35]) dX5_reward_58
    · refine lv_aload_n hx hb dX5_reward_21 rfl (lv_at hl 0 rfl) ?_
      refine va_get (ci := 5) (v := .ref st) (C := RX5) (T := TX5) (N := 7) hx hb hts bi_5 hown hK hP 0 rfl rfl 4 (by decide) (hts _ bw_137) (fun _ h9 => h9) rfl dX5_reward_22 ?_
      refine lv_iload_n hx hb dX5_reward_25 rfl (lv_at hl 2 rfl) ?_
      refine ca_VI (rest := []) (wr := [ob_J x 5 [.int (nI hh), .ref rl, .ref bk, .ref nd, .ref st, .ref sh, .ref wy], ob_J nd 1 [.int (nI sz), .ref kp, .ref ct, .ref sa, .ref la, .ref fz]]) (w2 := fun u_u => [ob_J x 5 [.int (nI hh), .ref rl, .ref bk, .ref nd, .ref st, .ref sh, .ref wy], ob_J nd 1 [.int (nI sz), .ref kp, .ref ct, .ref sa, .ref la, .ref fz], ob_J st 2 [.ref wt, .ref rw, .ref al, .ref br, .ref fx], ar_I rw cI 808 frw]) (k_X2_rewardsOf l D cI cJ cZ st rw wt al br fx frw iq (by first | assumption | omega)) hx hb hml hown hts hN hK hA hP hD hS 2 0 rfl rfl bw_317 bw_318 bw_319 bw_4 bw_320 1 rfl (by decide +kernel) ⟨by decide, by decide⟩ [2, 3] [0, 1] [0, 1, 2, 3] rfl rfl (by decide) (fun _ => rfl) hl.1 rfl (Nat.le_of_ble_eq_true rfl) dX5_reward_26 ⟨Nat.zero_le _, Nat.zero_le _⟩ (fun r_26 u_u H locs w_26 hP hD hS => ?_)
      have hP : va_P D cl_A [ob_J x 5 [.int (nI hh), .ref rl, .ref bk, .ref nd, .ref st, .ref sh, .ref wy], ob_J nd 1 [.int (nI sz), .ref kp, .ref ct, .ref sa, .ref la, .ref fz], ob_J st 2 [.ref wt, .ref rw, .ref al, .ref br, .ref fx], ar_I rw cI 808 frw] H := hP
      have hD : va_D A [ob_J x 5 [.int (nI hh), .ref rl, .ref bk, .ref nd, .ref st, .ref sh, .ref wy], ob_J nd 1 [.int (nI sz), .ref kp, .ref ct, .ref sa, .ref la, .ref fz], ob_J st 2 [.ref wt, .ref rw, .ref al, .ref br, .ref fx], ar_I rw cI 808 frw] := hD
      have w_26 : r_26 = sI_ (fun n => frw (iq * 8 + n)) 8 := w_26
      subst w_26
      exact re_I (w1 := fun u_u : Unit => [ob_J x 5 [.int (nI hh), .ref rl, .ref bk, .ref nd, .ref st, .ref sh, .ref wy], ob_J nd 1 [.int (nI sz), .ref kp, .ref ct, .ref sa, .ref la, .ref fz], ob_J st 2 [.ref wt, .ref rw, .ref al, .ref br, .ref fx], ar_I rw cI 808 frw]) (v := sI_ (fun n => frw (iq * 8 + n)) 8) hx hb hr hlk hK hS rfl () hP hD (show sI_ (fun n => frw (iq * 8 + n)) 8 = rr_reward hh sz frw n (nI iq) from by simp [rr_reward, hn_P, h_8, t_iq, c_18]) dX5_reward_29
  · rw [if_neg h_8] at w_8; subst w_8
    refine lv_if_ne (tgt := 16) hx hb dX5_reward_11 (by decide) (fun h9 => absurd (by decide) h9) (fun _ => ?_)
    refine lv_iconst (v := (-1)) hx hb dX5_reward_14 (by decide) ?_
    exact re_I (w1 := fun u_u : Unit => [ob_J x 5 [.int (nI hh), .ref rl, .ref bk, .ref nd, .ref st, .ref sh, .ref wy], ob_J nd 1 [.int (nI sz), .ref kp, .ref ct, .ref sa, .ref la, .ref fz], ob_J st 2 [.ref wt, .ref rw, .ref al, .ref br, .ref fx], ar_I rw cI 808 frw]) (v := (-1)) hx hb hr hlk hK hS rfl () hP hD (show (-1) = rr_reward hh sz frw n q from by simp [rr_reward, hn_P, h_8]) dX5_reward_15

set_option maxHeartbeats 4000000 in
set_option maxRecDepth 100000 in
theorem k_X5_judge (l : Launch) (D : va_G) (cI cJ cZ : ClassId) (x : Nat) (nd : Nat) (st : Nat) (wt : Nat) (al : Nat) (hh : Nat) (rl : Nat) (bk : Nat) (sh : Nat) (wy : Nat) (sz : Nat) (kp : Nat) (ct : Nat) (sa : Nat) (la : Nat) (fz : Nat) (rw : Nat) (br : Nat) (fx : Nat) (fwt : Nat → Int32) (fal : Nat → Int32) (q : Int32) (bits : Int32) (hsz : sz ≤ 8) (hhh : hh ≤ 100) : mt_I l yX5_judge cX5_judge 3 .int 3 67 D cI cJ cZ [ob_J x 5 [.int (nI hh), .ref rl, .ref bk, .ref nd, .ref st, .ref sh, .ref wy], ob_J nd 1 [.int (nI sz), .ref kp, .ref ct, .ref sa, .ref la, .ref fz], ob_J st 2 [.ref wt, .ref rw, .ref al, .ref br, .ref fx], ar_I wt cI 808 fwt, ar_I al cI 101 fal] [.ref x, .int q, .int bits] (fun r (u_u : Unit) => r = rr_judge hh sz fwt fal q bits) (fun u_u : Unit => [ob_J x 5 [.int (nI hh), .ref rl, .ref bk, .ref nd, .ref st, .ref sh, .ref wy], ob_J nd 1 [.int (nI sz), .ref kp, .ref ct, .ref sa, .ref la, .ref fz], ob_J st 2 [.ref wt, .ref rw, .ref al, .ref br, .ref fx], ar_I wt cI 808 fwt, ar_I al cI 101 fal]) := by
  refine en_I (by decide) (Nat.le_of_ble_eq_true rfl) ?_
  intro p e s m below meth c A ls H locs hx hb hr hml hts hown hlk hN hK hA hP hD hS hl
  have hown : s.vm.findClass RX5 = some m.cls := hown
  have hl : lv_has ls 3 [(0, .ref x), (1, .int q), (2, .int bits)] := hl
  refine lv_aload_n hx hb dX5_judge_0 rfl (lv_at hl 0 rfl) ?_
  refine lv_iload_n hx hb dX5_judge_1 rfl (lv_at hl 1 rfl) ?_
  refine ca_VI (rest := []) (wr := [ob_J nd 1 [.int (nI sz), .ref kp, .ref ct, .ref sa, .ref la, .ref fz], ob_J st 2 [.ref wt, .ref rw, .ref al, .ref br, .ref fx], ar_I wt cI 808 fwt, ar_I al cI 101 fal]) (w2 := fun u_u => [ob_J x 5 [.int (nI hh), .ref rl, .ref bk, .ref nd, .ref st, .ref sh, .ref wy], ob_J nd 1 [.int (nI sz), .ref kp, .ref ct, .ref sa, .ref la, .ref fz], ob_J st 2 [.ref wt, .ref rw, .ref al, .ref br, .ref fx], ar_I wt cI 808 fwt, ar_I al cI 101 fal]) (k_X5_hasSet l D cI cJ cZ x hh rl bk nd st sh wy q ) hx hb hml hown hts hN hK hA hP hD hS 5 0 rfl rfl bw_309 bw_311 bs_6 bw_1 bw_312 1 rfl (by decide +kernel) ⟨by decide, by decide⟩ [0] [1, 2, 3, 4] [4, 0, 1, 2, 3] rfl rfl (by decide) (fun _ => rfl) hl.1 rfl (Nat.le_of_ble_eq_true rfl) dX5_judge_2 ⟨Nat.zero_le _, Nat.zero_le _⟩ (fun r_2 u_u H locs w_2 hP hD hS => ?_)
  have hP : va_P D cl_A [ob_J x 5 [.int (nI hh), .ref rl, .ref bk, .ref nd, .ref st, .ref sh, .ref wy], ob_J nd 1 [.int (nI sz), .ref kp, .ref ct, .ref sa, .ref la, .ref fz], ob_J st 2 [.ref wt, .ref rw, .ref al, .ref br, .ref fx], ar_I wt cI 808 fwt, ar_I al cI 101 fal] H := hP
  have hD : va_D A [ob_J x 5 [.int (nI hh), .ref rl, .ref bk, .ref nd, .ref st, .ref sh, .ref wy], ob_J nd 1 [.int (nI sz), .ref kp, .ref ct, .ref sa, .ref la, .ref fz], ob_J st 2 [.ref wt, .ref rw, .ref al, .ref br, .ref fx], ar_I wt cI 808 fwt, ar_I al cI 101 fal] := hD
  have w_2 : r_2 = if 0 ≤ q ∧ q ≤ nI hh then 1 else 0 := w_2
  by_cases h_2 : 0 ≤ q ∧ q ≤ nI hh
  · rw [if_pos h_2] at w_2; subst w_2
    obtain ⟨iq, h_iq, rfl⟩ : ∃ z : Nat, z < (hh + 1) ∧ q = nI z := ix_hs (by omega) h_2
    have t_iq := tn_nI (n := iq) (by omega)
    refine lv_if_eq (tgt := 19) hx hb dX5_judge_5 (by decide) (fun h9 => absurd h9 (by decide)) (fun _ => ?_)
    refine lv_aload_n hx hb dX5_judge_8 rfl (lv_at hl 0 rfl) ?_
    refine va_get (ci := 5) (v := .ref nd) (C := RX5) (T := TX5) (N := 7) hx hb hts bi_5 hown hK hP 0 rfl rfl 3 (by decide) (hts _ bw_136) (fun _ h9 => h9) rfl dX5_judge_9 ?_
    refine lv_iload_n hx hb dX5_judge_12 rfl (lv_at hl 2 rfl) ?_
    refine ca_VI (rest := []) (wr := [ob_J x 5 [.int (nI hh), .ref rl, .ref bk, .ref nd, .ref st, .ref sh, .ref wy], ob_J st 2 [.ref wt, .ref rw, .ref al, .ref br, .ref fx], ar_I wt cI 808 fwt, ar_I al cI 101 fal]) (w2 := fun u_u => [ob_J x 5 [.int (nI hh), .ref rl, .ref bk, .ref nd, .ref st, .ref sh, .ref wy], ob_J nd 1 [.int (nI sz), .ref kp, .ref ct, .ref sa, .ref la, .ref fz], ob_J st 2 [.ref wt, .ref rw, .ref al, .ref br, .ref fx], ar_I wt cI 808 fwt, ar_I al cI 101 fal]) (k_X1_haveAll l D cI cJ cZ nd sz kp ct sa la fz bits ) hx hb hml hown hts hN hK hA hP hD hS 1 0 rfl rfl bw_325 bw_326 bw_327 bw_3 bw_328 1 rfl (by decide +kernel) ⟨by decide, by decide⟩ [1] [0, 2, 3, 4] [0, 4, 1, 2, 3] rfl rfl (by decide) (fun _ => rfl) hl.1 rfl (Nat.le_of_ble_eq_true rfl) dX5_judge_13 ⟨Nat.zero_le _, Nat.zero_le _⟩ (fun r_13 u_u H locs w_13 hP hD hS => ?_)
    have hP : va_P D cl_A [ob_J x 5 [.int (nI hh), .ref rl, .ref bk, .ref nd, .ref st, .ref sh, .ref wy], ob_J nd 1 [.int (nI sz), .ref kp, .ref ct, .ref sa, .ref la, .ref fz], ob_J st 2 [.ref wt, .ref rw, .ref al, .ref br, .ref fx], ar_I wt cI 808 fwt, ar_I al cI 101 fal] H := hP
    have hD : va_D A [ob_J x 5 [.int (nI hh), .ref rl, .ref bk, .ref nd, .ref st, .ref sh, .ref wy], ob_J nd 1 [.int (nI sz), .ref kp, .ref ct, .ref sa, .ref la, .ref fz], ob_J st 2 [.ref wt, .ref rw, .ref al, .ref br, .ref fx], ar_I wt cI 808 fwt, ar_I al cI 101 fal] := hD
    have w_13 : r_13 = if (bits.toUInt32 >>> ((nI sz).toUInt32 &&& Int32.toUInt32 31)).toInt32 = 0 then 1 else 0 := w_13
    by_cases h_13 : (bits.toUInt32 >>> ((nI sz).toUInt32 &&& Int32.toUInt32 31)).toInt32 = 0
    · rw [if_pos h_13] at w_13; subst w_13
      obtain ⟨ib, h_ib, rfl⟩ : ∃ z : Nat, z < 256 ∧ bits = nI z := ix_ha hsz h_13
      have t_ib := tn_nI (n := ib) (by omega)
      refine lv_if_ne (tgt := 21) hx hb dX5_judge_16 (by decide) (fun _ => ?_) (fun h9 => absurd h9 (by decide))
      refine lv_aload_n hx hb dX5_judge_21 rfl (lv_at hl 0 rfl) ?_
      refine va_get (ci := 5) (v := .ref st) (C := RX5) (T := TX5) (N := 7) hx hb hts bi_5 hown hK hP 0 rfl rfl 4 (by decide) (hts _ bw_137) (fun _ h9 => h9) rfl dX5_judge_22 ?_
      refine lv_iload_n hx hb dX5_judge_25 rfl (lv_at hl 1 rfl) ?_
      refine lv_iload_n hx hb dX5_judge_26 rfl (lv_at hl 2 rfl) ?_
      refine ca_VI (rest := []) (wr := [ob_J x 5 [.int (nI hh), .ref rl, .ref bk, .ref nd, .ref st, .ref sh, .ref wy], ob_J nd 1 [.int (nI sz), .ref kp, .ref ct, .ref sa, .ref la, .ref fz]]) (w2 := fun u_u => [ob_J x 5 [.int (nI hh), .ref rl, .ref bk, .ref nd, .ref st, .ref sh, .ref wy], ob_J nd 1 [.int (nI sz), .ref kp, .ref ct, .ref sa, .ref la, .ref fz], ob_J st 2 [.ref wt, .ref rw, .ref al, .ref br, .ref fx], ar_I wt cI 808 fwt, ar_I al cI 101 fal]) (k_X2_isGood l D cI cJ cZ st wt al rw br fx fwt fal iq ib (by first | assumption | omega) (by first | assumption | omega)) hx hb hml hown hts hN hK hA hP hD hS 2 0 rfl rfl bw_329 bw_330 bw_331 bw_4 bw_332 2 rfl (by decide +kernel) ⟨by decide, by decide⟩ [2, 3, 4] [0, 1] [0, 1, 2, 3, 4] rfl rfl (by decide) (fun _ => rfl) hl.1 rfl (Nat.le_of_ble_eq_true rfl) dX5_judge_27 ⟨Nat.zero_le _, Nat.zero_le _⟩ (fun r_27 u_u H locs w_27 hP hD hS => ?_)
      have hP : va_P D cl_A [ob_J x 5 [.int (nI hh), .ref rl, .ref bk, .ref nd, .ref st, .ref sh, .ref wy], ob_J nd 1 [.int (nI sz), .ref kp, .ref ct, .ref sa, .ref la, .ref fz], ob_J st 2 [.ref wt, .ref rw, .ref al, .ref br, .ref fx], ar_I wt cI 808 fwt, ar_I al cI 101 fal] H := hP
      have hD : va_D A [ob_J x 5 [.int (nI hh), .ref rl, .ref bk, .ref nd, .ref st, .ref sh, .ref wy], ob_J nd 1 [.int (nI sz), .ref kp, .ref ct, .ref sa, .ref la, .ref fz], ob_J st 2 [.ref wt, .ref rw, .ref al, .ref br, .ref fx], ar_I wt cI 808 fwt, ar_I al cI 101 fal] := hD
      have w_27 : r_27 = if 2 * fal iq < 3 * wo_ fwt iq ib 8 then 1 else 0 := w_27
      by_cases h_27 : 2 * fal iq < 3 * wo_ fwt iq ib 8
      · rw [if_pos h_27] at w_27; subst w_27
        refine lv_if_eq (tgt := 37) hx hb dX5_judge_30 (by decide) (fun h9 => absurd h9 (by decide)) (fun _ => ?_)
        refine lv_iconst (v := 1) hx hb dX5_judge_33 (by decide) ?_
        refine lv_goto (tgt := 38) hx hb dX5_judge_34 (by decide) ?_
        exact re_I (w1 := fun u_u : Unit => [ob_J x 5 [.int (nI hh), .ref rl, .ref bk, .ref nd, .ref st, .ref sh, .ref wy], ob_J nd 1 [.int (nI sz), .ref kp, .ref ct, .ref sa, .ref la, .ref fz], ob_J st 2 [.ref wt, .ref rw, .ref al, .ref br, .ref fx], ar_I wt cI 808 fwt, ar_I al cI 101 fal]) (v := 1) hx hb hr hlk hK hS rfl () hP hD (show 1 = rr_judge hh sz fwt fal (nI iq) (nI ib) from by simp [rr_judge, hs_P, ha_P, h_2, t_iq, h_13, t_ib, h_27]) dX5_judge_38
      · rw [if_neg h_27] at w_27; subst w_27
        refine lv_if_eq (tgt := 37) hx hb dX5_judge_30 (by decide) (fun _ => ?_) (fun h9 => absurd (by decide) h9)
        refine lv_iconst (v := 0) hx hb dX5_judge_37 (by decide) ?_
        exact re_I (w1 := fun u_u : Unit => [ob_J x 5 [.int (nI hh), .ref rl, .ref bk, .ref nd, .ref st, .ref sh, .ref wy], ob_J nd 1 [.int (nI sz), .ref kp, .ref ct, .ref sa, .ref la, .ref fz], ob_J st 2 [.ref wt, .ref rw, .ref al, .ref br, .ref fx], ar_I wt cI 808 fwt, ar_I al cI 101 fal]) (v := 0) hx hb hr hlk hK hS rfl () hP hD (show 0 = rr_judge hh sz fwt fal (nI iq) (nI ib) from by simp [rr_judge, hs_P, ha_P, h_2, t_iq, h_13, t_ib, h_27]) dX5_judge_38
    · rw [if_neg h_13] at w_13; subst w_13
      refine lv_if_ne (tgt := 21) hx hb dX5_judge_16 (by decide) (fun h9 => absurd (by decide) h9) (fun _ => ?_)
      refine lv_iconst (v := (-1)) hx hb dX5_judge_19 (by decide) ?_
      exact re_I (w1 := fun u_u : Unit => [ob_J x 5 [.int (nI hh), .ref rl, .ref bk, .ref nd, .ref st, .ref sh, .ref wy], ob_J nd 1 [.int (nI sz), .ref kp, .ref ct, .ref sa, .ref la, .ref fz], ob_J st 2 [.ref wt, .ref rw, .ref al, .ref br, .ref fx], ar_I wt cI 808 fwt, ar_I al cI 101 fal]) (v := (-1)) hx hb hr hlk hK hS rfl () hP hD (show (-1) = rr_judge hh sz fwt fal (nI iq) bits from by simp [rr_judge, hs_P, ha_P, h_2, t_iq, h_13]) dX5_judge_20
  · rw [if_neg h_2] at w_2; subst w_2
    refine lv_if_eq (tgt := 19) hx hb dX5_judge_5 (by decide) (fun _ => ?_) (fun h9 => absurd (by decide) h9)
    refine lv_iconst (v := (-1)) hx hb dX5_judge_19 (by decide) ?_
    exact re_I (w1 := fun u_u : Unit => [ob_J x 5 [.int (nI hh), .ref rl, .ref bk, .ref nd, .ref st, .ref sh, .ref wy], ob_J nd 1 [.int (nI sz), .ref kp, .ref ct, .ref sa, .ref la, .ref fz], ob_J st 2 [.ref wt, .ref rw, .ref al, .ref br, .ref fx], ar_I wt cI 808 fwt, ar_I al cI 101 fal]) (v := (-1)) hx hb hr hlk hK hS rfl () hP hD (show (-1) = rr_judge hh sz fwt fal q bits from by simp [rr_judge, hs_P, ha_P, h_2]) dX5_judge_20

set_option maxHeartbeats 4000000 in
set_option maxRecDepth 100000 in
theorem k_X5_jump (l : Launch) (D : va_G) (cI cJ cZ : ClassId) (x : Nat) (nd : Nat) (st : Nat) (wt : Nat) (al : Nat) (hh : Nat) (rl : Nat) (bk : Nat) (sh : Nat) (wy : Nat) (sz : Nat) (kp : Nat) (ct : Nat) (sa : Nat) (la : Nat) (fz : Nat) (rw : Nat) (br : Nat) (fx : Nat) (fwt : Nat → Int32) (fal : Nat → Int32) (f : Int32) (t : Int32) (bits : Int32) (hsz : sz ≤ 8) (hhh : hh ≤ 100) : mt_I l yX5_jump cX5_jump 4 .int 4 90 D cI cJ cZ [ob_J x 5 [.int (nI hh), .ref rl, .ref bk, .ref nd, .ref st, .ref sh, .ref wy], ob_J nd 1 [.int (nI sz), .ref kp, .ref ct, .ref sa, .ref la, .ref fz], ob_J st 2 [.ref wt, .ref rw, .ref al, .ref br, .ref fx], ar_I wt cI 808 fwt, ar_I al cI 101 fal] [.ref x, .int f, .int t, .int bits] (fun r (u_u : Unit) => r = rr_jump hh sz fwt fal f t bits) (fun u_u : Unit => [ob_J x 5 [.int (nI hh), .ref rl, .ref bk, .ref nd, .ref st, .ref sh, .ref wy], ob_J nd 1 [.int (nI sz), .ref kp, .ref ct, .ref sa, .ref la, .ref fz], ob_J st 2 [.ref wt, .ref rw, .ref al, .ref br, .ref fx], ar_I wt cI 808 fwt, ar_I al cI 101 fal]) := by
  refine en_I (by decide) (Nat.le_of_ble_eq_true rfl) ?_
  intro p e s m below meth c A ls H locs hx hb hr hml hts hown hlk hN hK hA hP hD hS hl
  have hown : s.vm.findClass RX5 = some m.cls := hown
  have hl : lv_has ls 4 [(0, .ref x), (1, .int f), (2, .int t), (3, .int bits)] := hl
  refine lv_aload_n hx hb dX5_jump_0 rfl (lv_at hl 0 rfl) ?_
  refine lv_iload_n hx hb dX5_jump_1 rfl (lv_at hl 1 rfl) ?_
  refine lv_iload_n hx hb dX5_jump_2 rfl (lv_at hl 2 rfl) ?_
  refine ca_VI (rest := []) (wr := [ob_J nd 1 [.int (nI sz), .ref kp, .ref ct, .ref sa, .ref la, .ref fz], ob_J st 2 [.ref wt, .ref rw, .ref al, .ref br, .ref fx], ar_I wt cI 808 fwt, ar_I al cI 101 fal]) (w2 := fun u_u => [ob_J x 5 [.int (nI hh), .ref rl, .ref bk, .ref nd, .ref st, .ref sh, .ref wy], ob_J nd 1 [.int (nI sz), .ref kp, .ref ct, .ref sa, .ref la, .ref fz], ob_J st 2 [.ref wt, .ref rw, .ref al, .ref br, .ref fx], ar_I wt cI 808 fwt, ar_I al cI 101 fal]) (k_X5_isUpward l D cI cJ cZ x hh rl bk nd st sh wy f t ) hx hb hml hown hts hN hK hA hP hD hS 5 0 rfl rfl bw_341 bw_343 bs_7 bw_1 bw_344 2 rfl (by decide +kernel) ⟨by decide, by decide⟩ [0] [1, 2, 3, 4] [4, 0, 1, 2, 3] rfl rfl (by decide) (fun _ => rfl) hl.1 rfl (Nat.le_of_ble_eq_true rfl) dX5_jump_3 ⟨Nat.zero_le _, Nat.zero_le _⟩ (fun r_3 u_u H locs w_3 hP hD hS => ?_)
  have hP : va_P D cl_A [ob_J x 5 [.int (nI hh), .ref rl, .ref bk, .ref nd, .ref st, .ref sh, .ref wy], ob_J nd 1 [.int (nI sz), .ref kp, .ref ct, .ref sa, .ref la, .ref fz], ob_J st 2 [.ref wt, .ref rw, .ref al, .ref br, .ref fx], ar_I wt cI 808 fwt, ar_I al cI 101 fal] H := hP
  have hD : va_D A [ob_J x 5 [.int (nI hh), .ref rl, .ref bk, .ref nd, .ref st, .ref sh, .ref wy], ob_J nd 1 [.int (nI sz), .ref kp, .ref ct, .ref sa, .ref la, .ref fz], ob_J st 2 [.ref wt, .ref rw, .ref al, .ref br, .ref fx], ar_I wt cI 808 fwt, ar_I al cI 101 fal] := hD
  have w_3 : r_3 = if (0 ≤ f ∧ f ≤ nI hh) ∧ (0 ≤ t ∧ t ≤ nI hh) ∧ f < t then 1 else 0 := w_3
  by_cases h_3 : (0 ≤ f ∧ f ≤ nI hh) ∧ (0 ≤ t ∧ t ≤ nI hh) ∧ f < t
  · rw [if_pos h_3] at w_3; subst w_3
    obtain ⟨kf, h_kf, rfl⟩ : ∃ z : Nat, z < (hh + 1) ∧ f = nI z := ix_hs (by omega) h_3.1
    have t_kf := tn_nI (n := kf) (by omega)
    obtain ⟨kt, h_kt, rfl⟩ : ∃ z : Nat, z < (hh + 1) ∧ t = nI z := ix_hs (by omega) h_3.2.1
    have t_kt := tn_nI (n := kt) (by omega)
    refine lv_if_eq (tgt := 20) hx hb dX5_jump_6 (by decide) (fun h9 => absurd h9 (by decide)) (fun _ => ?_)
    refine lv_aload_n hx hb dX5_jump_9 rfl (lv_at hl 0 rfl) ?_
    refine va_get (ci := 5) (v := .ref nd) (C := RX5) (T := TX5) (N := 7) hx hb hts bi_5 hown hK hP 0 rfl rfl 3 (by decide) (hts _ bw_136) (fun _ h9 => h9) rfl dX5_jump_10 ?_
    refine lv_iload_n hx hb dX5_jump_13 rfl (lv_at hl 3 rfl) ?_
    refine ca_VI (rest := []) (wr := [ob_J x 5 [.int (nI hh), .ref rl, .ref bk, .ref nd, .ref st, .ref sh, .ref wy], ob_J st 2 [.ref wt, .ref rw, .ref al, .ref br, .ref fx], ar_I wt cI 808 fwt, ar_I al cI 101 fal]) (w2 := fun u_u => [ob_J x 5 [.int (nI hh), .ref rl, .ref bk, .ref nd, .ref st, .ref sh, .ref wy], ob_J nd 1 [.int (nI sz), .ref kp, .ref ct, .ref sa, .ref la, .ref fz], ob_J st 2 [.ref wt, .ref rw, .ref al, .ref br, .ref fx], ar_I wt cI 808 fwt, ar_I al cI 101 fal]) (k_X1_haveAll l D cI cJ cZ nd sz kp ct sa la fz bits ) hx hb hml hown hts hN hK hA hP hD hS 1 0 rfl rfl bw_325 bw_326 bw_327 bw_3 bw_328 1 rfl (by decide +kernel) ⟨by decide, by decide⟩ [1] [0, 2, 3, 4] [0, 4, 1, 2, 3] rfl rfl (by decide) (fun _ => rfl) hl.1 rfl (Nat.le_of_ble_eq_true rfl) dX5_jump_14 ⟨Nat.zero_le _, Nat.zero_le _⟩ (fun r_14 u_u H locs w_14 hP hD hS => ?_)
    have hP : va_P D cl_A [ob_J x 5 [.int (nI hh), .ref rl, .ref bk, .ref nd, .ref st, .ref sh, .ref wy], ob_J nd 1 [.int (nI sz), .ref kp, .ref ct, .ref sa, .ref la, .ref fz], ob_J st 2 [.ref wt, .ref rw, .ref al, .ref br, .ref fx], ar_I wt cI 808 fwt, ar_I al cI 101 fal] H := hP
    have hD : va_D A [ob_J x 5 [.int (nI hh), .ref rl, .ref bk, .ref nd, .ref st, .ref sh, .ref wy], ob_J nd 1 [.int (nI sz), .ref kp, .ref ct, .ref sa, .ref la, .ref fz], ob_J st 2 [.ref wt, .ref rw, .ref al, .ref br, .ref fx], ar_I wt cI 808 fwt, ar_I al cI 101 fal] := hD
    have w_14 : r_14 = if (bits.toUInt32 >>> ((nI sz).toUInt32 &&& Int32.toUInt32 31)).toInt32 = 0 then 1 else 0 := w_14
    by_cases h_14 : (bits.toUInt32 >>> ((nI sz).toUInt32 &&& Int32.toUInt32 31)).toInt32 = 0
    · rw [if_pos h_14] at w_14; subst w_14
      obtain ⟨ib, h_ib, rfl⟩ : ∃ z : Nat, z < 256 ∧ bits = nI z := ix_ha hsz h_14
      have t_ib := tn_nI (n := ib) (by omega)
      refine lv_if_ne (tgt := 22) hx hb dX5_jump_17 (by decide) (fun _ => ?_) (fun h9 => absurd h9 (by decide))
      refine lv_aload_n hx hb dX5_jump_22 rfl (lv_at hl 0 rfl) ?_
      refine va_get (ci := 5) (v := .ref st) (C := RX5) (T := TX5) (N := 7) hx hb hts bi_5 hown hK hP 0 rfl rfl 4 (by decide) (hts _ bw_137) (fun _ h9 => h9) rfl dX5_jump_23 ?_
      refine lv_iload_n hx hb dX5_jump_26 rfl (lv_at hl 1 rfl) ?_
      refine lv_iload_n hx hb dX5_jump_27 rfl (lv_at hl 2 rfl) ?_
      refine lv_iload_n hx hb dX5_jump_28 rfl (lv_at hl 3 rfl) ?_
      refine ca_VI (rest := []) (wr := [ob_J x 5 [.int (nI hh), .ref rl, .ref bk, .ref nd, .ref st, .ref sh, .ref wy], ob_J nd 1 [.int (nI sz), .ref kp, .ref ct, .ref sa, .ref la, .ref fz]]) (w2 := fun u_u => [ob_J x 5 [.int (nI hh), .ref rl, .ref bk, .ref nd, .ref st, .ref sh, .ref wy], ob_J nd 1 [.int (nI sz), .ref kp, .ref ct, .ref sa, .ref la, .ref fz], ob_J st 2 [.ref wt, .ref rw, .ref al, .ref br, .ref fx], ar_I wt cI 808 fwt, ar_I al cI 101 fal]) (k_X2_allowsJump l D cI cJ cZ st wt al rw br fx fwt fal kf kt ib (by first | assumption | omega) (by first | assumption | omega) (by first | assumption | omega)) hx hb hml hown hts hN hK hA hP hD hS 2 0 rfl rfl bw_345 bw_346 bw_347 bw_4 bw_348 3 rfl (by decide +kernel) ⟨by decide, by decide⟩ [2, 3, 4] [0, 1] [0, 1, 2, 3, 4] rfl rfl (by decide) (fun _ => rfl) hl.1 rfl (Nat.le_of_ble_eq_true rfl) dX5_jump_29 ⟨Nat.zero_le _, Nat.zero_le _⟩ (fun r_29 u_u H locs w_29 hP hD hS => ?_)
      have hP : va_P D cl_A [ob_J x 5 [.int (nI hh), .ref rl, .ref bk, .ref nd, .ref st, .ref sh, .ref wy], ob_J nd 1 [.int (nI sz), .ref kp, .ref ct, .ref sa, .ref la, .ref fz], ob_J st 2 [.ref wt, .ref rw, .ref al, .ref br, .ref fx], ar_I wt cI 808 fwt, ar_I al cI 101 fal] H := hP
      have hD : va_D A [ob_J x 5 [.int (nI hh), .ref rl, .ref bk, .ref nd, .ref st, .ref sh, .ref wy], ob_J nd 1 [.int (nI sz), .ref kp, .ref ct, .ref sa, .ref la, .ref fz], ob_J st 2 [.ref wt, .ref rw, .ref al, .ref br, .ref fx], ar_I wt cI 808 fwt, ar_I al cI 101 fal] := hD
      have w_29 : r_29 = if 2 * fal kt < 3 * wo_ fwt kt ib 8 ∧ fal kf < 3 * wo_ fwt kf ib 8 then 1 else 0 := w_29
      by_cases h_29 : 2 * fal kt < 3 * wo_ fwt kt ib 8 ∧ fal kf < 3 * wo_ fwt kf ib 8
      · rw [if_pos h_29] at w_29; subst w_29
        refine lv_if_eq (tgt := 39) hx hb dX5_jump_32 (by decide) (fun h9 => absurd h9 (by decide)) (fun _ => ?_)
        refine lv_iconst (v := 1) hx hb dX5_jump_35 (by decide) ?_
        refine lv_goto (tgt := 40) hx hb dX5_jump_36 (by decide) ?_
        exact re_I (w1 := fun u_u : Unit => [ob_J x 5 [.int (nI hh), .ref rl, .ref bk, .ref nd, .ref st, .ref sh, .ref wy], ob_J nd 1 [.int (nI sz), .ref kp, .ref ct, .ref sa, .ref la, .ref fz], ob_J st 2 [.ref wt, .ref rw, .ref al, .ref br, .ref fx], ar_I wt cI 808 fwt, ar_I al cI 101 fal]) (v := 1) hx hb hr hlk hK hS rfl () hP hD (show 1 = rr_jump hh sz fwt fal (nI kf) (nI kt) (nI ib) from by simp [rr_jump, up_P, ha_P, h_3, t_kf, t_kt, h_14, t_ib, h_29]) dX5_jump_40
      · rw [if_neg h_29] at w_29; subst w_29
        refine lv_if_eq (tgt := 39) hx hb dX5_jump_32 (by decide) (fun _ => ?_) (fun h9 => absurd (by decide) h9)
        refine lv_iconst (v := 0) hx hb dX5_jump_39 (by decide) ?_
        exact re_I (w1 := fun u_u : Unit => [ob_J x 5 [.int (nI hh), .ref rl, .ref bk, .ref nd, .ref st, .ref sh, .ref wy], ob_J nd 1 [.int (nI sz), .ref kp, .ref ct, .ref sa, .ref la, .ref fz], ob_J st 2 [.ref wt, .ref rw, .ref al, .ref br, .ref fx], ar_I wt cI 808 fwt, ar_I al cI 101 fal]) (v := 0) hx hb hr hlk hK hS rfl () hP hD (show 0 = rr_jump hh sz fwt fal (nI kf) (nI kt) (nI ib) from by simp [rr_jump, up_P, ha_P, h_3, t_kf, t_kt, h_14, t_ib, h_29]) dX5_jump_40
    · rw [if_neg h_14] at w_14; subst w_14
      refine lv_if_ne (tgt := 22) hx hb dX5_jump_17 (by decide) (fun h9 => absurd (by decide) h9) (fun _ => ?_)
      refine lv_iconst (v := (-1)) hx hb dX5_jump_20 (by decide) ?_
      exact re_I (w1 := fun u_u : Unit => [ob_J x 5 [.int (nI hh), .ref rl, .ref bk, .ref nd, .ref st, .ref sh, .ref wy], ob_J nd 1 [.int (nI sz), .ref kp, .ref ct, .ref sa, .ref la, .ref fz], ob_J st 2 [.ref wt, .ref rw, .ref al, .ref br, .ref fx], ar_I wt cI 808 fwt, ar_I al cI 101 fal]) (v := (-1)) hx hb hr hlk hK hS rfl () hP hD (show (-1) = rr_jump hh sz fwt fal (nI kf) (nI kt) bits from by simp [rr_jump, up_P, ha_P, h_3, t_kf, t_kt, h_14]) dX5_jump_21
  · rw [if_neg h_3] at w_3; subst w_3
    refine lv_if_eq (tgt := 20) hx hb dX5_jump_6 (by decide) (fun _ => ?_) (fun h9 => absurd (by decide) h9)
    refine lv_iconst (v := (-1)) hx hb dX5_jump_20 (by decide) ?_
    exact re_I (w1 := fun u_u : Unit => [ob_J x 5 [.int (nI hh), .ref rl, .ref bk, .ref nd, .ref st, .ref sh, .ref wy], ob_J nd 1 [.int (nI sz), .ref kp, .ref ct, .ref sa, .ref la, .ref fz], ob_J st 2 [.ref wt, .ref rw, .ref al, .ref br, .ref fx], ar_I wt cI 808 fwt, ar_I al cI 101 fal]) (v := (-1)) hx hb hr hlk hK hS rfl () hP hD (show (-1) = rr_jump hh sz fwt fal f t bits from by simp [rr_jump, up_P, ha_P, h_3]) dX5_jump_21

set_option maxHeartbeats 4000000 in
set_option maxRecDepth 100000 in
theorem k_X5_overlap (l : Launch) (D : va_G) (cI cJ cZ : ClassId) (x : Nat) (st : Nat) (wt : Nat) (hh : Nat) (rl : Nat) (bk : Nat) (nd : Nat) (sh : Nat) (wy : Nat) (rw : Nat) (al : Nat) (br : Nat) (fx : Nat) (fwt : Nat → Int32) (a : Int32) (b : Int32) (hhh : hh ≤ 100) : mt_I l yX5_overlap cX5_overlap 3 .int 2 54 D cI cJ cZ [ob_J x 5 [.int (nI hh), .ref rl, .ref bk, .ref nd, .ref st, .ref sh, .ref wy], ob_J st 2 [.ref wt, .ref rw, .ref al, .ref br, .ref fx], ar_I wt cI 808 fwt] [.ref x, .int a, .int b] (fun r (u_u : Unit) => r = rr_overlap hh fwt a b) (fun u_u : Unit => [ob_J x 5 [.int (nI hh), .ref rl, .ref bk, .ref nd, .ref st, .ref sh, .ref wy], ob_J st 2 [.ref wt, .ref rw, .ref al, .ref br, .ref fx], ar_I wt cI 808 fwt]) := by
  refine en_I (by decide) (Nat.le_of_ble_eq_true rfl) ?_
  intro p e s m below meth c A ls H locs hx hb hr hml hts hown hlk hN hK hA hP hD hS hl
  have hown : s.vm.findClass RX5 = some m.cls := hown
  have hl : lv_has ls 3 [(0, .ref x), (1, .int a), (2, .int b)] := hl
  refine lv_aload_n hx hb dX5_overlap_0 rfl (lv_at hl 0 rfl) ?_
  refine lv_iload_n hx hb dX5_overlap_1 rfl (lv_at hl 1 rfl) ?_
  refine ca_VI (rest := []) (wr := [ob_J st 2 [.ref wt, .ref rw, .ref al, .ref br, .ref fx], ar_I wt cI 808 fwt]) (w2 := fun u_u => [ob_J x 5 [.int (nI hh), .ref rl, .ref bk, .ref nd, .ref st, .ref sh, .ref wy], ob_J st 2 [.ref wt, .ref rw, .ref al, .ref br, .ref fx], ar_I wt cI 808 fwt]) (k_X5_hasSet l D cI cJ cZ x hh rl bk nd st sh wy a ) hx hb hml hown hts hN hK hA hP hD hS 5 0 rfl rfl bw_309 bw_311 bs_6 bw_1 bw_312 1 rfl (by decide +kernel) ⟨by decide, by decide⟩ [0] [1, 2] [2, 0, 1] rfl rfl (by decide) (fun _ => rfl) hl.1 rfl (Nat.le_of_ble_eq_true rfl) dX5_overlap_2 ⟨Nat.zero_le _, Nat.zero_le _⟩ (fun r_2 u_u H locs w_2 hP hD hS => ?_)
  have hP : va_P D cl_A [ob_J x 5 [.int (nI hh), .ref rl, .ref bk, .ref nd, .ref st, .ref sh, .ref wy], ob_J st 2 [.ref wt, .ref rw, .ref al, .ref br, .ref fx], ar_I wt cI 808 fwt] H := hP
  have hD : va_D A [ob_J x 5 [.int (nI hh), .ref rl, .ref bk, .ref nd, .ref st, .ref sh, .ref wy], ob_J st 2 [.ref wt, .ref rw, .ref al, .ref br, .ref fx], ar_I wt cI 808 fwt] := hD
  have w_2 : r_2 = if 0 ≤ a ∧ a ≤ nI hh then 1 else 0 := w_2
  by_cases h_2 : 0 ≤ a ∧ a ≤ nI hh
  · rw [if_pos h_2] at w_2; subst w_2
    obtain ⟨ka, h_ka, rfl⟩ : ∃ z : Nat, z < (hh + 1) ∧ a = nI z := ix_hs (by omega) h_2
    have t_ka := tn_nI (n := ka) (by omega)
    refine lv_if_eq (tgt := 16) hx hb dX5_overlap_5 (by decide) (fun h9 => absurd h9 (by decide)) (fun _ => ?_)
    refine lv_aload_n hx hb dX5_overlap_8 rfl (lv_at hl 0 rfl) ?_
    refine lv_iload_n hx hb dX5_overlap_9 rfl (lv_at hl 2 rfl) ?_
    refine ca_VI (rest := []) (wr := [ob_J st 2 [.ref wt, .ref rw, .ref al, .ref br, .ref fx], ar_I wt cI 808 fwt]) (w2 := fun u_u => [ob_J x 5 [.int (nI hh), .ref rl, .ref bk, .ref nd, .ref st, .ref sh, .ref wy], ob_J st 2 [.ref wt, .ref rw, .ref al, .ref br, .ref fx], ar_I wt cI 808 fwt]) (k_X5_hasSet l D cI cJ cZ x hh rl bk nd st sh wy b ) hx hb hml hown hts hN hK hA hP hD hS 5 0 rfl rfl bw_309 bw_311 bs_6 bw_1 bw_312 1 rfl (by decide +kernel) ⟨by decide, by decide⟩ [0] [1, 2] [2, 0, 1] rfl rfl (by decide) (fun _ => rfl) hl.1 rfl (Nat.le_of_ble_eq_true rfl) dX5_overlap_10 ⟨Nat.zero_le _, Nat.zero_le _⟩ (fun r_10 u_u H locs w_10 hP hD hS => ?_)
    have hP : va_P D cl_A [ob_J x 5 [.int (nI hh), .ref rl, .ref bk, .ref nd, .ref st, .ref sh, .ref wy], ob_J st 2 [.ref wt, .ref rw, .ref al, .ref br, .ref fx], ar_I wt cI 808 fwt] H := hP
    have hD : va_D A [ob_J x 5 [.int (nI hh), .ref rl, .ref bk, .ref nd, .ref st, .ref sh, .ref wy], ob_J st 2 [.ref wt, .ref rw, .ref al, .ref br, .ref fx], ar_I wt cI 808 fwt] := hD
    have w_10 : r_10 = if 0 ≤ b ∧ b ≤ nI hh then 1 else 0 := w_10
    by_cases h_10 : 0 ≤ b ∧ b ≤ nI hh
    · rw [if_pos h_10] at w_10; subst w_10
      obtain ⟨kb, h_kb, rfl⟩ : ∃ z : Nat, z < (hh + 1) ∧ b = nI z := ix_hs (by omega) h_10
      have t_kb := tn_nI (n := kb) (by omega)
      refine lv_if_ne (tgt := 18) hx hb dX5_overlap_13 (by decide) (fun _ => ?_) (fun h9 => absurd h9 (by decide))
      refine lv_aload_n hx hb dX5_overlap_18 rfl (lv_at hl 0 rfl) ?_
      refine va_get (ci := 5) (v := .ref st) (C := RX5) (T := TX5) (N := 7) hx hb hts bi_5 hown hK hP 0 rfl rfl 4 (by decide) (hts _ bw_137) (fun _ h9 => h9) rfl dX5_overlap_19 ?_
      refine lv_iload_n hx hb dX5_overlap_22 rfl (lv_at hl 1 rfl) ?_
      refine lv_iload_n hx hb dX5_overlap_23 rfl (lv_at hl 2 rfl) ?_
      refine ca_VI (rest := []) (wr := [ob_J x 5 [.int (nI hh), .ref rl, .ref bk, .ref nd, .ref st, .ref sh, .ref wy]]) (w2 := fun u_u => [ob_J x 5 [.int (nI hh), .ref rl, .ref bk, .ref nd, .ref st, .ref sh, .ref wy], ob_J st 2 [.ref wt, .ref rw, .ref al, .ref br, .ref fx], ar_I wt cI 808 fwt]) (k_X2_commonWeight l D cI cJ cZ st wt rw al br fx fwt ka kb (by first | assumption | omega) (by first | assumption | omega)) hx hb hml hown hts hN hK hA hP hD hS 2 0 rfl rfl bw_354 bw_355 bw_356 bw_4 bw_357 2 rfl (by decide +kernel) ⟨by decide, by decide⟩ [1, 2] [0] [0, 1, 2] rfl rfl (by decide) (fun _ => rfl) hl.1 rfl (Nat.le_of_ble_eq_true rfl) dX5_overlap_24 ⟨Nat.zero_le _, Nat.zero_le _⟩ (fun r_24 u_u H locs w_24 hP hD hS => ?_)
      have hP : va_P D cl_A [ob_J x 5 [.int (nI hh), .ref rl, .ref bk, .ref nd, .ref st, .ref sh, .ref wy], ob_J st 2 [.ref wt, .ref rw, .ref al, .ref br, .ref fx], ar_I wt cI 808 fwt] H := hP
      have hD : va_D A [ob_J x 5 [.int (nI hh), .ref rl, .ref bk, .ref nd, .ref st, .ref sh, .ref wy], ob_J st 2 [.ref wt, .ref rw, .ref al, .ref br, .ref fx], ar_I wt cI 808 fwt] := hD
      have w_24 : r_24 = sI_ (fun n => if fwt (kb * 8 + n) < fwt (ka * 8 + n) then fwt (kb * 8 + n) else fwt (ka * 8 + n)) 8 := w_24
      subst w_24
      exact re_I (w1 := fun u_u : Unit => [ob_J x 5 [.int (nI hh), .ref rl, .ref bk, .ref nd, .ref st, .ref sh, .ref wy], ob_J st 2 [.ref wt, .ref rw, .ref al, .ref br, .ref fx], ar_I wt cI 808 fwt]) (v := sI_ (fun n => if fwt (kb * 8 + n) < fwt (ka * 8 + n) then fwt (kb * 8 + n) else fwt (ka * 8 + n)) 8) hx hb hr hlk hK hS rfl () hP hD (show sI_ (fun n => if fwt (kb * 8 + n) < fwt (ka * 8 + n) then fwt (kb * 8 + n) else fwt (ka * 8 + n)) 8 = rr_overlap hh fwt (nI ka) (nI kb) from by simp [rr_overlap, hs_P, h_2, t_ka, h_10, t_kb]) dX5_overlap_27
    · rw [if_neg h_10] at w_10; subst w_10
      refine lv_if_ne (tgt := 18) hx hb dX5_overlap_13 (by decide) (fun h9 => absurd (by decide) h9) (fun _ => ?_)
      refine lv_iconst (v := (-1)) hx hb dX5_overlap_16 (by decide) ?_
      exact re_I (w1 := fun u_u : Unit => [ob_J x 5 [.int (nI hh), .ref rl, .ref bk, .ref nd, .ref st, .ref sh, .ref wy], ob_J st 2 [.ref wt, .ref rw, .ref al, .ref br, .ref fx], ar_I wt cI 808 fwt]) (v := (-1)) hx hb hr hlk hK hS rfl () hP hD (show (-1) = rr_overlap hh fwt (nI ka) b from by simp [rr_overlap, hs_P, h_2, t_ka, h_10]) dX5_overlap_17
  · rw [if_neg h_2] at w_2; subst w_2
    refine lv_if_eq (tgt := 16) hx hb dX5_overlap_5 (by decide) (fun _ => ?_) (fun h9 => absurd (by decide) h9)
    refine lv_iconst (v := (-1)) hx hb dX5_overlap_16 (by decide) ?_
    exact re_I (w1 := fun u_u : Unit => [ob_J x 5 [.int (nI hh), .ref rl, .ref bk, .ref nd, .ref st, .ref sh, .ref wy], ob_J st 2 [.ref wt, .ref rw, .ref al, .ref br, .ref fx], ar_I wt cI 808 fwt]) (v := (-1)) hx hb hr hlk hK hS rfl () hP hD (show (-1) = rr_overlap hh fwt a b from by simp [rr_overlap, hs_P, h_2]) dX5_overlap_17

set_option maxHeartbeats 4000000 in
set_option maxRecDepth 100000 in
theorem k_X5_count (l : Launch) (D : va_G) (cI cJ cZ : ClassId) (x : Nat) (rl : Nat) (bk : Nat) (bal : Nat) (stk : Nat) (due : Nat) (nd : Nat) (hh : Nat) (st : Nat) (sh : Nat) (wy : Nat) (frl : Nat → Int32) (funded : Int32) (rewarded : Int32) (fbal : Nat → Int32) (fstk : Nat → Int32) (fdue : Nat → Int32) (sz : Nat) (kp : Nat) (ct : Nat) (sa : Nat) (la : Nat) (fz : Nat) (what : Int32)  : mt_I l yX5_count cX5_count 2 .int 3 66 D cI cJ cZ [ob_J x 5 [.int (nI hh), .ref rl, .ref bk, .ref nd, .ref st, .ref sh, .ref wy], ar_I rl cI 4 frl, ob_J bk 0 [.int funded, .int rewarded, .ref bal, .ref stk, .ref due], ar_I bal cI 10 fbal, ar_I stk cI 80 fstk, ar_I due cI 1100 fdue, ob_J nd 1 [.int (nI sz), .ref kp, .ref ct, .ref sa, .ref la, .ref fz]] [.ref x, .int what] (fun r (u_u : Unit) => r = rr_count hh sz funded rewarded frl fbal fstk fdue what) (fun u_u : Unit => [ob_J x 5 [.int (nI hh), .ref rl, .ref bk, .ref nd, .ref st, .ref sh, .ref wy], ar_I rl cI 4 frl, ob_J bk 0 [.int funded, .int rewarded, .ref bal, .ref stk, .ref due], ar_I bal cI 10 fbal, ar_I stk cI 80 fstk, ar_I due cI 1100 fdue, ob_J nd 1 [.int (nI sz), .ref kp, .ref ct, .ref sa, .ref la, .ref fz]]) := by
  refine en_I (by decide) (Nat.le_of_ble_eq_true rfl) ?_
  intro p e s m below meth c A ls H locs hx hb hr hml hts hown hlk hN hK hA hP hD hS hl
  have hown : s.vm.findClass RX5 = some m.cls := hown
  have hl : lv_has ls 2 [(0, .ref x), (1, .int what)] := hl
  refine lv_iload_n hx hb dX5_count_0 rfl (lv_at hl 1 rfl) ?_
  by_cases e_1_0 : what = 0
  · subst e_1_0
    refine lv_tableIn (off := 59) (tgt := 60) hx hb dX5_count_1 (by decide) (by decide) (by decide) (by decide) ?_
    refine lv_aload_n hx hb dX5_count_60 rfl (lv_at hl 0 rfl) ?_
    refine va_get (ci := 5) (v := .int (nI hh)) (C := RX5) (T := TX5) (N := 7) hx hb hts bi_5 hown hK hP 0 rfl rfl 0 (by decide) (hts _ bw_133) (fun _ h9 => h9) rfl dX5_count_61 ?_
    exact re_I (w1 := fun u_u : Unit => [ob_J x 5 [.int (nI hh), .ref rl, .ref bk, .ref nd, .ref st, .ref sh, .ref wy], ar_I rl cI 4 frl, ob_J bk 0 [.int funded, .int rewarded, .ref bal, .ref stk, .ref due], ar_I bal cI 10 fbal, ar_I stk cI 80 fstk, ar_I due cI 1100 fdue, ob_J nd 1 [.int (nI sz), .ref kp, .ref ct, .ref sa, .ref la, .ref fz]]) (v := nI hh) hx hb hr hlk hK hS rfl () hP hD (show nI hh = rr_count hh sz funded rewarded frl fbal fstk fdue 0 from by simp [rr_count, ]) dX5_count_64
  by_cases e_1_1 : what = 1
  · subst e_1_1
    refine lv_tableIn (off := 64) (tgt := 65) hx hb dX5_count_1 (by decide) (by decide) (by decide) (by decide) ?_
    refine lv_aload_n hx hb dX5_count_65 rfl (lv_at hl 0 rfl) ?_
    refine va_get (ci := 5) (v := .ref nd) (C := RX5) (T := TX5) (N := 7) hx hb hts bi_5 hown hK hP 0 rfl rfl 3 (by decide) (hts _ bw_136) (fun _ h9 => h9) rfl dX5_count_66 ?_
    refine va_get (ci := 1) (v := .int (nI sz)) (C := RX1) (T := TX1) (N := 6) hx hb hts bi_1 hown hK hP 6 rfl rfl 0 (by decide) (hts _ bw_52) (fun _ h9 => h9) rfl dX5_count_69 ?_
    exact re_I (w1 := fun u_u : Unit => [ob_J x 5 [.int (nI hh), .ref rl, .ref bk, .ref nd, .ref st, .ref sh, .ref wy], ar_I rl cI 4 frl, ob_J bk 0 [.int funded, .int rewarded, .ref bal, .ref stk, .ref due], ar_I bal cI 10 fbal, ar_I stk cI 80 fstk, ar_I due cI 1100 fdue, ob_J nd 1 [.int (nI sz), .ref kp, .ref ct, .ref sa, .ref la, .ref fz]]) (v := nI sz) hx hb hr hlk hK hS rfl () hP hD (show nI sz = rr_count hh sz funded rewarded frl fbal fstk fdue 1 from by simp [rr_count, e_1_0]) dX5_count_72
  by_cases e_1_2 : what = 2
  · subst e_1_2
    refine lv_tableIn (off := 72) (tgt := 73) hx hb dX5_count_1 (by decide) (by decide) (by decide) (by decide) ?_
    refine lv_aload_n hx hb dX5_count_73 rfl (lv_at hl 0 rfl) ?_
    refine va_get (ci := 5) (v := .ref bk) (C := RX5) (T := TX5) (N := 7) hx hb hts bi_5 hown hK hP 0 rfl rfl 2 (by decide) (hts _ bw_135) (fun _ h9 => h9) rfl dX5_count_74 ?_
    refine va_get (ci := 0) (v := .int funded) (C := RX0) (T := TX0) (N := 5) hx hb hts bi_0 hown hK hP 2 rfl rfl 0 (by decide) (hts _ bw_25) (fun _ h9 => h9) rfl dX5_count_77 ?_
    exact re_I (w1 := fun u_u : Unit => [ob_J x 5 [.int (nI hh), .ref rl, .ref bk, .ref nd, .ref st, .ref sh, .ref wy], ar_I rl cI 4 frl, ob_J bk 0 [.int funded, .int rewarded, .ref bal, .ref stk, .ref due], ar_I bal cI 10 fbal, ar_I stk cI 80 fstk, ar_I due cI 1100 fdue, ob_J nd 1 [.int (nI sz), .ref kp, .ref ct, .ref sa, .ref la, .ref fz]]) (v := funded) hx hb hr hlk hK hS rfl () hP hD (show funded = rr_count hh sz funded rewarded frl fbal fstk fdue 2 from by simp [rr_count, e_1_0, e_1_1]) dX5_count_80
  by_cases e_1_3 : what = 3
  · subst e_1_3
    refine lv_tableIn (off := 80) (tgt := 81) hx hb dX5_count_1 (by decide) (by decide) (by decide) (by decide) ?_
    refine lv_aload_n hx hb dX5_count_81 rfl (lv_at hl 0 rfl) ?_
    refine va_get (ci := 5) (v := .ref bk) (C := RX5) (T := TX5) (N := 7) hx hb hts bi_5 hown hK hP 0 rfl rfl 2 (by decide) (hts _ bw_135) (fun _ h9 => h9) rfl dX5_count_82 ?_
    refine va_get (ci := 0) (v := .int rewarded) (C := RX0) (T := TX0) (N := 5) hx hb hts bi_0 hown hK hP 2 rfl rfl 1 (by decide) (hts _ bw_26) (fun _ h9 => h9) rfl dX5_count_85 ?_
    exact re_I (w1 := fun u_u : Unit => [ob_J x 5 [.int (nI hh), .ref rl, .ref bk, .ref nd, .ref st, .ref sh, .ref wy], ar_I rl cI 4 frl, ob_J bk 0 [.int funded, .int rewarded, .ref bal, .ref stk, .ref due], ar_I bal cI 10 fbal, ar_I stk cI 80 fstk, ar_I due cI 1100 fdue, ob_J nd 1 [.int (nI sz), .ref kp, .ref ct, .ref sa, .ref la, .ref fz]]) (v := rewarded) hx hb hr hlk hK hS rfl () hP hD (show rewarded = rr_count hh sz funded rewarded frl fbal fstk fdue 3 from by simp [rr_count, e_1_0, e_1_1, e_1_2]) dX5_count_88
  by_cases e_1_4 : what = 4
  · subst e_1_4
    refine lv_tableIn (off := 88) (tgt := 89) hx hb dX5_count_1 (by decide) (by decide) (by decide) (by decide) ?_
    refine lv_aload_n hx hb dX5_count_89 rfl (lv_at hl 0 rfl) ?_
    refine va_get (ci := 5) (v := .ref bk) (C := RX5) (T := TX5) (N := 7) hx hb hts bi_5 hown hK hP 0 rfl rfl 2 (by decide) (hts _ bw_135) (fun _ h9 => h9) rfl dX5_count_90 ?_
    refine ca_VI (rest := []) (wr := [ob_J x 5 [.int (nI hh), .ref rl, .ref bk, .ref nd, .ref st, .ref sh, .ref wy], ar_I rl cI 4 frl, ar_I stk cI 80 fstk, ar_I due cI 1100 fdue, ob_J nd 1 [.int (nI sz), .ref kp, .ref ct, .ref sa, .ref la, .ref fz]]) (w2 := fun u_u => [ob_J x 5 [.int (nI hh), .ref rl, .ref bk, .ref nd, .ref st, .ref sh, .ref wy], ar_I rl cI 4 frl, ob_J bk 0 [.int funded, .int rewarded, .ref bal, .ref stk, .ref due], ar_I bal cI 10 fbal, ar_I stk cI 80 fstk, ar_I due cI 1100 fdue, ob_J nd 1 [.int (nI sz), .ref kp, .ref ct, .ref sa, .ref la, .ref fz]]) (k_X0_allBalances l D cI cJ cZ bk bal funded rewarded stk due fbal ) hx hb hml hown hts hN hK hA hP hD hS 0 0 rfl rfl bw_384 bw_385 bw_386 bw_2 bw_387 0 rfl (by decide +kernel) ⟨by decide, by decide⟩ [2, 3] [0, 1, 4, 5, 6] [0, 1, 5, 6, 2, 3, 4] rfl rfl (by decide) (fun _ => rfl) hl.1 rfl (Nat.le_of_ble_eq_true rfl) dX5_count_93 ⟨Nat.zero_le _, Nat.zero_le _⟩ (fun r_93 u_u H locs w_93 hP hD hS => ?_)
    have hP : va_P D cl_A [ob_J x 5 [.int (nI hh), .ref rl, .ref bk, .ref nd, .ref st, .ref sh, .ref wy], ar_I rl cI 4 frl, ob_J bk 0 [.int funded, .int rewarded, .ref bal, .ref stk, .ref due], ar_I bal cI 10 fbal, ar_I stk cI 80 fstk, ar_I due cI 1100 fdue, ob_J nd 1 [.int (nI sz), .ref kp, .ref ct, .ref sa, .ref la, .ref fz]] H := hP
    have hD : va_D A [ob_J x 5 [.int (nI hh), .ref rl, .ref bk, .ref nd, .ref st, .ref sh, .ref wy], ar_I rl cI 4 frl, ob_J bk 0 [.int funded, .int rewarded, .ref bal, .ref stk, .ref due], ar_I bal cI 10 fbal, ar_I stk cI 80 fstk, ar_I due cI 1100 fdue, ob_J nd 1 [.int (nI sz), .ref kp, .ref ct, .ref sa, .ref la, .ref fz]] := hD
    have w_93 : r_93 = sI_ fbal 10 := w_93
    subst w_93
    exact re_I (w1 := fun u_u : Unit => [ob_J x 5 [.int (nI hh), .ref rl, .ref bk, .ref nd, .ref st, .ref sh, .ref wy], ar_I rl cI 4 frl, ob_J bk 0 [.int funded, .int rewarded, .ref bal, .ref stk, .ref due], ar_I bal cI 10 fbal, ar_I stk cI 80 fstk, ar_I due cI 1100 fdue, ob_J nd 1 [.int (nI sz), .ref kp, .ref ct, .ref sa, .ref la, .ref fz]]) (v := sI_ fbal 10) hx hb hr hlk hK hS rfl () hP hD (show sI_ fbal 10 = rr_count hh sz funded rewarded frl fbal fstk fdue 4 from by simp [rr_count, e_1_0, e_1_1, e_1_2, e_1_3]) dX5_count_96
  by_cases e_1_5 : what = 5
  · subst e_1_5
    refine lv_tableIn (off := 96) (tgt := 97) hx hb dX5_count_1 (by decide) (by decide) (by decide) (by decide) ?_
    refine lv_aload_n hx hb dX5_count_97 rfl (lv_at hl 0 rfl) ?_
    refine va_get (ci := 5) (v := .ref bk) (C := RX5) (T := TX5) (N := 7) hx hb hts bi_5 hown hK hP 0 rfl rfl 2 (by decide) (hts _ bw_135) (fun _ h9 => h9) rfl dX5_count_98 ?_
    refine ca_VI (rest := []) (wr := [ob_J x 5 [.int (nI hh), .ref rl, .ref bk, .ref nd, .ref st, .ref sh, .ref wy], ar_I rl cI 4 frl, ar_I bal cI 10 fbal, ar_I due cI 1100 fdue, ob_J nd 1 [.int (nI sz), .ref kp, .ref ct, .ref sa, .ref la, .ref fz]]) (w2 := fun u_u => [ob_J x 5 [.int (nI hh), .ref rl, .ref bk, .ref nd, .ref st, .ref sh, .ref wy], ar_I rl cI 4 frl, ob_J bk 0 [.int funded, .int rewarded, .ref bal, .ref stk, .ref due], ar_I bal cI 10 fbal, ar_I stk cI 80 fstk, ar_I due cI 1100 fdue, ob_J nd 1 [.int (nI sz), .ref kp, .ref ct, .ref sa, .ref la, .ref fz]]) (k_X0_allStakes l D cI cJ cZ bk stk funded rewarded bal due fstk ) hx hb hml hown hts hN hK hA hP hD hS 0 0 rfl rfl bw_388 bw_389 bw_390 bw_2 bw_391 0 rfl (by decide +kernel) ⟨by decide, by decide⟩ [2, 4] [0, 1, 3, 5, 6] [0, 1, 5, 2, 6, 3, 4] rfl rfl (by decide) (fun _ => rfl) hl.1 rfl (Nat.le_of_ble_eq_true rfl) dX5_count_101 ⟨Nat.zero_le _, Nat.zero_le _⟩ (fun r_101 u_u H locs w_101 hP hD hS => ?_)
    have hP : va_P D cl_A [ob_J x 5 [.int (nI hh), .ref rl, .ref bk, .ref nd, .ref st, .ref sh, .ref wy], ar_I rl cI 4 frl, ob_J bk 0 [.int funded, .int rewarded, .ref bal, .ref stk, .ref due], ar_I bal cI 10 fbal, ar_I stk cI 80 fstk, ar_I due cI 1100 fdue, ob_J nd 1 [.int (nI sz), .ref kp, .ref ct, .ref sa, .ref la, .ref fz]] H := hP
    have hD : va_D A [ob_J x 5 [.int (nI hh), .ref rl, .ref bk, .ref nd, .ref st, .ref sh, .ref wy], ar_I rl cI 4 frl, ob_J bk 0 [.int funded, .int rewarded, .ref bal, .ref stk, .ref due], ar_I bal cI 10 fbal, ar_I stk cI 80 fstk, ar_I due cI 1100 fdue, ob_J nd 1 [.int (nI sz), .ref kp, .ref ct, .ref sa, .ref la, .ref fz]] := hD
    have w_101 : r_101 = sI_ (fun jn => sI_ (fun a => fstk (jn * 10 + a)) 10) 8 := w_101
    subst w_101
    exact re_I (w1 := fun u_u : Unit => [ob_J x 5 [.int (nI hh), .ref rl, .ref bk, .ref nd, .ref st, .ref sh, .ref wy], ar_I rl cI 4 frl, ob_J bk 0 [.int funded, .int rewarded, .ref bal, .ref stk, .ref due], ar_I bal cI 10 fbal, ar_I stk cI 80 fstk, ar_I due cI 1100 fdue, ob_J nd 1 [.int (nI sz), .ref kp, .ref ct, .ref sa, .ref la, .ref fz]]) (v := sI_ (fun jn => sI_ (fun a => fstk (jn * 10 + a)) 10) 8) hx hb hr hlk hK hS rfl () hP hD (show sI_ (fun jn => sI_ (fun a => fstk (jn * 10 + a)) 10) 8 = rr_count hh sz funded rewarded frl fbal fstk fdue 5 from by simp [rr_count, e_1_0, e_1_1, e_1_2, e_1_3, e_1_4]) dX5_count_104
  by_cases e_1_6 : what = 6
  · subst e_1_6
    refine lv_tableIn (off := 104) (tgt := 105) hx hb dX5_count_1 (by decide) (by decide) (by decide) (by decide) ?_
    refine lv_aload_n hx hb dX5_count_105 rfl (lv_at hl 0 rfl) ?_
    refine va_get (ci := 5) (v := .ref bk) (C := RX5) (T := TX5) (N := 7) hx hb hts bi_5 hown hK hP 0 rfl rfl 2 (by decide) (hts _ bw_135) (fun _ h9 => h9) rfl dX5_count_106 ?_
    refine ca_VI (rest := []) (wr := [ob_J x 5 [.int (nI hh), .ref rl, .ref bk, .ref nd, .ref st, .ref sh, .ref wy], ar_I rl cI 4 frl, ar_I bal cI 10 fbal, ar_I stk cI 80 fstk, ob_J nd 1 [.int (nI sz), .ref kp, .ref ct, .ref sa, .ref la, .ref fz]]) (w2 := fun u_u => [ob_J x 5 [.int (nI hh), .ref rl, .ref bk, .ref nd, .ref st, .ref sh, .ref wy], ar_I rl cI 4 frl, ob_J bk 0 [.int funded, .int rewarded, .ref bal, .ref stk, .ref due], ar_I bal cI 10 fbal, ar_I stk cI 80 fstk, ar_I due cI 1100 fdue, ob_J nd 1 [.int (nI sz), .ref kp, .ref ct, .ref sa, .ref la, .ref fz]]) (k_X0_allDue l D cI cJ cZ bk due funded rewarded bal stk fdue ) hx hb hml hown hts hN hK hA hP hD hS 0 0 rfl rfl bw_393 bw_394 bw_395 bw_2 bw_396 0 rfl (by decide +kernel) ⟨by decide, by decide⟩ [2, 5] [0, 1, 3, 4, 6] [0, 1, 5, 2, 3, 6, 4] rfl rfl (by decide) (fun _ => rfl) hl.1 rfl (Nat.le_of_ble_eq_true rfl) dX5_count_109 ⟨Nat.zero_le _, Nat.zero_le _⟩ (fun r_109 u_u H locs w_109 hP hD hS => ?_)
    have hP : va_P D cl_A [ob_J x 5 [.int (nI hh), .ref rl, .ref bk, .ref nd, .ref st, .ref sh, .ref wy], ar_I rl cI 4 frl, ob_J bk 0 [.int funded, .int rewarded, .ref bal, .ref stk, .ref due], ar_I bal cI 10 fbal, ar_I stk cI 80 fstk, ar_I due cI 1100 fdue, ob_J nd 1 [.int (nI sz), .ref kp, .ref ct, .ref sa, .ref la, .ref fz]] H := hP
    have hD : va_D A [ob_J x 5 [.int (nI hh), .ref rl, .ref bk, .ref nd, .ref st, .ref sh, .ref wy], ar_I rl cI 4 frl, ob_J bk 0 [.int funded, .int rewarded, .ref bal, .ref stk, .ref due], ar_I bal cI 10 fbal, ar_I stk cI 80 fstk, ar_I due cI 1100 fdue, ob_J nd 1 [.int (nI sz), .ref kp, .ref ct, .ref sa, .ref la, .ref fz]] := hD
    have w_109 : r_109 = sI_ (fun ia => sI_ (fun k => fdue (ia * 110 + (k + 1))) 109) 10 := w_109
    subst w_109
    exact re_I (w1 := fun u_u : Unit => [ob_J x 5 [.int (nI hh), .ref rl, .ref bk, .ref nd, .ref st, .ref sh, .ref wy], ar_I rl cI 4 frl, ob_J bk 0 [.int funded, .int rewarded, .ref bal, .ref stk, .ref due], ar_I bal cI 10 fbal, ar_I stk cI 80 fstk, ar_I due cI 1100 fdue, ob_J nd 1 [.int (nI sz), .ref kp, .ref ct, .ref sa, .ref la, .ref fz]]) (v := sI_ (fun ia => sI_ (fun k => fdue (ia * 110 + (k + 1))) 109) 10) hx hb hr hlk hK hS rfl () hP hD (show sI_ (fun ia => sI_ (fun k => fdue (ia * 110 + (k + 1))) 109) 10 = rr_count hh sz funded rewarded frl fbal fstk fdue 6 from by simp [rr_count, e_1_0, e_1_1, e_1_2, e_1_3, e_1_4, e_1_5]) dX5_count_112
  by_cases e_1_7 : what = 7
  · subst e_1_7
    refine lv_tableIn (off := 112) (tgt := 113) hx hb dX5_count_1 (by decide) (by decide) (by decide) (by decide) ?_
    refine lv_aload_n hx hb dX5_count_113 rfl (lv_at hl 0 rfl) ?_
    refine va_get (ci := 5) (v := .ref rl) (C := RX5) (T := TX5) (N := 7) hx hb hts bi_5 hown hK hP 0 rfl rfl 1 (by decide) (hts _ bw_134) (fun _ h9 => h9) rfl dX5_count_114 ?_
    refine lv_iconst (v := 0) hx hb dX5_count_117 (by decide) ?_
    refine ar_ld hx hb hK hP 1 (k := 0) rfl rfl (by omega) (by decide) dX5_count_118 ?_
    exact re_I (w1 := fun u_u : Unit => [ob_J x 5 [.int (nI hh), .ref rl, .ref bk, .ref nd, .ref st, .ref sh, .ref wy], ar_I rl cI 4 frl, ob_J bk 0 [.int funded, .int rewarded, .ref bal, .ref stk, .ref due], ar_I bal cI 10 fbal, ar_I stk cI 80 fstk, ar_I due cI 1100 fdue, ob_J nd 1 [.int (nI sz), .ref kp, .ref ct, .ref sa, .ref la, .ref fz]]) (v := frl 0) hx hb hr hlk hK hS rfl () hP hD (show frl 0 = rr_count hh sz funded rewarded frl fbal fstk fdue 7 from by simp [rr_count, e_1_0, e_1_1, e_1_2, e_1_3, e_1_4, e_1_5, e_1_6]) dX5_count_119
  by_cases e_1_8 : what = 8
  · subst e_1_8
    refine lv_tableIn (off := 119) (tgt := 120) hx hb dX5_count_1 (by decide) (by decide) (by decide) (by decide) ?_
    refine lv_aload_n hx hb dX5_count_120 rfl (lv_at hl 0 rfl) ?_
    refine va_get (ci := 5) (v := .ref rl) (C := RX5) (T := TX5) (N := 7) hx hb hts bi_5 hown hK hP 0 rfl rfl 1 (by decide) (hts _ bw_134) (fun _ h9 => h9) rfl dX5_count_121 ?_
    refine lv_iconst (v := 1) hx hb dX5_count_124 (by decide) ?_
    refine ar_ld hx hb hK hP 1 (k := 1) rfl rfl (by omega) (by decide) dX5_count_125 ?_
    exact re_I (w1 := fun u_u : Unit => [ob_J x 5 [.int (nI hh), .ref rl, .ref bk, .ref nd, .ref st, .ref sh, .ref wy], ar_I rl cI 4 frl, ob_J bk 0 [.int funded, .int rewarded, .ref bal, .ref stk, .ref due], ar_I bal cI 10 fbal, ar_I stk cI 80 fstk, ar_I due cI 1100 fdue, ob_J nd 1 [.int (nI sz), .ref kp, .ref ct, .ref sa, .ref la, .ref fz]]) (v := frl 1) hx hb hr hlk hK hS rfl () hP hD (show frl 1 = rr_count hh sz funded rewarded frl fbal fstk fdue 8 from by simp [rr_count, e_1_0, e_1_1, e_1_2, e_1_3, e_1_4, e_1_5, e_1_6, e_1_7]) dX5_count_126
  by_cases e_1_9 : what = 9
  · subst e_1_9
    refine lv_tableIn (off := 126) (tgt := 127) hx hb dX5_count_1 (by decide) (by decide) (by decide) (by decide) ?_
    refine lv_aload_n hx hb dX5_count_127 rfl (lv_at hl 0 rfl) ?_
    refine va_get (ci := 5) (v := .ref rl) (C := RX5) (T := TX5) (N := 7) hx hb hts bi_5 hown hK hP 0 rfl rfl 1 (by decide) (hts _ bw_134) (fun _ h9 => h9) rfl dX5_count_128 ?_
    refine lv_iconst (v := 2) hx hb dX5_count_131 (by decide) ?_
    refine ar_ld hx hb hK hP 1 (k := 2) rfl rfl (by omega) (by decide) dX5_count_132 ?_
    exact re_I (w1 := fun u_u : Unit => [ob_J x 5 [.int (nI hh), .ref rl, .ref bk, .ref nd, .ref st, .ref sh, .ref wy], ar_I rl cI 4 frl, ob_J bk 0 [.int funded, .int rewarded, .ref bal, .ref stk, .ref due], ar_I bal cI 10 fbal, ar_I stk cI 80 fstk, ar_I due cI 1100 fdue, ob_J nd 1 [.int (nI sz), .ref kp, .ref ct, .ref sa, .ref la, .ref fz]]) (v := frl 2) hx hb hr hlk hK hS rfl () hP hD (show frl 2 = rr_count hh sz funded rewarded frl fbal fstk fdue 9 from by simp [rr_count, e_1_0, e_1_1, e_1_2, e_1_3, e_1_4, e_1_5, e_1_6, e_1_7, e_1_8]) dX5_count_133
  by_cases e_1_10 : what = 10
  · subst e_1_10
    refine lv_tableIn (off := 133) (tgt := 134) hx hb dX5_count_1 (by decide) (by decide) (by decide) (by decide) ?_
    refine lv_aload_n hx hb dX5_count_134 rfl (lv_at hl 0 rfl) ?_
    refine va_get (ci := 5) (v := .ref rl) (C := RX5) (T := TX5) (N := 7) hx hb hts bi_5 hown hK hP 0 rfl rfl 1 (by decide) (hts _ bw_134) (fun _ h9 => h9) rfl dX5_count_135 ?_
    refine lv_iconst (v := 3) hx hb dX5_count_138 (by decide) ?_
    refine ar_ld hx hb hK hP 1 (k := 3) rfl rfl (by omega) (by decide) dX5_count_139 ?_
    exact re_I (w1 := fun u_u : Unit => [ob_J x 5 [.int (nI hh), .ref rl, .ref bk, .ref nd, .ref st, .ref sh, .ref wy], ar_I rl cI 4 frl, ob_J bk 0 [.int funded, .int rewarded, .ref bal, .ref stk, .ref due], ar_I bal cI 10 fbal, ar_I stk cI 80 fstk, ar_I due cI 1100 fdue, ob_J nd 1 [.int (nI sz), .ref kp, .ref ct, .ref sa, .ref la, .ref fz]]) (v := frl 3) hx hb hr hlk hK hS rfl () hP hD (show frl 3 = rr_count hh sz funded rewarded frl fbal fstk fdue 10 from by simp [rr_count, e_1_0, e_1_1, e_1_2, e_1_3, e_1_4, e_1_5, e_1_6, e_1_7, e_1_8, e_1_9]) dX5_count_140
  refine lv_tableOut (tgt := 141) hx hb dX5_count_1 (sw_out 10 (fun z hz => ?_)) (by decide) ?_
  · rcases (show z = 0 ∨ z = 1 ∨ z = 2 ∨ z = 3 ∨ z = 4 ∨ z = 5 ∨ z = 6 ∨ z = 7 ∨ z = 8 ∨ z = 9 ∨ z = 10 by omega) with rfl | rfl | rfl | rfl | rfl | rfl | rfl | rfl | rfl | rfl | rfl
    · exact e_1_0
    · exact e_1_1
    · exact e_1_2
    · exact e_1_3
    · exact e_1_4
    · exact e_1_5
    · exact e_1_6
    · exact e_1_7
    · exact e_1_8
    · exact e_1_9
    · exact e_1_10
  · refine lv_iconst (v := (-1)) hx hb dX5_count_141 (by decide) ?_
    exact re_I (w1 := fun u_u : Unit => [ob_J x 5 [.int (nI hh), .ref rl, .ref bk, .ref nd, .ref st, .ref sh, .ref wy], ar_I rl cI 4 frl, ob_J bk 0 [.int funded, .int rewarded, .ref bal, .ref stk, .ref due], ar_I bal cI 10 fbal, ar_I stk cI 80 fstk, ar_I due cI 1100 fdue, ob_J nd 1 [.int (nI sz), .ref kp, .ref ct, .ref sa, .ref la, .ref fz]]) (v := (-1)) hx hb hr hlk hK hS rfl () hP hD (show (-1) = rr_count hh sz funded rewarded frl fbal fstk fdue what from by simp [rr_count, e_1_0, e_1_1, e_1_2, e_1_3, e_1_4, e_1_5, e_1_6, e_1_7, e_1_8, e_1_9, e_1_10]) dX5_count_142

set_option maxHeartbeats 4000000 in
set_option maxRecDepth 100000 in
theorem k_X5_stakePlace (l : Launch) (D : va_G) (cI cJ cZ : ClassId) (jn : Nat) (ia : Nat)  : mt_I l yX5_stakePlace cX5_stakePlace 2 .int 0 0 D cI cJ cZ [] [.int (nI jn), .int (nI ia)] (fun r (u_u : Unit) => r = nI (jn * 10 + ia)) (fun u_u : Unit => []) := by
  refine en_I (by decide) (Nat.le_of_ble_eq_true rfl) ?_
  intro p e s m below meth c A ls H locs hx hb hr hml hts hown hlk hN hK hA hP hD hS hl
  have hown : s.vm.findClass RX5 = some m.cls := hown
  have hl : lv_has ls 2 [(0, .int (nI jn)), (1, .int (nI ia))] := hl
  refine lv_iload_n hx hb dX5_stakePlace_0 rfl (lv_at hl 0 rfl) ?_
  refine lv_bipush (v := 10) hx hb dX5_stakePlace_1 (by decide) ?_
  refine lv_imul hx hb dX5_stakePlace_3 ?_
  refine tp_i (x' := nI (jn * 10)) (nn_mul rfl rfl) ?_
  refine lv_iload_n hx hb dX5_stakePlace_4 rfl (lv_at hl 1 rfl) ?_
  refine lv_iadd hx hb dX5_stakePlace_5 ?_
  refine tp_i (x' := nI ((jn * 10) + ia)) (nn_add rfl rfl) ?_
  exact re_I (w1 := fun u_u : Unit => []) (v := nI ((jn * 10) + ia)) hx hb hr hlk hK hS rfl () hP hD (show nI ((jn * 10) + ia) = nI (jn * 10 + ia) from rfl) dX5_stakePlace_6

set_option maxHeartbeats 4000000 in
set_option maxRecDepth 100000 in
theorem k_X5_duePlace (l : Launch) (D : va_G) (cI cJ cZ : ClassId) (ia : Nat) (kh : Nat)  : mt_I l yX5_duePlace cX5_duePlace 2 .int 0 0 D cI cJ cZ [] [.int (nI ia), .int (nI kh)] (fun r (u_u : Unit) => r = nI (ia * 110 + kh)) (fun u_u : Unit => []) := by
  refine en_I (by decide) (Nat.le_of_ble_eq_true rfl) ?_
  intro p e s m below meth c A ls H locs hx hb hr hml hts hown hlk hN hK hA hP hD hS hl
  have hown : s.vm.findClass RX5 = some m.cls := hown
  have hl : lv_has ls 2 [(0, .int (nI ia)), (1, .int (nI kh))] := hl
  refine lv_iload_n hx hb dX5_duePlace_0 rfl (lv_at hl 0 rfl) ?_
  refine lv_bipush (v := 110) hx hb dX5_duePlace_1 (by decide) ?_
  refine lv_imul hx hb dX5_duePlace_3 ?_
  refine tp_i (x' := nI (ia * 110)) (nn_mul rfl rfl) ?_
  refine lv_iload_n hx hb dX5_duePlace_4 rfl (lv_at hl 1 rfl) ?_
  refine lv_iadd hx hb dX5_duePlace_5 ?_
  refine tp_i (x' := nI ((ia * 110) + kh)) (nn_add rfl rfl) ?_
  exact re_I (w1 := fun u_u : Unit => []) (v := nI ((ia * 110) + kh)) hx hb hr hlk hK hS rfl () hP hD (show nI ((ia * 110) + kh) = nI (ia * 110 + kh) from rfl) dX5_duePlace_6

set_option maxHeartbeats 4000000 in
set_option maxRecDepth 100000 in
theorem k_X5_setPlace (l : Launch) (D : va_G) (cI cJ cZ : ClassId) (kh : Nat) (jn : Nat)  : mt_I l yX5_setPlace cX5_setPlace 2 .int 0 0 D cI cJ cZ [] [.int (nI kh), .int (nI jn)] (fun r (u_u : Unit) => r = nI (kh * 8 + jn)) (fun u_u : Unit => []) := by
  refine en_I (by decide) (Nat.le_of_ble_eq_true rfl) ?_
  intro p e s m below meth c A ls H locs hx hb hr hml hts hown hlk hN hK hA hP hD hS hl
  have hown : s.vm.findClass RX5 = some m.cls := hown
  have hl : lv_has ls 2 [(0, .int (nI kh)), (1, .int (nI jn))] := hl
  refine lv_iload_n hx hb dX5_setPlace_0 rfl (lv_at hl 0 rfl) ?_
  refine lv_bipush (v := 8) hx hb dX5_setPlace_1 (by decide) ?_
  refine lv_imul hx hb dX5_setPlace_3 ?_
  refine tp_i (x' := nI (kh * 8)) (nn_mul rfl rfl) ?_
  refine lv_iload_n hx hb dX5_setPlace_4 rfl (lv_at hl 1 rfl) ?_
  refine lv_iadd hx hb dX5_setPlace_5 ?_
  refine tp_i (x' := nI ((kh * 8) + jn)) (nn_add rfl rfl) ?_
  exact re_I (w1 := fun u_u : Unit => []) (v := nI ((kh * 8) + jn)) hx hb hr hlk hK hS rfl () hP hD (show nI ((kh * 8) + jn) = nI (kh * 8 + jn) from rfl) dX5_setPlace_6

set_option maxHeartbeats 4000000 in
set_option maxRecDepth 100000 in
theorem k_X5_isWithin (l : Launch) (D : va_G) (cI cJ cZ : ClassId) (v : Int32) (lo_ : Int32) (hi_ : Int32)  : mt_I l yX5_isWithin cX5_isWithin 3 .boolean 0 0 D cI cJ cZ [] [.int v, .int lo_, .int hi_] (fun r (_ : Unit) => r = if lo_ ≤ v ∧ v ≤ hi_ then 1 else 0) (fun u_u : Unit => []) := by
  refine en_I (by decide) (Nat.le_of_ble_eq_true rfl) ?_
  intro p e s m below meth c A ls H locs hx hb hr hml hts hown hlk hN hK hA hP hD hS hl
  have hown : s.vm.findClass RX5 = some m.cls := hown
  have hl : lv_has ls 3 [(0, .int v), (1, .int lo_), (2, .int hi_)] := hl
  refine lv_iload_n hx hb dX5_isWithin_0 rfl (lv_at hl 0 rfl) ?_
  refine lv_iload_n hx hb dX5_isWithin_1 rfl (lv_at hl 1 rfl) ?_
  refine lv_icmp_lt (tgt := 14) hx hb dX5_isWithin_2 (by decide) (fun c_2 => ?_) (fun c_2 => ?_)
  · refine lv_iconst (v := 0) hx hb dX5_isWithin_14 (by decide) ?_
    exact re_I (w1 := fun u_u : Unit => []) (v := 0) hx hb hr hlk hK hS rfl () hP hD (show _ = if lo_ ≤ v ∧ v ≤ hi_ then _ else _ from (if_neg (fun z => absurd z.1 (Int32.not_le.mpr c_2))).symm) dX5_isWithin_15
  · refine lv_iload_n hx hb dX5_isWithin_5 rfl (lv_at hl 0 rfl) ?_
    refine lv_iload_n hx hb dX5_isWithin_6 rfl (lv_at hl 2 rfl) ?_
    refine lv_icmp_gt (tgt := 14) hx hb dX5_isWithin_7 (by decide) (fun c_7 => ?_) (fun c_7 => ?_)
    · refine lv_iconst (v := 0) hx hb dX5_isWithin_14 (by decide) ?_
      exact re_I (w1 := fun u_u : Unit => []) (v := 0) hx hb hr hlk hK hS rfl () hP hD (show _ = if lo_ ≤ v ∧ v ≤ hi_ then _ else _ from (if_neg (fun z => absurd z.2 (Int32.not_le.mpr c_7))).symm) dX5_isWithin_15
    · refine lv_iconst (v := 1) hx hb dX5_isWithin_10 (by decide) ?_
      refine lv_goto (tgt := 15) hx hb dX5_isWithin_11 (by decide) ?_
      exact re_I (w1 := fun u_u : Unit => []) (v := 1) hx hb hr hlk hK hS rfl () hP hD (show _ = if lo_ ≤ v ∧ v ≤ hi_ then _ else _ from (if_pos ⟨Int32.not_lt.mp c_2, Int32.not_lt.mp c_7⟩).symm) dX5_isWithin_15

set_option maxHeartbeats 4000000 in
set_option maxRecDepth 100000 in
theorem k_X5_isAccount (l : Launch) (D : va_G) (cI cJ cZ : ClassId) (a : Int32)  : mt_I l yX5_isAccount cX5_isAccount 1 .boolean 1 22 D cI cJ cZ [] [.int a] (fun r (_ : Unit) => r = if 0 ≤ a ∧ a ≤ 9 then 1 else 0) (fun u_u : Unit => []) := by
  refine en_I (by decide) (Nat.le_of_ble_eq_true rfl) ?_
  intro p e s m below meth c A ls H locs hx hb hr hml hts hown hlk hN hK hA hP hD hS hl
  have hown : s.vm.findClass RX5 = some m.cls := hown
  have hl : lv_has ls 1 [(0, .int a)] := hl
  refine lv_iload_n hx hb dX5_isAccount_0 rfl (lv_at hl 0 rfl) ?_
  refine lv_iconst (v := 0) hx hb dX5_isAccount_1 (by decide) ?_
  refine lv_bipush (v := 9) hx hb dX5_isAccount_2 (by decide) ?_
  refine ca_SI (rest := []) (k_X5_isWithin l D cI cJ cZ a 0 9 ) hx hb hml hown hts hN hK hA hP hD hS bw_163 bw_164 bw_1 bw_165 3 rfl (by decide +kernel) ⟨by decide, by decide⟩ hl.1 rfl (Nat.le_of_ble_eq_true rfl) dX5_isAccount_4 ⟨Nat.zero_le _, Nat.zero_le _⟩ (fun r_4 u_u H locs w_4 hP hD hS => ?_)
  have w_4 : r_4 = if 0 ≤ a ∧ a ≤ 9 then 1 else 0 := w_4
  by_cases h_4 : 0 ≤ a ∧ a ≤ 9
  · rw [if_pos h_4] at w_4; subst w_4
    exact re_I (w1 := fun u_u : Unit => []) (v := 1) hx hb hr hlk hK hS rfl () hP hD (show _ = if 0 ≤ a ∧ a ≤ 9 then _ else _ from by simp [h_4]) dX5_isAccount_7
  · rw [if_neg h_4] at w_4; subst w_4
    exact re_I (w1 := fun u_u : Unit => []) (v := 0) hx hb hr hlk hK hS rfl () hP hD (show _ = if 0 ≤ a ∧ a ≤ 9 then _ else _ from by simp [h_4]) dX5_isAccount_7

set_option maxHeartbeats 4000000 in
set_option maxRecDepth 100000 in
theorem k_X0_payDue (l : Launch) (D : va_G) (cI cJ cZ : ClassId) (bk : Nat) (bal : Nat) (due : Nat) (funded : Int32) (rewarded : Int32) (stk : Nat) (fbal : Nat → Int32) (fdue : Nat → Int32) (h : Nat) (hh : h < 110) : mt_V l yX0_payDue cX0_payDue 4 1 21 D cI cJ cZ [ob_J bk 0 [.int funded, .int rewarded, .ref bal, .ref stk, .ref due], ar_I bal cI 10 fbal, ar_I due cI 1100 fdue] [.ref bk, .int (nI h)] (fun u_u : Unit => True) (fun u_u : Unit => [ob_J bk 0 [.int funded, .int rewarded, .ref bal, .ref stk, .ref due], ar_I bal cI 10 (ad_v fbal (fun a => fdue (a * 110 + h)) 10), ar_I due cI 1100 (dz_ fdue h 10)]) := by
  refine en_V (by decide) (Nat.le_of_ble_eq_true rfl) ?_
  intro p e s m below meth c A ls H locs hx hb hr hml hts hown hlk hN hK hA hP hD hS hl
  have hown : s.vm.findClass RX0 = some m.cls := hown
  have hl : lv_has ls 4 [(0, .ref bk), (1, .int (nI h))] := hl
  refine lv_iconst (v := 0) hx hb dX0_payDue_0 (by decide) ?_
  refine lv_istore_n (lv' := [(2, .int 0), (0, .ref bk), (1, .int (nI h))]) hx hb dX0_payDue_1 rfl hl (by decide) rfl (fun ls hl => ?_)
  have q_1 : fbal = ad_v fbal (fun a => fdue (a * 110 + h)) 0 := ad_0 _ _
  obtain ⟨hP, hD⟩ := cs_W (fun z_z => [ob_J bk 0 [.int funded, .int rewarded, .ref bal, .ref stk, .ref due], ar_I bal cI 10 z_z, ar_I due cI 1100 fdue]) q_1 hP hD
  have q_2 : fdue = dz_ fdue h 0 := rfl
  obtain ⟨hP, hD⟩ := cs_W (fun z_z => [ob_J bk 0 [.int funded, .int rewarded, .ref bal, .ref stk, .ref due], ar_I bal cI 10 (ad_v fbal (fun a => fdue (a * 110 + h)) 0), ar_I due cI 1100 z_z]) q_2 hP hD
  have hl := lv_sub (l' := [(0, .ref bk), (1, .int (nI h)), (2, .int 0)]) hl [1, 2, 0] rfl
  have q_3 : 0 = nI 0 := rfl
  have hl := cs_L (fun z_z => [(0, .ref bk), (1, .int (nI h)), (2, .int z_z)]) q_3 hl
  have hl : lv_has ls 4 [(0, .ref bk), (1, .int (nI h)), (2, .int (nI 0))] := hl
  refine lp_g (σ := Nat) (fun i => 10 - i) (fun i => [ob_J bk 0 [.int funded, .int rewarded, .ref bal, .ref stk, .ref due], ar_I bal cI 10 (ad_v fbal (fun a => fdue (a * 110 + h)) i), ar_I due cI 1100 (dz_ fdue h i)]) (fun i => [(0, .ref bk), (1, .int (nI h)), (2, .int (nI i))]) (fun i => (i ≤ 10)) ?_ 0 (show (0 ≤ 10) from by omega) hP hD hS hl
  intro i H locs ls hF hP hD hS hl ih_2
  have hF : (i ≤ 10) := hF
  have hi := hF
  have hP : va_P D cl_A [ob_J bk 0 [.int funded, .int rewarded, .ref bal, .ref stk, .ref due], ar_I bal cI 10 (ad_v fbal (fun a => fdue (a * 110 + h)) i), ar_I due cI 1100 (dz_ fdue h i)] H := hP
  have hD : va_D A [ob_J bk 0 [.int funded, .int rewarded, .ref bal, .ref stk, .ref due], ar_I bal cI 10 (ad_v fbal (fun a => fdue (a * 110 + h)) i), ar_I due cI 1100 (dz_ fdue h i)] := hD
  have hl : lv_has ls 4 [(0, .ref bk), (1, .int (nI h)), (2, .int (nI i))] := hl
  refine lv_iload_n hx hb dX0_payDue_2 rfl (lv_at hl 2 rfl) ?_
  refine lv_bipush (v := 10) hx hb dX0_payDue_3 (by decide) ?_
  refine lv_icmp_ge (tgt := 42) hx hb dX0_payDue_5 (by decide) (fun c_5 => ?_) (fun c_5 => ?_)
  · have c_5 := qq_ge (a := i) (b := 10) c_5 (by omega) (by omega)
    have q_4 : ad_v fbal (fun a => fdue (a * 110 + h)) i = ad_v fbal (fun a => fdue (a * 110 + h)) 10 := by rw [show i = 10 by omega]
    obtain ⟨hP, hD⟩ := cs_W (fun z_z => [ob_J bk 0 [.int funded, .int rewarded, .ref bal, .ref stk, .ref due], ar_I bal cI 10 z_z, ar_I due cI 1100 (dz_ fdue h i)]) q_4 hP hD
    have q_5 : dz_ fdue h i = dz_ fdue h 10 := by rw [show i = 10 by omega]
    obtain ⟨hP, hD⟩ := cs_W (fun z_z => [ob_J bk 0 [.int funded, .int rewarded, .ref bal, .ref stk, .ref due], ar_I bal cI 10 (ad_v fbal (fun a => fdue (a * 110 + h)) 10), ar_I due cI 1100 z_z]) q_5 hP hD
    exact re_V (w1 := fun u_u : Unit => [ob_J bk 0 [.int funded, .int rewarded, .ref bal, .ref stk, .ref due], ar_I bal cI 10 (ad_v fbal (fun a => fdue (a * 110 + h)) 10), ar_I due cI 1100 (dz_ fdue h 10)]) hx hb hr hlk hK hS () hP hD trivial dX0_payDue_42
  · have c_5 := qq_nge (a := i) (b := 10) c_5 (by omega) (by omega)
    refine lv_iload_n hx hb dX0_payDue_8 rfl (lv_at hl 2 rfl) ?_
    refine lv_iload_n hx hb dX0_payDue_9 rfl (lv_at hl 1 rfl) ?_
    refine ca_NI (rest := []) (k_X5_duePlace l D cI cJ cZ i h ) hx hb hml hown hts hN hK hA hP hD hS hN.1 bw_202 bw_1 bw_203 2 rfl (by decide +kernel) ⟨by decide, by decide⟩ hl.1 rfl (Nat.le_of_ble_eq_true rfl) dX0_payDue_10 ⟨Nat.zero_le _, Nat.zero_le _⟩ (fun r_10 u_u H locs w_10 hP hD hS => ?_)
    have w_10 : r_10 = nI (i * 110 + h) := w_10
    subst w_10
    refine lv_istore_n (lv' := [(3, .int (nI (i * 110 + h))), (0, .ref bk), (1, .int (nI h)), (2, .int (nI i))]) hx hb dX0_payDue_13 rfl hl (by decide) rfl (fun ls hl => ?_)
    refine lv_aload_n hx hb dX0_payDue_14 rfl (lv_at hl 1 rfl) ?_
    refine va_get (ci := 0) (v := .ref bal) (C := RX0) (T := TX0) (N := 5) hx hb hts bi_0 hown hK hP 0 rfl rfl 2 (by decide) (hts _ bw_27) (fun _ h9 => h9) rfl dX0_payDue_15 ?_
    refine lv_iload_n hx hb dX0_payDue_18 rfl (lv_at hl 3 rfl) ?_
    refine lv_dup2_11 hx hb dX0_payDue_19 rfl rfl ?_
    refine ar_ld hx hb hK hP 1 (k := i) rfl rfl (by omega) (by decide) dX0_payDue_20 ?_
    refine lv_aload_n hx hb dX0_payDue_21 rfl (lv_at hl 1 rfl) ?_
    refine va_get (ci := 0) (v := .ref due) (C := RX0) (T := TX0) (N := 5) hx hb hts bi_0 hown hK hP 0 rfl rfl 4 (by decide) (hts _ bw_31) (fun _ h9 => h9) rfl dX0_payDue_22 ?_
    refine lv_iload_n hx hb dX0_payDue_25 rfl (lv_at hl 0 rfl) ?_
    refine ar_ld hx hb hK hP 2 (k := i * 110 + h) rfl rfl (by omega) (by decide) dX0_payDue_26 ?_
    refine lv_iadd hx hb dX0_payDue_27 ?_
    refine ar_st hx hb hK hP hD hS 1 (k := i) rfl rfl (by omega) (by decide) dX0_payDue_28 _ rfl (fun H locs hP hD hS => ?_)
    have hP : va_P D cl_A [ob_J bk 0 [.int funded, .int rewarded, .ref bal, .ref stk, .ref due], ar_I bal cI 10 (upd (ad_v fbal (fun a => fdue (a * 110 + h)) i) i (((ad_v fbal (fun a => fdue (a * 110 + h)) i) i) + ((dz_ fdue h i) (i * 110 + h)))), ar_I due cI 1100 (dz_ fdue h i)] H := hP
    have hD : va_D A [ob_J bk 0 [.int funded, .int rewarded, .ref bal, .ref stk, .ref due], ar_I bal cI 10 (upd (ad_v fbal (fun a => fdue (a * 110 + h)) i) i (((ad_v fbal (fun a => fdue (a * 110 + h)) i) i) + ((dz_ fdue h i) (i * 110 + h)))), ar_I due cI 1100 (dz_ fdue h i)] := hD
    refine lv_aload_n hx hb dX0_payDue_29 rfl (lv_at hl 1 rfl) ?_
    refine va_get (ci := 0) (v := .ref due) (C := RX0) (T := TX0) (N := 5) hx hb hts bi_0 hown hK hP 0 rfl rfl 4 (by decide) (hts _ bw_31) (fun _ h9 => h9) rfl dX0_payDue_30 ?_
    refine lv_iload_n hx hb dX0_payDue_33 rfl (lv_at hl 0 rfl) ?_
    refine lv_iconst (v := 0) hx hb dX0_payDue_34 (by decide) ?_
    refine ar_st hx hb hK hP hD hS 2 (k := i * 110 + h) rfl rfl (by omega) (by decide) dX0_payDue_35 _ rfl (fun H locs hP hD hS => ?_)
    have hP : va_P D cl_A [ob_J bk 0 [.int funded, .int rewarded, .ref bal, .ref stk, .ref due], ar_I bal cI 10 (upd (ad_v fbal (fun a => fdue (a * 110 + h)) i) i (((ad_v fbal (fun a => fdue (a * 110 + h)) i) i) + ((dz_ fdue h i) (i * 110 + h)))), ar_I due cI 1100 (upd (dz_ fdue h i) (i * 110 + h) 0)] H := hP
    have hD : va_D A [ob_J bk 0 [.int funded, .int rewarded, .ref bal, .ref stk, .ref due], ar_I bal cI 10 (upd (ad_v fbal (fun a => fdue (a * 110 + h)) i) i (((ad_v fbal (fun a => fdue (a * 110 + h)) i) i) + ((dz_ fdue h i) (i * 110 + h)))), ar_I due cI 1100 (upd (dz_ fdue h i) (i * 110 + h) 0)] := hD
    refine lv_iinc (v := nI (i + 1)) (lv' := [(2, .int (nI (i + 1))), (3, .int (nI (i * 110 + h))), (0, .ref bk), (1, .int (nI h))]) hx hb dX0_payDue_36 hl (k := 3) rfl (nI_1 _) (by decide) rfl (fun ls hl => ?_)
    refine lv_goto (tgt := 2) hx hb dX0_payDue_39 (by decide) ?_
    have q_6 : upd (ad_v fbal (fun a => fdue (a * 110 + h)) i) i (((ad_v fbal (fun a => fdue (a * 110 + h)) i) i) + ((dz_ fdue h i) (i * 110 + h))) = ad_v fbal (fun a => fdue (a * 110 + h)) (i + 1) := by rw [dz_r fdue hh i i (Nat.le_refl i)]; exact ad_s fbal (fun a => fdue (a * 110 + h)) i
    obtain ⟨hP, hD⟩ := cs_W (fun z_z => [ob_J bk 0 [.int funded, .int rewarded, .ref bal, .ref stk, .ref due], ar_I bal cI 10 z_z, ar_I due cI 1100 (upd (dz_ fdue h i) (i * 110 + h) 0)]) q_6 hP hD
    have q_7 : upd (dz_ fdue h i) (i * 110 + h) 0 = dz_ fdue h (i + 1) := rfl
    obtain ⟨hP, hD⟩ := cs_W (fun z_z => [ob_J bk 0 [.int funded, .int rewarded, .ref bal, .ref stk, .ref due], ar_I bal cI 10 (ad_v fbal (fun a => fdue (a * 110 + h)) (i + 1)), ar_I due cI 1100 z_z]) q_7 hP hD
    have hl := lv_sub (l' := [(0, .ref bk), (1, .int (nI h)), (2, .int (nI (i + 1)))]) hl [2, 3, 0] rfl
    have hl : lv_has ls 4 [(0, .ref bk), (1, .int (nI h)), (2, .int (nI (i + 1)))] := hl
    exact ih_2 (i + 1) (show 10 - (i + 1) < 10 - i from by omega) (show ((i + 1) ≤ 10) from by omega) H locs ls hP hD hS hl

set_option maxHeartbeats 4000000 in
set_option maxRecDepth 100000 in
theorem k_X0_stakesOfNode (l : Launch) (D : va_G) (cI cJ cZ : ClassId) (bk : Nat) (stk : Nat) (funded : Int32) (rewarded : Int32) (bal : Nat) (due : Nat) (fstk : Nat → Int32) (jn : Nat) (hj : jn < 8) : mt_I l yX0_stakesOfNode cX0_stakesOfNode 4 .int 1 21 D cI cJ cZ [ob_J bk 0 [.int funded, .int rewarded, .ref bal, .ref stk, .ref due], ar_I stk cI 80 fstk] [.ref bk, .int (nI jn)] (fun r (u_u : Unit) => r = sI_ (fun a => fstk (jn * 10 + a)) 10) (fun u_u : Unit => [ob_J bk 0 [.int funded, .int rewarded, .ref bal, .ref stk, .ref due], ar_I stk cI 80 fstk]) := by
  refine en_I (by decide) (Nat.le_of_ble_eq_true rfl) ?_
  intro p e s m below meth c A ls H locs hx hb hr hml hts hown hlk hN hK hA hP hD hS hl
  have hown : s.vm.findClass RX0 = some m.cls := hown
  have hl : lv_has ls 4 [(0, .ref bk), (1, .int (nI jn))] := hl
  refine lv_iconst (v := 0) hx hb dX0_stakesOfNode_0 (by decide) ?_
  refine lv_istore_n (lv' := [(2, .int 0), (0, .ref bk), (1, .int (nI jn))]) hx hb dX0_stakesOfNode_1 rfl hl (by decide) rfl (fun ls hl => ?_)
  refine lv_iconst (v := 0) hx hb dX0_stakesOfNode_2 (by decide) ?_
  refine lv_istore_n (lv' := [(3, .int 0), (2, .int 0), (0, .ref bk), (1, .int (nI jn))]) hx hb dX0_stakesOfNode_3 rfl hl (by decide) rfl (fun ls hl => ?_)
  have hl := lv_sub (l' := [(0, .ref bk), (1, .int (nI jn)), (2, .int 0), (3, .int 0)]) hl [2, 3, 1, 0] rfl
  have q_1 : 0 = sI_ (fun a => fstk (jn * 10 + a)) 0 := rfl
  have hl := cs_L (fun z_z => [(0, .ref bk), (1, .int (nI jn)), (2, .int z_z), (3, .int 0)]) q_1 hl
  have q_2 : 0 = nI 0 := rfl
  have hl := cs_L (fun z_z => [(0, .ref bk), (1, .int (nI jn)), (2, .int (sI_ (fun a => fstk (jn * 10 + a)) 0)), (3, .int z_z)]) q_2 hl
  have hl : lv_has ls 4 [(0, .ref bk), (1, .int (nI jn)), (2, .int (sI_ (fun a => fstk (jn * 10 + a)) 0)), (3, .int (nI 0))] := hl
  refine lp_g (σ := Nat) (fun i => 10 - i) (fun i => [ob_J bk 0 [.int funded, .int rewarded, .ref bal, .ref stk, .ref due], ar_I stk cI 80 fstk]) (fun i => [(0, .ref bk), (1, .int (nI jn)), (2, .int (sI_ (fun a => fstk (jn * 10 + a)) i)), (3, .int (nI i))]) (fun i => (i ≤ 10)) ?_ 0 (show (0 ≤ 10) from by omega) hP hD hS hl
  intro i H locs ls hF hP hD hS hl ih_4
  have hF : (i ≤ 10) := hF
  have hi := hF
  have hP : va_P D cl_A [ob_J bk 0 [.int funded, .int rewarded, .ref bal, .ref stk, .ref due], ar_I stk cI 80 fstk] H := hP
  have hD : va_D A [ob_J bk 0 [.int funded, .int rewarded, .ref bal, .ref stk, .ref due], ar_I stk cI 80 fstk] := hD
  have hl : lv_has ls 4 [(0, .ref bk), (1, .int (nI jn)), (2, .int (sI_ (fun a => fstk (jn * 10 + a)) i)), (3, .int (nI i))] := hl
  refine lv_iload_n hx hb dX0_stakesOfNode_4 rfl (lv_at hl 3 rfl) ?_
  refine lv_bipush (v := 10) hx hb dX0_stakesOfNode_5 (by decide) ?_
  refine lv_icmp_ge (tgt := 29) hx hb dX0_stakesOfNode_7 (by decide) (fun c_7 => ?_) (fun c_7 => ?_)
  · have c_7 := qq_ge (a := i) (b := 10) c_7 (by omega) (by omega)
    refine lv_iload_n hx hb dX0_stakesOfNode_29 rfl (lv_at hl 2 rfl) ?_
    exact re_I (w1 := fun u_u : Unit => [ob_J bk 0 [.int funded, .int rewarded, .ref bal, .ref stk, .ref due], ar_I stk cI 80 fstk]) (v := sI_ (fun a => fstk (jn * 10 + a)) i) hx hb hr hlk hK hS rfl () hP hD (show sI_ (fun a => fstk (jn * 10 + a)) i = sI_ (fun a => fstk (jn * 10 + a)) 10 from by rw [show i = 10 by omega]) dX0_stakesOfNode_30
  · have c_7 := qq_nge (a := i) (b := 10) c_7 (by omega) (by omega)
    refine lv_iload_n hx hb dX0_stakesOfNode_10 rfl (lv_at hl 2 rfl) ?_
    refine lv_aload_n hx hb dX0_stakesOfNode_11 rfl (lv_at hl 0 rfl) ?_
    refine va_get (ci := 0) (v := .ref stk) (C := RX0) (T := TX0) (N := 5) hx hb hts bi_0 hown hK hP 0 rfl rfl 3 (by decide) (hts _ bw_29) (fun _ h9 => h9) rfl dX0_stakesOfNode_12 ?_
    refine lv_iload_n hx hb dX0_stakesOfNode_15 rfl (lv_at hl 1 rfl) ?_
    refine lv_iload_n hx hb dX0_stakesOfNode_16 rfl (lv_at hl 3 rfl) ?_
    refine ca_NI (rest := [.ref stk, .int (sI_ (fun a => fstk (jn * 10 + a)) i)]) (k_X5_stakePlace l D cI cJ cZ jn i ) hx hb hml hown hts hN hK hA hP hD hS hN.2.1 bw_195 bw_1 bw_196 2 rfl (by decide +kernel) ⟨by decide, by decide⟩ hl.1 rfl (Nat.le_of_ble_eq_true rfl) dX0_stakesOfNode_17 ⟨Nat.zero_le _, Nat.zero_le _⟩ (fun r_17 u_u H locs w_17 hP hD hS => ?_)
    have w_17 : r_17 = nI (jn * 10 + i) := w_17
    subst w_17
    refine ar_ld hx hb hK hP 1 (k := jn * 10 + i) rfl rfl (by omega) (by decide) dX0_stakesOfNode_20 ?_
    refine lv_iadd hx hb dX0_stakesOfNode_21 ?_
    refine lv_istore_n (lv' := [(2, .int ((sI_ (fun a => fstk (jn * 10 + a)) i) + (fstk (jn * 10 + i)))), (0, .ref bk), (1, .int (nI jn)), (3, .int (nI i))]) hx hb dX0_stakesOfNode_22 rfl hl (by decide) rfl (fun ls hl => ?_)
    refine lv_iinc (v := nI (i + 1)) (lv' := [(3, .int (nI (i + 1))), (2, .int ((sI_ (fun a => fstk (jn * 10 + a)) i) + (fstk (jn * 10 + i)))), (0, .ref bk), (1, .int (nI jn))]) hx hb dX0_stakesOfNode_23 hl (k := 3) rfl (nI_1 _) (by decide) rfl (fun ls hl => ?_)
    refine lv_goto (tgt := 4) hx hb dX0_stakesOfNode_26 (by decide) ?_
    have hl := lv_sub (l' := [(0, .ref bk), (1, .int (nI jn)), (2, .int ((sI_ (fun a => fstk (jn * 10 + a)) i) + (fstk (jn * 10 + i)))), (3, .int (nI (i + 1)))]) hl [2, 3, 1, 0] rfl
    have q_3 : (sI_ (fun a => fstk (jn * 10 + a)) i) + (fstk (jn * 10 + i)) = sI_ (fun a => fstk (jn * 10 + a)) (i + 1) := rfl
    have hl := cs_L (fun z_z => [(0, .ref bk), (1, .int (nI jn)), (2, .int z_z), (3, .int (nI (i + 1)))]) q_3 hl
    have hl : lv_has ls 4 [(0, .ref bk), (1, .int (nI jn)), (2, .int (sI_ (fun a => fstk (jn * 10 + a)) (i + 1))), (3, .int (nI (i + 1)))] := hl
    exact ih_4 (i + 1) (show 10 - (i + 1) < 10 - i from by omega) (show ((i + 1) ≤ 10) from by omega) H locs ls hP hD hS hl

set_option maxHeartbeats 4000000 in
set_option maxRecDepth 100000 in
theorem k_X0_stakesOfAccount (l : Launch) (D : va_G) (cI cJ cZ : ClassId) (bk : Nat) (stk : Nat) (funded : Int32) (rewarded : Int32) (bal : Nat) (due : Nat) (fstk : Nat → Int32) (ia : Nat) (ha : ia < 10) : mt_I l yX0_stakesOfAccount cX0_stakesOfAccount 4 .int 1 21 D cI cJ cZ [ob_J bk 0 [.int funded, .int rewarded, .ref bal, .ref stk, .ref due], ar_I stk cI 80 fstk] [.ref bk, .int (nI ia)] (fun r (u_u : Unit) => r = sI_ (fun k => fstk (k * 10 + ia)) 8) (fun u_u : Unit => [ob_J bk 0 [.int funded, .int rewarded, .ref bal, .ref stk, .ref due], ar_I stk cI 80 fstk]) := by
  refine en_I (by decide) (Nat.le_of_ble_eq_true rfl) ?_
  intro p e s m below meth c A ls H locs hx hb hr hml hts hown hlk hN hK hA hP hD hS hl
  have hown : s.vm.findClass RX0 = some m.cls := hown
  have hl : lv_has ls 4 [(0, .ref bk), (1, .int (nI ia))] := hl
  refine lv_iconst (v := 0) hx hb dX0_stakesOfAccount_0 (by decide) ?_
  refine lv_istore_n (lv' := [(2, .int 0), (0, .ref bk), (1, .int (nI ia))]) hx hb dX0_stakesOfAccount_1 rfl hl (by decide) rfl (fun ls hl => ?_)
  refine lv_iconst (v := 0) hx hb dX0_stakesOfAccount_2 (by decide) ?_
  refine lv_istore_n (lv' := [(3, .int 0), (2, .int 0), (0, .ref bk), (1, .int (nI ia))]) hx hb dX0_stakesOfAccount_3 rfl hl (by decide) rfl (fun ls hl => ?_)
  have hl := lv_sub (l' := [(0, .ref bk), (1, .int (nI ia)), (2, .int 0), (3, .int 0)]) hl [2, 3, 1, 0] rfl
  have q_1 : 0 = sI_ (fun k => fstk (k * 10 + ia)) 0 := rfl
  have hl := cs_L (fun z_z => [(0, .ref bk), (1, .int (nI ia)), (2, .int z_z), (3, .int 0)]) q_1 hl
  have q_2 : 0 = nI 0 := rfl
  have hl := cs_L (fun z_z => [(0, .ref bk), (1, .int (nI ia)), (2, .int (sI_ (fun k => fstk (k * 10 + ia)) 0)), (3, .int z_z)]) q_2 hl
  have hl : lv_has ls 4 [(0, .ref bk), (1, .int (nI ia)), (2, .int (sI_ (fun k => fstk (k * 10 + ia)) 0)), (3, .int (nI 0))] := hl
  refine lp_g (σ := Nat) (fun i => 8 - i) (fun i => [ob_J bk 0 [.int funded, .int rewarded, .ref bal, .ref stk, .ref due], ar_I stk cI 80 fstk]) (fun i => [(0, .ref bk), (1, .int (nI ia)), (2, .int (sI_ (fun k => fstk (k * 10 + ia)) i)), (3, .int (nI i))]) (fun i => (i ≤ 8)) ?_ 0 (show (0 ≤ 8) from by omega) hP hD hS hl
  intro i H locs ls hF hP hD hS hl ih_4
  have hF : (i ≤ 8) := hF
  have hi := hF
  have hP : va_P D cl_A [ob_J bk 0 [.int funded, .int rewarded, .ref bal, .ref stk, .ref due], ar_I stk cI 80 fstk] H := hP
  have hD : va_D A [ob_J bk 0 [.int funded, .int rewarded, .ref bal, .ref stk, .ref due], ar_I stk cI 80 fstk] := hD
  have hl : lv_has ls 4 [(0, .ref bk), (1, .int (nI ia)), (2, .int (sI_ (fun k => fstk (k * 10 + ia)) i)), (3, .int (nI i))] := hl
  refine lv_iload_n hx hb dX0_stakesOfAccount_4 rfl (lv_at hl 3 rfl) ?_
  refine lv_bipush (v := 8) hx hb dX0_stakesOfAccount_5 (by decide) ?_
  refine lv_icmp_ge (tgt := 29) hx hb dX0_stakesOfAccount_7 (by decide) (fun c_7 => ?_) (fun c_7 => ?_)
  · have c_7 := qq_ge (a := i) (b := 8) c_7 (by omega) (by omega)
    refine lv_iload_n hx hb dX0_stakesOfAccount_29 rfl (lv_at hl 2 rfl) ?_
    exact re_I (w1 := fun u_u : Unit => [ob_J bk 0 [.int funded, .int rewarded, .ref bal, .ref stk, .ref due], ar_I stk cI 80 fstk]) (v := sI_ (fun k => fstk (k * 10 + ia)) i) hx hb hr hlk hK hS rfl () hP hD (show sI_ (fun k => fstk (k * 10 + ia)) i = sI_ (fun k => fstk (k * 10 + ia)) 8 from by rw [show i = 8 by omega]) dX0_stakesOfAccount_30
  · have c_7 := qq_nge (a := i) (b := 8) c_7 (by omega) (by omega)
    refine lv_iload_n hx hb dX0_stakesOfAccount_10 rfl (lv_at hl 2 rfl) ?_
    refine lv_aload_n hx hb dX0_stakesOfAccount_11 rfl (lv_at hl 0 rfl) ?_
    refine va_get (ci := 0) (v := .ref stk) (C := RX0) (T := TX0) (N := 5) hx hb hts bi_0 hown hK hP 0 rfl rfl 3 (by decide) (hts _ bw_29) (fun _ h9 => h9) rfl dX0_stakesOfAccount_12 ?_
    refine lv_iload_n hx hb dX0_stakesOfAccount_15 rfl (lv_at hl 3 rfl) ?_
    refine lv_iload_n hx hb dX0_stakesOfAccount_16 rfl (lv_at hl 1 rfl) ?_
    refine ca_NI (rest := [.ref stk, .int (sI_ (fun k => fstk (k * 10 + ia)) i)]) (k_X5_stakePlace l D cI cJ cZ i ia ) hx hb hml hown hts hN hK hA hP hD hS hN.2.1 bw_195 bw_1 bw_196 2 rfl (by decide +kernel) ⟨by decide, by decide⟩ hl.1 rfl (Nat.le_of_ble_eq_true rfl) dX0_stakesOfAccount_17 ⟨Nat.zero_le _, Nat.zero_le _⟩ (fun r_17 u_u H locs w_17 hP hD hS => ?_)
    have w_17 : r_17 = nI (i * 10 + ia) := w_17
    subst w_17
    refine ar_ld hx hb hK hP 1 (k := i * 10 + ia) rfl rfl (by omega) (by decide) dX0_stakesOfAccount_20 ?_
    refine lv_iadd hx hb dX0_stakesOfAccount_21 ?_
    refine lv_istore_n (lv' := [(2, .int ((sI_ (fun k => fstk (k * 10 + ia)) i) + (fstk (i * 10 + ia)))), (0, .ref bk), (1, .int (nI ia)), (3, .int (nI i))]) hx hb dX0_stakesOfAccount_22 rfl hl (by decide) rfl (fun ls hl => ?_)
    refine lv_iinc (v := nI (i + 1)) (lv' := [(3, .int (nI (i + 1))), (2, .int ((sI_ (fun k => fstk (k * 10 + ia)) i) + (fstk (i * 10 + ia)))), (0, .ref bk), (1, .int (nI ia))]) hx hb dX0_stakesOfAccount_23 hl (k := 3) rfl (nI_1 _) (by decide) rfl (fun ls hl => ?_)
    refine lv_goto (tgt := 4) hx hb dX0_stakesOfAccount_26 (by decide) ?_
    have hl := lv_sub (l' := [(0, .ref bk), (1, .int (nI ia)), (2, .int ((sI_ (fun k => fstk (k * 10 + ia)) i) + (fstk (i * 10 + ia)))), (3, .int (nI (i + 1)))]) hl [2, 3, 1, 0] rfl
    have q_3 : (sI_ (fun k => fstk (k * 10 + ia)) i) + (fstk (i * 10 + ia)) = sI_ (fun k => fstk (k * 10 + ia)) (i + 1) := rfl
    have hl := cs_L (fun z_z => [(0, .ref bk), (1, .int (nI ia)), (2, .int z_z), (3, .int (nI (i + 1)))]) q_3 hl
    have hl : lv_has ls 4 [(0, .ref bk), (1, .int (nI ia)), (2, .int (sI_ (fun k => fstk (k * 10 + ia)) (i + 1))), (3, .int (nI (i + 1)))] := hl
    exact ih_4 (i + 1) (show 8 - (i + 1) < 8 - i from by omega) (show ((i + 1) ≤ 8) from by omega) H locs ls hP hD hS hl

set_option maxHeartbeats 4000000 in
set_option maxRecDepth 100000 in
theorem k_X0_dueOfAccount (l : Launch) (D : va_G) (cI cJ cZ : ClassId) (bk : Nat) (due : Nat) (funded : Int32) (rewarded : Int32) (bal : Nat) (stk : Nat) (fdue : Nat → Int32) (ia : Nat) (ha : ia < 10) : mt_I l yX0_dueOfAccount cX0_dueOfAccount 4 .int 1 21 D cI cJ cZ [ob_J bk 0 [.int funded, .int rewarded, .ref bal, .ref stk, .ref due], ar_I due cI 1100 fdue] [.ref bk, .int (nI ia)] (fun r (u_u : Unit) => r = sI_ (fun k => fdue (ia * 110 + (k + 1))) 109) (fun u_u : Unit => [ob_J bk 0 [.int funded, .int rewarded, .ref bal, .ref stk, .ref due], ar_I due cI 1100 fdue]) := by
  refine en_I (by decide) (Nat.le_of_ble_eq_true rfl) ?_
  intro p e s m below meth c A ls H locs hx hb hr hml hts hown hlk hN hK hA hP hD hS hl
  have hown : s.vm.findClass RX0 = some m.cls := hown
  have hl : lv_has ls 4 [(0, .ref bk), (1, .int (nI ia))] := hl
  refine lv_iconst (v := 0) hx hb dX0_dueOfAccount_0 (by decide) ?_
  refine lv_istore_n (lv' := [(2, .int 0), (0, .ref bk), (1, .int (nI ia))]) hx hb dX0_dueOfAccount_1 rfl hl (by decide) rfl (fun ls hl => ?_)
  refine lv_iconst (v := 1) hx hb dX0_dueOfAccount_2 (by decide) ?_
  refine lv_istore_n (lv' := [(3, .int 1), (2, .int 0), (0, .ref bk), (1, .int (nI ia))]) hx hb dX0_dueOfAccount_3 rfl hl (by decide) rfl (fun ls hl => ?_)
  have hl := lv_sub (l' := [(0, .ref bk), (1, .int (nI ia)), (2, .int 0), (3, .int 1)]) hl [2, 3, 1, 0] rfl
  have q_1 : 0 = sI_ (fun k => fdue (ia * 110 + (k + 1))) 0 := rfl
  have hl := cs_L (fun z_z => [(0, .ref bk), (1, .int (nI ia)), (2, .int z_z), (3, .int 1)]) q_1 hl
  have q_2 : 1 = nI (0 + 1) := rfl
  have hl := cs_L (fun z_z => [(0, .ref bk), (1, .int (nI ia)), (2, .int (sI_ (fun k => fdue (ia * 110 + (k + 1))) 0)), (3, .int z_z)]) q_2 hl
  have hl : lv_has ls 4 [(0, .ref bk), (1, .int (nI ia)), (2, .int (sI_ (fun k => fdue (ia * 110 + (k + 1))) 0)), (3, .int (nI (0 + 1)))] := hl
  refine lp_g (σ := Nat) (fun i => 109 - i) (fun i => [ob_J bk 0 [.int funded, .int rewarded, .ref bal, .ref stk, .ref due], ar_I due cI 1100 fdue]) (fun i => [(0, .ref bk), (1, .int (nI ia)), (2, .int (sI_ (fun k => fdue (ia * 110 + (k + 1))) i)), (3, .int (nI (i + 1)))]) (fun i => (i ≤ 109)) ?_ 0 (show (0 ≤ 109) from by omega) hP hD hS hl
  intro i H locs ls hF hP hD hS hl ih_4
  have hF : (i ≤ 109) := hF
  have hi := hF
  have hP : va_P D cl_A [ob_J bk 0 [.int funded, .int rewarded, .ref bal, .ref stk, .ref due], ar_I due cI 1100 fdue] H := hP
  have hD : va_D A [ob_J bk 0 [.int funded, .int rewarded, .ref bal, .ref stk, .ref due], ar_I due cI 1100 fdue] := hD
  have hl : lv_has ls 4 [(0, .ref bk), (1, .int (nI ia)), (2, .int (sI_ (fun k => fdue (ia * 110 + (k + 1))) i)), (3, .int (nI (i + 1)))] := hl
  refine lv_iload_n hx hb dX0_dueOfAccount_4 rfl (lv_at hl 3 rfl) ?_
  refine lv_bipush (v := 109) hx hb dX0_dueOfAccount_5 (by decide) ?_
  refine lv_icmp_gt (tgt := 29) hx hb dX0_dueOfAccount_7 (by decide) (fun c_7 => ?_) (fun c_7 => ?_)
  · have c_7 := qq_gt (a := i + 1) (b := 109) c_7 (by omega) (by omega)
    refine lv_iload_n hx hb dX0_dueOfAccount_29 rfl (lv_at hl 2 rfl) ?_
    exact re_I (w1 := fun u_u : Unit => [ob_J bk 0 [.int funded, .int rewarded, .ref bal, .ref stk, .ref due], ar_I due cI 1100 fdue]) (v := sI_ (fun k => fdue (ia * 110 + (k + 1))) i) hx hb hr hlk hK hS rfl () hP hD (show sI_ (fun k => fdue (ia * 110 + (k + 1))) i = sI_ (fun k => fdue (ia * 110 + (k + 1))) 109 from by rw [show i = 109 by omega]) dX0_dueOfAccount_30
  · have c_7 := qq_ngt (a := i + 1) (b := 109) c_7 (by omega) (by omega)
    refine lv_iload_n hx hb dX0_dueOfAccount_10 rfl (lv_at hl 2 rfl) ?_
    refine lv_aload_n hx hb dX0_dueOfAccount_11 rfl (lv_at hl 0 rfl) ?_
    refine va_get (ci := 0) (v := .ref due) (C := RX0) (T := TX0) (N := 5) hx hb hts bi_0 hown hK hP 0 rfl rfl 4 (by decide) (hts _ bw_31) (fun _ h9 => h9) rfl dX0_dueOfAccount_12 ?_
    refine lv_iload_n hx hb dX0_dueOfAccount_15 rfl (lv_at hl 1 rfl) ?_
    refine lv_iload_n hx hb dX0_dueOfAccount_16 rfl (lv_at hl 3 rfl) ?_
    refine ca_NI (rest := [.ref due, .int (sI_ (fun k => fdue (ia * 110 + (k + 1))) i)]) (k_X5_duePlace l D cI cJ cZ ia (i + 1) ) hx hb hml hown hts hN hK hA hP hD hS hN.1 bw_202 bw_1 bw_203 2 rfl (by decide +kernel) ⟨by decide, by decide⟩ hl.1 rfl (Nat.le_of_ble_eq_true rfl) dX0_dueOfAccount_17 ⟨Nat.zero_le _, Nat.zero_le _⟩ (fun r_17 u_u H locs w_17 hP hD hS => ?_)
    have w_17 : r_17 = nI (ia * 110 + (i + 1)) := w_17
    subst w_17
    refine ar_ld hx hb hK hP 1 (k := ia * 110 + (i + 1)) rfl rfl (by omega) (by decide) dX0_dueOfAccount_20 ?_
    refine lv_iadd hx hb dX0_dueOfAccount_21 ?_
    refine lv_istore_n (lv' := [(2, .int ((sI_ (fun k => fdue (ia * 110 + (k + 1))) i) + (fdue (ia * 110 + (i + 1))))), (0, .ref bk), (1, .int (nI ia)), (3, .int (nI (i + 1)))]) hx hb dX0_dueOfAccount_22 rfl hl (by decide) rfl (fun ls hl => ?_)
    refine lv_iinc (v := nI ((i + 1) + 1)) (lv' := [(3, .int (nI ((i + 1) + 1))), (2, .int ((sI_ (fun k => fdue (ia * 110 + (k + 1))) i) + (fdue (ia * 110 + (i + 1))))), (0, .ref bk), (1, .int (nI ia))]) hx hb dX0_dueOfAccount_23 hl (k := 3) rfl (nI_1 _) (by decide) rfl (fun ls hl => ?_)
    refine lv_goto (tgt := 4) hx hb dX0_dueOfAccount_26 (by decide) ?_
    have hl := lv_sub (l' := [(0, .ref bk), (1, .int (nI ia)), (2, .int ((sI_ (fun k => fdue (ia * 110 + (k + 1))) i) + (fdue (ia * 110 + (i + 1))))), (3, .int (nI ((i + 1) + 1)))]) hl [2, 3, 1, 0] rfl
    have q_3 : (sI_ (fun k => fdue (ia * 110 + (k + 1))) i) + (fdue (ia * 110 + (i + 1))) = sI_ (fun k => fdue (ia * 110 + (k + 1))) (i + 1) := rfl
    have hl := cs_L (fun z_z => [(0, .ref bk), (1, .int (nI ia)), (2, .int z_z), (3, .int (nI ((i + 1) + 1)))]) q_3 hl
    have hl : lv_has ls 4 [(0, .ref bk), (1, .int (nI ia)), (2, .int (sI_ (fun k => fdue (ia * 110 + (k + 1))) (i + 1))), (3, .int (nI ((i + 1) + 1)))] := hl
    exact ih_4 (i + 1) (show 109 - (i + 1) < 109 - i from by omega) (show ((i + 1) ≤ 109) from by omega) H locs ls hP hD hS hl

set_option maxHeartbeats 4000000 in
set_option maxRecDepth 100000 in
theorem k_X0_allBalances (l : Launch) (D : va_G) (cI cJ cZ : ClassId) (bk : Nat) (bal : Nat) (funded : Int32) (rewarded : Int32) (stk : Nat) (due : Nat) (fbal : Nat → Int32)  : mt_I l yX0_allBalances cX0_allBalances 3 .int 0 0 D cI cJ cZ [ob_J bk 0 [.int funded, .int rewarded, .ref bal, .ref stk, .ref due], ar_I bal cI 10 fbal] [.ref bk] (fun r (u_u : Unit) => r = sI_ fbal 10) (fun u_u : Unit => [ob_J bk 0 [.int funded, .int rewarded, .ref bal, .ref stk, .ref due], ar_I bal cI 10 fbal]) := by
  refine en_I (by decide) (Nat.le_of_ble_eq_true rfl) ?_
  intro p e s m below meth c A ls H locs hx hb hr hml hts hown hlk hN hK hA hP hD hS hl
  have hown : s.vm.findClass RX0 = some m.cls := hown
  have hl : lv_has ls 3 [(0, .ref bk)] := hl
  refine lv_iconst (v := 0) hx hb dX0_allBalances_0 (by decide) ?_
  refine lv_istore_n (lv' := [(1, .int 0), (0, .ref bk)]) hx hb dX0_allBalances_1 rfl hl (by decide) rfl (fun ls hl => ?_)
  refine lv_iconst (v := 0) hx hb dX0_allBalances_2 (by decide) ?_
  refine lv_istore_n (lv' := [(2, .int 0), (1, .int 0), (0, .ref bk)]) hx hb dX0_allBalances_3 rfl hl (by decide) rfl (fun ls hl => ?_)
  have hl := lv_sub (l' := [(0, .ref bk), (1, .int 0), (2, .int 0)]) hl [2, 1, 0] rfl
  have q_1 : 0 = sI_ fbal 0 := rfl
  have hl := cs_L (fun z_z => [(0, .ref bk), (1, .int z_z), (2, .int 0)]) q_1 hl
  have q_2 : 0 = nI 0 := rfl
  have hl := cs_L (fun z_z => [(0, .ref bk), (1, .int (sI_ fbal 0)), (2, .int z_z)]) q_2 hl
  have hl : lv_has ls 3 [(0, .ref bk), (1, .int (sI_ fbal 0)), (2, .int (nI 0))] := hl
  refine lp_g (σ := Nat) (fun i => 10 - i) (fun i => [ob_J bk 0 [.int funded, .int rewarded, .ref bal, .ref stk, .ref due], ar_I bal cI 10 fbal]) (fun i => [(0, .ref bk), (1, .int (sI_ fbal i)), (2, .int (nI i))]) (fun i => (i ≤ 10)) ?_ 0 (show (0 ≤ 10) from by omega) hP hD hS hl
  intro i H locs ls hF hP hD hS hl ih_4
  have hF : (i ≤ 10) := hF
  have hi := hF
  have hP : va_P D cl_A [ob_J bk 0 [.int funded, .int rewarded, .ref bal, .ref stk, .ref due], ar_I bal cI 10 fbal] H := hP
  have hD : va_D A [ob_J bk 0 [.int funded, .int rewarded, .ref bal, .ref stk, .ref due], ar_I bal cI 10 fbal] := hD
  have hl : lv_has ls 3 [(0, .ref bk), (1, .int (sI_ fbal i)), (2, .int (nI i))] := hl
  refine lv_iload_n hx hb dX0_allBalances_4 rfl (lv_at hl 2 rfl) ?_
  refine lv_bipush (v := 10) hx hb dX0_allBalances_5 (by decide) ?_
  refine lv_icmp_ge (tgt := 25) hx hb dX0_allBalances_7 (by decide) (fun c_7 => ?_) (fun c_7 => ?_)
  · have c_7 := qq_ge (a := i) (b := 10) c_7 (by omega) (by omega)
    refine lv_iload_n hx hb dX0_allBalances_25 rfl (lv_at hl 1 rfl) ?_
    exact re_I (w1 := fun u_u : Unit => [ob_J bk 0 [.int funded, .int rewarded, .ref bal, .ref stk, .ref due], ar_I bal cI 10 fbal]) (v := sI_ fbal i) hx hb hr hlk hK hS rfl () hP hD (show sI_ fbal i = sI_ fbal 10 from by rw [show i = 10 by omega]) dX0_allBalances_26
  · have c_7 := qq_nge (a := i) (b := 10) c_7 (by omega) (by omega)
    refine lv_iload_n hx hb dX0_allBalances_10 rfl (lv_at hl 1 rfl) ?_
    refine lv_aload_n hx hb dX0_allBalances_11 rfl (lv_at hl 0 rfl) ?_
    refine va_get (ci := 0) (v := .ref bal) (C := RX0) (T := TX0) (N := 5) hx hb hts bi_0 hown hK hP 0 rfl rfl 2 (by decide) (hts _ bw_27) (fun _ h9 => h9) rfl dX0_allBalances_12 ?_
    refine lv_iload_n hx hb dX0_allBalances_15 rfl (lv_at hl 2 rfl) ?_
    refine ar_ld hx hb hK hP 1 (k := i) rfl rfl (by omega) (by decide) dX0_allBalances_16 ?_
    refine lv_iadd hx hb dX0_allBalances_17 ?_
    refine lv_istore_n (lv' := [(1, .int ((sI_ fbal i) + (fbal i))), (0, .ref bk), (2, .int (nI i))]) hx hb dX0_allBalances_18 rfl hl (by decide) rfl (fun ls hl => ?_)
    refine lv_iinc (v := nI (i + 1)) (lv' := [(2, .int (nI (i + 1))), (1, .int ((sI_ fbal i) + (fbal i))), (0, .ref bk)]) hx hb dX0_allBalances_19 hl (k := 2) rfl (nI_1 _) (by decide) rfl (fun ls hl => ?_)
    refine lv_goto (tgt := 4) hx hb dX0_allBalances_22 (by decide) ?_
    have hl := lv_sub (l' := [(0, .ref bk), (1, .int ((sI_ fbal i) + (fbal i))), (2, .int (nI (i + 1)))]) hl [2, 1, 0] rfl
    have q_3 : (sI_ fbal i) + (fbal i) = sI_ fbal (i + 1) := rfl
    have hl := cs_L (fun z_z => [(0, .ref bk), (1, .int z_z), (2, .int (nI (i + 1)))]) q_3 hl
    have hl : lv_has ls 3 [(0, .ref bk), (1, .int (sI_ fbal (i + 1))), (2, .int (nI (i + 1)))] := hl
    exact ih_4 (i + 1) (show 10 - (i + 1) < 10 - i from by omega) (show ((i + 1) ≤ 10) from by omega) H locs ls hP hD hS hl

set_option maxHeartbeats 4000000 in
set_option maxRecDepth 100000 in
theorem k_X0_allStakes (l : Launch) (D : va_G) (cI cJ cZ : ClassId) (bk : Nat) (stk : Nat) (funded : Int32) (rewarded : Int32) (bal : Nat) (due : Nat) (fstk : Nat → Int32)  : mt_I l yX0_allStakes cX0_allStakes 3 .int 2 44 D cI cJ cZ [ob_J bk 0 [.int funded, .int rewarded, .ref bal, .ref stk, .ref due], ar_I stk cI 80 fstk] [.ref bk] (fun r (u_u : Unit) => r = sI_ (fun jn => sI_ (fun a => fstk (jn * 10 + a)) 10) 8) (fun u_u : Unit => [ob_J bk 0 [.int funded, .int rewarded, .ref bal, .ref stk, .ref due], ar_I stk cI 80 fstk]) := by
  refine en_I (by decide) (Nat.le_of_ble_eq_true rfl) ?_
  intro p e s m below meth c A ls H locs hx hb hr hml hts hown hlk hN hK hA hP hD hS hl
  have hown : s.vm.findClass RX0 = some m.cls := hown
  have hl : lv_has ls 3 [(0, .ref bk)] := hl
  refine lv_iconst (v := 0) hx hb dX0_allStakes_0 (by decide) ?_
  refine lv_istore_n (lv' := [(1, .int 0), (0, .ref bk)]) hx hb dX0_allStakes_1 rfl hl (by decide) rfl (fun ls hl => ?_)
  refine lv_iconst (v := 0) hx hb dX0_allStakes_2 (by decide) ?_
  refine lv_istore_n (lv' := [(2, .int 0), (1, .int 0), (0, .ref bk)]) hx hb dX0_allStakes_3 rfl hl (by decide) rfl (fun ls hl => ?_)
  have hl := lv_sub (l' := [(0, .ref bk), (1, .int 0), (2, .int 0)]) hl [2, 1, 0] rfl
  have q_1 : 0 = sI_ (fun jn => sI_ (fun a => fstk (jn * 10 + a)) 10) 0 := rfl
  have hl := cs_L (fun z_z => [(0, .ref bk), (1, .int z_z), (2, .int 0)]) q_1 hl
  have q_2 : 0 = nI 0 := rfl
  have hl := cs_L (fun z_z => [(0, .ref bk), (1, .int (sI_ (fun jn => sI_ (fun a => fstk (jn * 10 + a)) 10) 0)), (2, .int z_z)]) q_2 hl
  have hl : lv_has ls 3 [(0, .ref bk), (1, .int (sI_ (fun jn => sI_ (fun a => fstk (jn * 10 + a)) 10) 0)), (2, .int (nI 0))] := hl
  refine lp_g (σ := Nat) (fun i => 8 - i) (fun i => [ob_J bk 0 [.int funded, .int rewarded, .ref bal, .ref stk, .ref due], ar_I stk cI 80 fstk]) (fun i => [(0, .ref bk), (1, .int (sI_ (fun jn => sI_ (fun a => fstk (jn * 10 + a)) 10) i)), (2, .int (nI i))]) (fun i => (i ≤ 8)) ?_ 0 (show (0 ≤ 8) from by omega) hP hD hS hl
  intro i H locs ls hF hP hD hS hl ih_4
  have hF : (i ≤ 8) := hF
  have hi := hF
  have hP : va_P D cl_A [ob_J bk 0 [.int funded, .int rewarded, .ref bal, .ref stk, .ref due], ar_I stk cI 80 fstk] H := hP
  have hD : va_D A [ob_J bk 0 [.int funded, .int rewarded, .ref bal, .ref stk, .ref due], ar_I stk cI 80 fstk] := hD
  have hl : lv_has ls 3 [(0, .ref bk), (1, .int (sI_ (fun jn => sI_ (fun a => fstk (jn * 10 + a)) 10) i)), (2, .int (nI i))] := hl
  refine lv_iload_n hx hb dX0_allStakes_4 rfl (lv_at hl 2 rfl) ?_
  refine lv_bipush (v := 8) hx hb dX0_allStakes_5 (by decide) ?_
  refine lv_icmp_ge (tgt := 24) hx hb dX0_allStakes_7 (by decide) (fun c_7 => ?_) (fun c_7 => ?_)
  · have c_7 := qq_ge (a := i) (b := 8) c_7 (by omega) (by omega)
    refine lv_iload_n hx hb dX0_allStakes_24 rfl (lv_at hl 1 rfl) ?_
    exact re_I (w1 := fun u_u : Unit => [ob_J bk 0 [.int funded, .int rewarded, .ref bal, .ref stk, .ref due], ar_I stk cI 80 fstk]) (v := sI_ (fun jn => sI_ (fun a => fstk (jn * 10 + a)) 10) i) hx hb hr hlk hK hS rfl () hP hD (show sI_ (fun jn => sI_ (fun a => fstk (jn * 10 + a)) 10) i = sI_ (fun jn => sI_ (fun a => fstk (jn * 10 + a)) 10) 8 from by rw [show i = 8 by omega]) dX0_allStakes_25
  · have c_7 := qq_nge (a := i) (b := 8) c_7 (by omega) (by omega)
    refine lv_iload_n hx hb dX0_allStakes_10 rfl (lv_at hl 1 rfl) ?_
    refine lv_aload_n hx hb dX0_allStakes_11 rfl (lv_at hl 0 rfl) ?_
    refine lv_iload_n hx hb dX0_allStakes_12 rfl (lv_at hl 2 rfl) ?_
    refine ca_VI (rest := [.int (sI_ (fun jn => sI_ (fun a => fstk (jn * 10 + a)) 10) i)]) (wr := []) (w2 := fun u_u => [ob_J bk 0 [.int funded, .int rewarded, .ref bal, .ref stk, .ref due], ar_I stk cI 80 fstk]) (k_X0_stakesOfNode l D cI cJ cZ bk stk funded rewarded bal due fstk i (by first | assumption | omega)) hx hb hml hown hts hN hK hA hP hD hS 0 0 rfl rfl bw_392 bw_269 bw_270 bw_2 bw_271 1 rfl (by decide +kernel) ⟨by decide, by decide⟩ [0, 1] [] [0, 1] rfl rfl (by decide) (fun _ => rfl) hl.1 rfl (Nat.le_of_ble_eq_true rfl) dX0_allStakes_13 ⟨Nat.zero_le _, Nat.zero_le _⟩ (fun r_13 u_u H locs w_13 hP hD hS => ?_)
    have hP : va_P D cl_A [ob_J bk 0 [.int funded, .int rewarded, .ref bal, .ref stk, .ref due], ar_I stk cI 80 fstk] H := hP
    have hD : va_D A [ob_J bk 0 [.int funded, .int rewarded, .ref bal, .ref stk, .ref due], ar_I stk cI 80 fstk] := hD
    have w_13 : r_13 = sI_ (fun a => fstk (i * 10 + a)) 10 := w_13
    subst w_13
    refine lv_iadd hx hb dX0_allStakes_16 ?_
    refine lv_istore_n (lv' := [(1, .int ((sI_ (fun jn => sI_ (fun a => fstk (jn * 10 + a)) 10) i) + (sI_ (fun a => fstk (i * 10 + a)) 10))), (0, .ref bk), (2, .int (nI i))]) hx hb dX0_allStakes_17 rfl hl (by decide) rfl (fun ls hl => ?_)
    refine lv_iinc (v := nI (i + 1)) (lv' := [(2, .int (nI (i + 1))), (1, .int ((sI_ (fun jn => sI_ (fun a => fstk (jn * 10 + a)) 10) i) + (sI_ (fun a => fstk (i * 10 + a)) 10))), (0, .ref bk)]) hx hb dX0_allStakes_18 hl (k := 2) rfl (nI_1 _) (by decide) rfl (fun ls hl => ?_)
    refine lv_goto (tgt := 4) hx hb dX0_allStakes_21 (by decide) ?_
    have hl := lv_sub (l' := [(0, .ref bk), (1, .int ((sI_ (fun jn => sI_ (fun a => fstk (jn * 10 + a)) 10) i) + (sI_ (fun a => fstk (i * 10 + a)) 10))), (2, .int (nI (i + 1)))]) hl [2, 1, 0] rfl
    have q_3 : (sI_ (fun jn => sI_ (fun a => fstk (jn * 10 + a)) 10) i) + (sI_ (fun a => fstk (i * 10 + a)) 10) = sI_ (fun jn => sI_ (fun a => fstk (jn * 10 + a)) 10) (i + 1) := rfl
    have hl := cs_L (fun z_z => [(0, .ref bk), (1, .int z_z), (2, .int (nI (i + 1)))]) q_3 hl
    have hl : lv_has ls 3 [(0, .ref bk), (1, .int (sI_ (fun jn => sI_ (fun a => fstk (jn * 10 + a)) 10) (i + 1))), (2, .int (nI (i + 1)))] := hl
    exact ih_4 (i + 1) (show 8 - (i + 1) < 8 - i from by omega) (show ((i + 1) ≤ 8) from by omega) H locs ls hP hD hS hl

set_option maxHeartbeats 4000000 in
set_option maxRecDepth 100000 in
theorem k_X0_allDue (l : Launch) (D : va_G) (cI cJ cZ : ClassId) (bk : Nat) (due : Nat) (funded : Int32) (rewarded : Int32) (bal : Nat) (stk : Nat) (fdue : Nat → Int32)  : mt_I l yX0_allDue cX0_allDue 3 .int 2 44 D cI cJ cZ [ob_J bk 0 [.int funded, .int rewarded, .ref bal, .ref stk, .ref due], ar_I due cI 1100 fdue] [.ref bk] (fun r (u_u : Unit) => r = sI_ (fun ia => sI_ (fun k => fdue (ia * 110 + (k + 1))) 109) 10) (fun u_u : Unit => [ob_J bk 0 [.int funded, .int rewarded, .ref bal, .ref stk, .ref due], ar_I due cI 1100 fdue]) := by
  refine en_I (by decide) (Nat.le_of_ble_eq_true rfl) ?_
  intro p e s m below meth c A ls H locs hx hb hr hml hts hown hlk hN hK hA hP hD hS hl
  have hown : s.vm.findClass RX0 = some m.cls := hown
  have hl : lv_has ls 3 [(0, .ref bk)] := hl
  refine lv_iconst (v := 0) hx hb dX0_allDue_0 (by decide) ?_
  refine lv_istore_n (lv' := [(1, .int 0), (0, .ref bk)]) hx hb dX0_allDue_1 rfl hl (by decide) rfl (fun ls hl => ?_)
  refine lv_iconst (v := 0) hx hb dX0_allDue_2 (by decide) ?_
  refine lv_istore_n (lv' := [(2, .int 0), (1, .int 0), (0, .ref bk)]) hx hb dX0_allDue_3 rfl hl (by decide) rfl (fun ls hl => ?_)
  have hl := lv_sub (l' := [(0, .ref bk), (1, .int 0), (2, .int 0)]) hl [2, 1, 0] rfl
  have q_1 : 0 = sI_ (fun ia => sI_ (fun k => fdue (ia * 110 + (k + 1))) 109) 0 := rfl
  have hl := cs_L (fun z_z => [(0, .ref bk), (1, .int z_z), (2, .int 0)]) q_1 hl
  have q_2 : 0 = nI 0 := rfl
  have hl := cs_L (fun z_z => [(0, .ref bk), (1, .int (sI_ (fun ia => sI_ (fun k => fdue (ia * 110 + (k + 1))) 109) 0)), (2, .int z_z)]) q_2 hl
  have hl : lv_has ls 3 [(0, .ref bk), (1, .int (sI_ (fun ia => sI_ (fun k => fdue (ia * 110 + (k + 1))) 109) 0)), (2, .int (nI 0))] := hl
  refine lp_g (σ := Nat) (fun i => 10 - i) (fun i => [ob_J bk 0 [.int funded, .int rewarded, .ref bal, .ref stk, .ref due], ar_I due cI 1100 fdue]) (fun i => [(0, .ref bk), (1, .int (sI_ (fun ia => sI_ (fun k => fdue (ia * 110 + (k + 1))) 109) i)), (2, .int (nI i))]) (fun i => (i ≤ 10)) ?_ 0 (show (0 ≤ 10) from by omega) hP hD hS hl
  intro i H locs ls hF hP hD hS hl ih_4
  have hF : (i ≤ 10) := hF
  have hi := hF
  have hP : va_P D cl_A [ob_J bk 0 [.int funded, .int rewarded, .ref bal, .ref stk, .ref due], ar_I due cI 1100 fdue] H := hP
  have hD : va_D A [ob_J bk 0 [.int funded, .int rewarded, .ref bal, .ref stk, .ref due], ar_I due cI 1100 fdue] := hD
  have hl : lv_has ls 3 [(0, .ref bk), (1, .int (sI_ (fun ia => sI_ (fun k => fdue (ia * 110 + (k + 1))) 109) i)), (2, .int (nI i))] := hl
  refine lv_iload_n hx hb dX0_allDue_4 rfl (lv_at hl 2 rfl) ?_
  refine lv_bipush (v := 10) hx hb dX0_allDue_5 (by decide) ?_
  refine lv_icmp_ge (tgt := 24) hx hb dX0_allDue_7 (by decide) (fun c_7 => ?_) (fun c_7 => ?_)
  · have c_7 := qq_ge (a := i) (b := 10) c_7 (by omega) (by omega)
    refine lv_iload_n hx hb dX0_allDue_24 rfl (lv_at hl 1 rfl) ?_
    exact re_I (w1 := fun u_u : Unit => [ob_J bk 0 [.int funded, .int rewarded, .ref bal, .ref stk, .ref due], ar_I due cI 1100 fdue]) (v := sI_ (fun ia => sI_ (fun k => fdue (ia * 110 + (k + 1))) 109) i) hx hb hr hlk hK hS rfl () hP hD (show sI_ (fun ia => sI_ (fun k => fdue (ia * 110 + (k + 1))) 109) i = sI_ (fun ia => sI_ (fun k => fdue (ia * 110 + (k + 1))) 109) 10 from by rw [show i = 10 by omega]) dX0_allDue_25
  · have c_7 := qq_nge (a := i) (b := 10) c_7 (by omega) (by omega)
    refine lv_iload_n hx hb dX0_allDue_10 rfl (lv_at hl 1 rfl) ?_
    refine lv_aload_n hx hb dX0_allDue_11 rfl (lv_at hl 0 rfl) ?_
    refine lv_iload_n hx hb dX0_allDue_12 rfl (lv_at hl 2 rfl) ?_
    refine ca_VI (rest := [.int (sI_ (fun ia => sI_ (fun k => fdue (ia * 110 + (k + 1))) 109) i)]) (wr := []) (w2 := fun u_u => [ob_J bk 0 [.int funded, .int rewarded, .ref bal, .ref stk, .ref due], ar_I due cI 1100 fdue]) (k_X0_dueOfAccount l D cI cJ cZ bk due funded rewarded bal stk fdue i (by first | assumption | omega)) hx hb hml hown hts hN hK hA hP hD hS 0 0 rfl rfl bw_397 bw_298 bw_299 bw_2 bw_300 1 rfl (by decide +kernel) ⟨by decide, by decide⟩ [0, 1] [] [0, 1] rfl rfl (by decide) (fun _ => rfl) hl.1 rfl (Nat.le_of_ble_eq_true rfl) dX0_allDue_13 ⟨Nat.zero_le _, Nat.zero_le _⟩ (fun r_13 u_u H locs w_13 hP hD hS => ?_)
    have hP : va_P D cl_A [ob_J bk 0 [.int funded, .int rewarded, .ref bal, .ref stk, .ref due], ar_I due cI 1100 fdue] H := hP
    have hD : va_D A [ob_J bk 0 [.int funded, .int rewarded, .ref bal, .ref stk, .ref due], ar_I due cI 1100 fdue] := hD
    have w_13 : r_13 = sI_ (fun k => fdue (i * 110 + (k + 1))) 109 := w_13
    subst w_13
    refine lv_iadd hx hb dX0_allDue_16 ?_
    refine lv_istore_n (lv' := [(1, .int ((sI_ (fun ia => sI_ (fun k => fdue (ia * 110 + (k + 1))) 109) i) + (sI_ (fun k => fdue (i * 110 + (k + 1))) 109))), (0, .ref bk), (2, .int (nI i))]) hx hb dX0_allDue_17 rfl hl (by decide) rfl (fun ls hl => ?_)
    refine lv_iinc (v := nI (i + 1)) (lv' := [(2, .int (nI (i + 1))), (1, .int ((sI_ (fun ia => sI_ (fun k => fdue (ia * 110 + (k + 1))) 109) i) + (sI_ (fun k => fdue (i * 110 + (k + 1))) 109))), (0, .ref bk)]) hx hb dX0_allDue_18 hl (k := 2) rfl (nI_1 _) (by decide) rfl (fun ls hl => ?_)
    refine lv_goto (tgt := 4) hx hb dX0_allDue_21 (by decide) ?_
    have hl := lv_sub (l' := [(0, .ref bk), (1, .int ((sI_ (fun ia => sI_ (fun k => fdue (ia * 110 + (k + 1))) 109) i) + (sI_ (fun k => fdue (i * 110 + (k + 1))) 109))), (2, .int (nI (i + 1)))]) hl [2, 1, 0] rfl
    have q_3 : (sI_ (fun ia => sI_ (fun k => fdue (ia * 110 + (k + 1))) 109) i) + (sI_ (fun k => fdue (i * 110 + (k + 1))) 109) = sI_ (fun ia => sI_ (fun k => fdue (ia * 110 + (k + 1))) 109) (i + 1) := rfl
    have hl := cs_L (fun z_z => [(0, .ref bk), (1, .int z_z), (2, .int (nI (i + 1)))]) q_3 hl
    have hl : lv_has ls 3 [(0, .ref bk), (1, .int (sI_ (fun ia => sI_ (fun k => fdue (ia * 110 + (k + 1))) 109) (i + 1))), (2, .int (nI (i + 1)))] := hl
    exact ih_4 (i + 1) (show 10 - (i + 1) < 10 - i from by omega) (show ((i + 1) ≤ 10) from by omega) H locs ls hP hD hS hl

set_option maxHeartbeats 4000000 in
set_option maxRecDepth 100000 in
theorem k_X1_has (l : Launch) (D : va_G) (cI cJ cZ : ClassId) (nd : Nat) (sz : Nat) (kp : Nat) (ct : Nat) (sa : Nat) (la : Nat) (fz : Nat) (n : Int32)  : mt_I l yX1_has cX1_has 2 .boolean 0 0 D cI cJ cZ [ob_J nd 1 [.int (nI sz), .ref kp, .ref ct, .ref sa, .ref la, .ref fz]] [.ref nd, .int n] (fun r (_ : Unit) => r = if 0 ≤ n ∧ n < nI sz then 1 else 0) (fun u_u : Unit => [ob_J nd 1 [.int (nI sz), .ref kp, .ref ct, .ref sa, .ref la, .ref fz]]) := by
  refine en_I (by decide) (Nat.le_of_ble_eq_true rfl) ?_
  intro p e s m below meth c A ls H locs hx hb hr hml hts hown hlk hN hK hA hP hD hS hl
  have hown : s.vm.findClass RX1 = some m.cls := hown
  have hl : lv_has ls 2 [(0, .ref nd), (1, .int n)] := hl
  refine lv_iload_n hx hb dX1_has_0 rfl (lv_at hl 1 rfl) ?_
  refine lv_if_lt (tgt := 16) hx hb dX1_has_1 (by decide) (fun c_1 => ?_) (fun c_1 => ?_)
  · refine lv_iconst (v := 0) hx hb dX1_has_16 (by decide) ?_
    exact re_I (w1 := fun u_u : Unit => [ob_J nd 1 [.int (nI sz), .ref kp, .ref ct, .ref sa, .ref la, .ref fz]]) (v := 0) hx hb hr hlk hK hS rfl () hP hD (show _ = if 0 ≤ n ∧ n < nI sz then _ else _ from (if_neg (fun z => absurd z.1 (Int32.not_le.mpr c_1))).symm) dX1_has_17
  · refine lv_iload_n hx hb dX1_has_4 rfl (lv_at hl 1 rfl) ?_
    refine lv_aload_n hx hb dX1_has_5 rfl (lv_at hl 0 rfl) ?_
    refine va_get (ci := 1) (v := .int (nI sz)) (C := RX1) (T := TX1) (N := 6) hx hb hts bi_1 hown hK hP 0 rfl rfl 0 (by decide) (hts _ bw_51) (fun _ h9 => h9) rfl dX1_has_6 ?_
    refine lv_icmp_ge (tgt := 16) hx hb dX1_has_9 (by decide) (fun c_9 => ?_) (fun c_9 => ?_)
    · refine lv_iconst (v := 0) hx hb dX1_has_16 (by decide) ?_
      exact re_I (w1 := fun u_u : Unit => [ob_J nd 1 [.int (nI sz), .ref kp, .ref ct, .ref sa, .ref la, .ref fz]]) (v := 0) hx hb hr hlk hK hS rfl () hP hD (show _ = if 0 ≤ n ∧ n < nI sz then _ else _ from (if_neg (fun z => absurd z.2 (Int32.not_lt.mpr c_9))).symm) dX1_has_17
    · refine lv_iconst (v := 1) hx hb dX1_has_12 (by decide) ?_
      refine lv_goto (tgt := 17) hx hb dX1_has_13 (by decide) ?_
      exact re_I (w1 := fun u_u : Unit => [ob_J nd 1 [.int (nI sz), .ref kp, .ref ct, .ref sa, .ref la, .ref fz]]) (v := 1) hx hb hr hlk hK hS rfl () hP hD (show _ = if 0 ≤ n ∧ n < nI sz then _ else _ from (if_pos ⟨Int32.not_lt.mp c_1, Int32.not_le.mp c_9⟩).symm) dX1_has_17

set_option maxHeartbeats 4000000 in
set_option maxRecDepth 100000 in
theorem k_X1_haveAll (l : Launch) (D : va_G) (cI cJ cZ : ClassId) (nd : Nat) (sz : Nat) (kp : Nat) (ct : Nat) (sa : Nat) (la : Nat) (fz : Nat) (bits : Int32)  : mt_I l yX1_haveAll cX1_haveAll 2 .boolean 0 0 D cI cJ cZ [ob_J nd 1 [.int (nI sz), .ref kp, .ref ct, .ref sa, .ref la, .ref fz]] [.ref nd, .int bits] (fun r (_ : Unit) => r = if (bits.toUInt32 >>> ((nI sz).toUInt32 &&& Int32.toUInt32 31)).toInt32 = 0 then 1 else 0) (fun u_u : Unit => [ob_J nd 1 [.int (nI sz), .ref kp, .ref ct, .ref sa, .ref la, .ref fz]]) := by
  refine en_I (by decide) (Nat.le_of_ble_eq_true rfl) ?_
  intro p e s m below meth c A ls H locs hx hb hr hml hts hown hlk hN hK hA hP hD hS hl
  have hown : s.vm.findClass RX1 = some m.cls := hown
  have hl : lv_has ls 2 [(0, .ref nd), (1, .int bits)] := hl
  refine lv_iload_n hx hb dX1_haveAll_0 rfl (lv_at hl 1 rfl) ?_
  refine lv_aload_n hx hb dX1_haveAll_1 rfl (lv_at hl 0 rfl) ?_
  refine va_get (ci := 1) (v := .int (nI sz)) (C := RX1) (T := TX1) (N := 6) hx hb hts bi_1 hown hK hP 0 rfl rfl 0 (by decide) (hts _ bw_51) (fun _ h9 => h9) rfl dX1_haveAll_2 ?_
  refine lv_iushr hx hb dX1_haveAll_5 rfl ?_
  refine lv_if_ne (tgt := 13) hx hb dX1_haveAll_6 (by decide) (fun c_6 => ?_) (fun c_6 => ?_)
  · refine lv_iconst (v := 0) hx hb dX1_haveAll_13 (by decide) ?_
    exact re_I (w1 := fun u_u : Unit => [ob_J nd 1 [.int (nI sz), .ref kp, .ref ct, .ref sa, .ref la, .ref fz]]) (v := 0) hx hb hr hlk hK hS rfl () hP hD (show _ = if (bits.toUInt32 >>> ((nI sz).toUInt32 &&& Int32.toUInt32 31)).toInt32 = 0 then _ else _ from by simp [c_6]) dX1_haveAll_14
  · refine lv_iconst (v := 1) hx hb dX1_haveAll_9 (by decide) ?_
    refine lv_goto (tgt := 14) hx hb dX1_haveAll_10 (by decide) ?_
    exact re_I (w1 := fun u_u : Unit => [ob_J nd 1 [.int (nI sz), .ref kp, .ref ct, .ref sa, .ref la, .ref fz]]) (v := 1) hx hb hr hlk hK hS rfl () hP hD (show _ = if (bits.toUInt32 >>> ((nI sz).toUInt32 &&& Int32.toUInt32 31)).toInt32 = 0 then _ else _ from by simp [c_6]) dX1_haveAll_14

set_option maxHeartbeats 4000000 in
set_option maxRecDepth 100000 in
theorem k_X1_counts (l : Launch) (D : va_G) (cI cJ cZ : ClassId) (nd : Nat) (sa : Nat) (fz : Nat) (sz : Nat) (kp : Nat) (ct : Nat) (la : Nat) (fsa : Nat → Int32) (ffz : Nat → Int32) (jn : Nat) (hj : jn < 8) : mt_I l yX1_counts cX1_counts 2 .boolean 0 0 D cI cJ cZ [ob_J nd 1 [.int (nI sz), .ref kp, .ref ct, .ref sa, .ref la, .ref fz], ar_I sa cI 8 fsa, ar_I fz cZ 8 ffz] [.ref nd, .int (nI jn)] (fun r (_ : Unit) => r = if (fsa jn = 2 ∨ fsa jn = 3) ∧ ffz jn = 0 then 1 else 0) (fun u_u : Unit => [ob_J nd 1 [.int (nI sz), .ref kp, .ref ct, .ref sa, .ref la, .ref fz], ar_I sa cI 8 fsa, ar_I fz cZ 8 ffz]) := by
  refine en_I (by decide) (Nat.le_of_ble_eq_true rfl) ?_
  intro p e s m below meth c A ls H locs hx hb hr hml hts hown hlk hN hK hA hP hD hS hl
  have hown : s.vm.findClass RX1 = some m.cls := hown
  have hl : lv_has ls 2 [(0, .ref nd), (1, .int (nI jn))] := hl
  refine lv_aload_n hx hb dX1_counts_0 rfl (lv_at hl 0 rfl) ?_
  refine va_get (ci := 1) (v := .ref sa) (C := RX1) (T := TX1) (N := 6) hx hb hts bi_1 hown hK hP 0 rfl rfl 3 (by decide) (hts _ bw_57) (fun _ h9 => h9) rfl dX1_counts_1 ?_
  refine lv_iload_n hx hb dX1_counts_4 rfl (lv_at hl 1 rfl) ?_
  refine ar_ld hx hb hK hP 1 (k := jn) rfl rfl (by omega) (by decide) dX1_counts_5 ?_
  refine lv_iconst (v := 2) hx hb dX1_counts_6 (by decide) ?_
  refine lv_icmp_eq (tgt := 20) hx hb dX1_counts_7 (by decide) (fun c_7 => ?_) (fun c_7 => ?_)
  · refine lv_aload_n hx hb dX1_counts_20 rfl (lv_at hl 0 rfl) ?_
    refine va_get (ci := 1) (v := .ref fz) (C := RX1) (T := TX1) (N := 6) hx hb hts bi_1 hown hK hP 0 rfl rfl 5 (by decide) (hts _ bw_61) (fun _ h9 => h9) rfl dX1_counts_21 ?_
    refine lv_iload_n hx hb dX1_counts_24 rfl (lv_at hl 1 rfl) ?_
    refine ar_zd hx hb hK hP 2 (k := jn) rfl rfl (by omega) (by decide) dX1_counts_25 ?_
    refine lv_if_ne (tgt := 33) hx hb dX1_counts_26 (by decide) (fun c_26 => ?_) (fun c_26 => ?_)
    · refine lv_iconst (v := 0) hx hb dX1_counts_33 (by decide) ?_
      exact re_I (w1 := fun u_u : Unit => [ob_J nd 1 [.int (nI sz), .ref kp, .ref ct, .ref sa, .ref la, .ref fz], ar_I sa cI 8 fsa, ar_I fz cZ 8 ffz]) (v := 0) hx hb hr hlk hK hS rfl () hP hD (show _ = if (fsa jn = 2 ∨ fsa jn = 3) ∧ ffz jn = 0 then _ else _ from by simp [c_7, c_26]) dX1_counts_34
    · refine lv_iconst (v := 1) hx hb dX1_counts_29 (by decide) ?_
      refine lv_goto (tgt := 34) hx hb dX1_counts_30 (by decide) ?_
      exact re_I (w1 := fun u_u : Unit => [ob_J nd 1 [.int (nI sz), .ref kp, .ref ct, .ref sa, .ref la, .ref fz], ar_I sa cI 8 fsa, ar_I fz cZ 8 ffz]) (v := 1) hx hb hr hlk hK hS rfl () hP hD (show _ = if (fsa jn = 2 ∨ fsa jn = 3) ∧ ffz jn = 0 then _ else _ from by simp [c_7, c_26]) dX1_counts_34
  · refine lv_aload_n hx hb dX1_counts_10 rfl (lv_at hl 0 rfl) ?_
    refine va_get (ci := 1) (v := .ref sa) (C := RX1) (T := TX1) (N := 6) hx hb hts bi_1 hown hK hP 0 rfl rfl 3 (by decide) (hts _ bw_57) (fun _ h9 => h9) rfl dX1_counts_11 ?_
    refine lv_iload_n hx hb dX1_counts_14 rfl (lv_at hl 1 rfl) ?_
    refine ar_ld hx hb hK hP 1 (k := jn) rfl rfl (by omega) (by decide) dX1_counts_15 ?_
    refine lv_iconst (v := 3) hx hb dX1_counts_16 (by decide) ?_
    refine lv_icmp_ne (tgt := 33) hx hb dX1_counts_17 (by decide) (fun c_17 => ?_) (fun c_17 => ?_)
    · refine lv_iconst (v := 0) hx hb dX1_counts_33 (by decide) ?_
      exact re_I (w1 := fun u_u : Unit => [ob_J nd 1 [.int (nI sz), .ref kp, .ref ct, .ref sa, .ref la, .ref fz], ar_I sa cI 8 fsa, ar_I fz cZ 8 ffz]) (v := 0) hx hb hr hlk hK hS rfl () hP hD (show _ = if (fsa jn = 2 ∨ fsa jn = 3) ∧ ffz jn = 0 then _ else _ from by simp [c_7, c_17]) dX1_counts_34
    · refine lv_aload_n hx hb dX1_counts_20 rfl (lv_at hl 0 rfl) ?_
      refine va_get (ci := 1) (v := .ref fz) (C := RX1) (T := TX1) (N := 6) hx hb hts bi_1 hown hK hP 0 rfl rfl 5 (by decide) (hts _ bw_61) (fun _ h9 => h9) rfl dX1_counts_21 ?_
      refine lv_iload_n hx hb dX1_counts_24 rfl (lv_at hl 1 rfl) ?_
      refine ar_zd hx hb hK hP 2 (k := jn) rfl rfl (by omega) (by decide) dX1_counts_25 ?_
      refine lv_if_ne (tgt := 33) hx hb dX1_counts_26 (by decide) (fun c_26 => ?_) (fun c_26 => ?_)
      · refine lv_iconst (v := 0) hx hb dX1_counts_33 (by decide) ?_
        exact re_I (w1 := fun u_u : Unit => [ob_J nd 1 [.int (nI sz), .ref kp, .ref ct, .ref sa, .ref la, .ref fz], ar_I sa cI 8 fsa, ar_I fz cZ 8 ffz]) (v := 0) hx hb hr hlk hK hS rfl () hP hD (show _ = if (fsa jn = 2 ∨ fsa jn = 3) ∧ ffz jn = 0 then _ else _ from by simp [c_7, c_17, c_26]) dX1_counts_34
      · refine lv_iconst (v := 1) hx hb dX1_counts_29 (by decide) ?_
        refine lv_goto (tgt := 34) hx hb dX1_counts_30 (by decide) ?_
        exact re_I (w1 := fun u_u : Unit => [ob_J nd 1 [.int (nI sz), .ref kp, .ref ct, .ref sa, .ref la, .ref fz], ar_I sa cI 8 fsa, ar_I fz cZ 8 ffz]) (v := 1) hx hb hr hlk hK hS rfl () hP hD (show _ = if (fsa jn = 2 ∨ fsa jn = 3) ∧ ffz jn = 0 then _ else _ from by simp [c_7, c_17, c_26]) dX1_counts_34

set_option maxHeartbeats 4000000 in
set_option maxRecDepth 100000 in
theorem k_X1_open (l : Launch) (D : va_G) (cI cJ cZ : ClassId) (nd : Nat) (kp : Nat) (ct : Nat) (sa : Nat) (la : Nat) (sz : Nat) (fz : Nat) (fkp : Nat → Int32) (fct : Nat → Int32) (fsa : Nat → Int32) (fla : Nat → Int32) (k : Int32) (c_ : Int32) (hz : sz < 8) : mt_I l yX1_open cX1_open 4 .int 0 0 D cI cJ cZ [ob_J nd 1 [.int (nI sz), .ref kp, .ref ct, .ref sa, .ref la, .ref fz], ar_I kp cI 8 fkp, ar_I ct cI 8 fct, ar_I sa cI 8 fsa, ar_I la cI 8 fla] [.ref nd, .int k, .int c_] (fun r (u_u : Unit) => r = nI sz) (fun u_u : Unit => [ob_J nd 1 [.int (nI (sz + 1)), .ref kp, .ref ct, .ref sa, .ref la, .ref fz], ar_I kp cI 8 (upd fkp sz k), ar_I ct cI 8 (upd fct sz c_), ar_I sa cI 8 (upd fsa sz 0), ar_I la cI 8 (upd fla sz (-2))]) := by
  refine en_I (by decide) (Nat.le_of_ble_eq_true rfl) ?_
  intro p e s m below meth c A ls H locs hx hb hr hml hts hown hlk hN hK hA hP hD hS hl
  have hown : s.vm.findClass RX1 = some m.cls := hown
  have hl : lv_has ls 4 [(0, .ref nd), (1, .int k), (2, .int c_)] := hl
  refine lv_aload_n hx hb dX1_open_0 rfl (lv_at hl 0 rfl) ?_
  refine va_get (ci := 1) (v := .int (nI sz)) (C := RX1) (T := TX1) (N := 6) hx hb hts bi_1 hown hK hP 0 rfl rfl 0 (by decide) (hts _ bw_51) (fun _ h9 => h9) rfl dX1_open_1 ?_
  refine lv_istore_n (lv' := [(3, .int (nI sz)), (0, .ref nd), (1, .int k), (2, .int c_)]) hx hb dX1_open_4 rfl hl (by decide) rfl (fun ls hl => ?_)
  refine lv_aload_n hx hb dX1_open_5 rfl (lv_at hl 1 rfl) ?_
  refine va_get (ci := 1) (v := .ref kp) (C := RX1) (T := TX1) (N := 6) hx hb hts bi_1 hown hK hP 0 rfl rfl 1 (by decide) (hts _ bw_53) (fun _ h9 => h9) rfl dX1_open_6 ?_
  refine lv_iload_n hx hb dX1_open_9 rfl (lv_at hl 0 rfl) ?_
  refine lv_iload_n hx hb dX1_open_10 rfl (lv_at hl 2 rfl) ?_
  refine ar_st hx hb hK hP hD hS 1 (k := sz) rfl rfl (by omega) (by decide) dX1_open_11 _ rfl (fun H locs hP hD hS => ?_)
  have hP : va_P D cl_A [ob_J nd 1 [.int (nI sz), .ref kp, .ref ct, .ref sa, .ref la, .ref fz], ar_I kp cI 8 (upd fkp sz k), ar_I ct cI 8 fct, ar_I sa cI 8 fsa, ar_I la cI 8 fla] H := hP
  have hD : va_D A [ob_J nd 1 [.int (nI sz), .ref kp, .ref ct, .ref sa, .ref la, .ref fz], ar_I kp cI 8 (upd fkp sz k), ar_I ct cI 8 fct, ar_I sa cI 8 fsa, ar_I la cI 8 fla] := hD
  refine lv_aload_n hx hb dX1_open_12 rfl (lv_at hl 1 rfl) ?_
  refine va_get (ci := 1) (v := .ref ct) (C := RX1) (T := TX1) (N := 6) hx hb hts bi_1 hown hK hP 0 rfl rfl 2 (by decide) (hts _ bw_55) (fun _ h9 => h9) rfl dX1_open_13 ?_
  refine lv_iload_n hx hb dX1_open_16 rfl (lv_at hl 0 rfl) ?_
  refine lv_iload_n hx hb dX1_open_17 rfl (lv_at hl 3 rfl) ?_
  refine ar_st hx hb hK hP hD hS 2 (k := sz) rfl rfl (by omega) (by decide) dX1_open_18 _ rfl (fun H locs hP hD hS => ?_)
  have hP : va_P D cl_A [ob_J nd 1 [.int (nI sz), .ref kp, .ref ct, .ref sa, .ref la, .ref fz], ar_I kp cI 8 (upd fkp sz k), ar_I ct cI 8 (upd fct sz c_), ar_I sa cI 8 fsa, ar_I la cI 8 fla] H := hP
  have hD : va_D A [ob_J nd 1 [.int (nI sz), .ref kp, .ref ct, .ref sa, .ref la, .ref fz], ar_I kp cI 8 (upd fkp sz k), ar_I ct cI 8 (upd fct sz c_), ar_I sa cI 8 fsa, ar_I la cI 8 fla] := hD
  refine lv_aload_n hx hb dX1_open_19 rfl (lv_at hl 1 rfl) ?_
  refine va_get (ci := 1) (v := .ref sa) (C := RX1) (T := TX1) (N := 6) hx hb hts bi_1 hown hK hP 0 rfl rfl 3 (by decide) (hts _ bw_57) (fun _ h9 => h9) rfl dX1_open_20 ?_
  refine lv_iload_n hx hb dX1_open_23 rfl (lv_at hl 0 rfl) ?_
  refine lv_iconst (v := 0) hx hb dX1_open_24 (by decide) ?_
  refine ar_st hx hb hK hP hD hS 3 (k := sz) rfl rfl (by omega) (by decide) dX1_open_25 _ rfl (fun H locs hP hD hS => ?_)
  have hP : va_P D cl_A [ob_J nd 1 [.int (nI sz), .ref kp, .ref ct, .ref sa, .ref la, .ref fz], ar_I kp cI 8 (upd fkp sz k), ar_I ct cI 8 (upd fct sz c_), ar_I sa cI 8 (upd fsa sz 0), ar_I la cI 8 fla] H := hP
  have hD : va_D A [ob_J nd 1 [.int (nI sz), .ref kp, .ref ct, .ref sa, .ref la, .ref fz], ar_I kp cI 8 (upd fkp sz k), ar_I ct cI 8 (upd fct sz c_), ar_I sa cI 8 (upd fsa sz 0), ar_I la cI 8 fla] := hD
  refine lv_aload_n hx hb dX1_open_26 rfl (lv_at hl 1 rfl) ?_
  refine va_get (ci := 1) (v := .ref la) (C := RX1) (T := TX1) (N := 6) hx hb hts bi_1 hown hK hP 0 rfl rfl 4 (by decide) (hts _ bw_59) (fun _ h9 => h9) rfl dX1_open_27 ?_
  refine lv_iload_n hx hb dX1_open_30 rfl (lv_at hl 0 rfl) ?_
  refine lv_bipush (v := (-2)) hx hb dX1_open_31 (by decide) ?_
  refine ar_st hx hb hK hP hD hS 4 (k := sz) rfl rfl (by omega) (by decide) dX1_open_33 _ rfl (fun H locs hP hD hS => ?_)
  have hP : va_P D cl_A [ob_J nd 1 [.int (nI sz), .ref kp, .ref ct, .ref sa, .ref la, .ref fz], ar_I kp cI 8 (upd fkp sz k), ar_I ct cI 8 (upd fct sz c_), ar_I sa cI 8 (upd fsa sz 0), ar_I la cI 8 (upd fla sz (-2))] H := hP
  have hD : va_D A [ob_J nd 1 [.int (nI sz), .ref kp, .ref ct, .ref sa, .ref la, .ref fz], ar_I kp cI 8 (upd fkp sz k), ar_I ct cI 8 (upd fct sz c_), ar_I sa cI 8 (upd fsa sz 0), ar_I la cI 8 (upd fla sz (-2))] := hD
  refine lv_aload_n hx hb dX1_open_34 rfl (lv_at hl 1 rfl) ?_
  refine lv_dup hx hb dX1_open_35 rfl ?_
  refine va_get (ci := 1) (v := .int (nI sz)) (C := RX1) (T := TX1) (N := 6) hx hb hts bi_1 hown hK hP 0 rfl rfl 0 (by decide) (hts _ bw_51) (fun _ h9 => h9) rfl dX1_open_36 ?_
  refine lv_iconst (v := 1) hx hb dX1_open_39 (by decide) ?_
  refine lv_iadd hx hb dX1_open_40 ?_
  refine tp_i (x' := nI (sz + 1)) (nn_add rfl rfl) ?_
  refine va_put (ci := 1) (v := .int (nI (sz + 1))) (ty := .int) (C := RX1) (T := TX1) (N := 6) hx hb hts bi_1 tyX1 tyX1_ok nmX1 hown hK hP hD hS 0 rfl rfl 0 (by decide) (hts _ bw_51) (fun _ h9 => h9) rfl (by decide +kernel) rfl rfl (Nat.le_of_ble_eq_true rfl) dX1_open_41 (fun H locs hP hD hS => ?_)
  have hP : va_P D cl_A [ob_J nd 1 [.int (nI (sz + 1)), .ref kp, .ref ct, .ref sa, .ref la, .ref fz], ar_I kp cI 8 (upd fkp sz k), ar_I ct cI 8 (upd fct sz c_), ar_I sa cI 8 (upd fsa sz 0), ar_I la cI 8 (upd fla sz (-2))] H := hP
  have hD : va_D A [ob_J nd 1 [.int (nI (sz + 1)), .ref kp, .ref ct, .ref sa, .ref la, .ref fz], ar_I kp cI 8 (upd fkp sz k), ar_I ct cI 8 (upd fct sz c_), ar_I sa cI 8 (upd fsa sz 0), ar_I la cI 8 (upd fla sz (-2))] := hD
  refine lv_iload_n hx hb dX1_open_44 rfl (lv_at hl 0 rfl) ?_
  exact re_I (w1 := fun u_u : Unit => [ob_J nd 1 [.int (nI (sz + 1)), .ref kp, .ref ct, .ref sa, .ref la, .ref fz], ar_I kp cI 8 (upd fkp sz k), ar_I ct cI 8 (upd fct sz c_), ar_I sa cI 8 (upd fsa sz 0), ar_I la cI 8 (upd fla sz (-2))]) (v := nI sz) hx hb hr hlk hK hS rfl () hP hD (show nI sz = nI sz from rfl) dX1_open_45

set_option maxHeartbeats 4000000 in
set_option maxRecDepth 100000 in
theorem k_X1_settle (l : Launch) (D : va_G) (cI cJ cZ : ClassId) (nd : Nat) (sa : Nat) (la : Nat) (sz : Nat) (kp : Nat) (ct : Nat) (fz : Nat) (fsa : Nat → Int32) (fla : Nat → Int32) (h : Nat) (hz : sz ≤ 8) (hh : h < 110) : mt_V l yX1_settle cX1_settle 3 0 0 D cI cJ cZ [ob_J nd 1 [.int (nI sz), .ref kp, .ref ct, .ref sa, .ref la, .ref fz], ar_I sa cI 8 fsa, ar_I la cI 8 fla] [.ref nd, .int (nI h)] (fun u_u : Unit => True) (fun u_u : Unit => [ob_J nd 1 [.int (nI sz), .ref kp, .ref ct, .ref sa, .ref la, .ref fz], ar_I sa cI 8 (se_v fsa (st_a fsa fla (nI h)) sz), ar_I la cI 8 (se_v fla (st_b fsa fla (nI h)) sz)]) := by
  refine en_V (by decide) (Nat.le_of_ble_eq_true rfl) ?_
  intro p e s m below meth c A ls H locs hx hb hr hml hts hown hlk hN hK hA hP hD hS hl
  have hown : s.vm.findClass RX1 = some m.cls := hown
  have hl : lv_has ls 3 [(0, .ref nd), (1, .int (nI h))] := hl
  refine lv_iconst (v := 0) hx hb dX1_settle_0 (by decide) ?_
  refine lv_istore_n (lv' := [(2, .int 0), (0, .ref nd), (1, .int (nI h))]) hx hb dX1_settle_1 rfl hl (by decide) rfl (fun ls hl => ?_)
  have q_1 : fsa = se_v fsa (st_a fsa fla (nI h)) 0 := se_0 _ _
  obtain ⟨hP, hD⟩ := cs_W (fun z_z => [ob_J nd 1 [.int (nI sz), .ref kp, .ref ct, .ref sa, .ref la, .ref fz], ar_I sa cI 8 z_z, ar_I la cI 8 fla]) q_1 hP hD
  have q_2 : fla = se_v fla (st_b fsa fla (nI h)) 0 := se_0 _ _
  obtain ⟨hP, hD⟩ := cs_W (fun z_z => [ob_J nd 1 [.int (nI sz), .ref kp, .ref ct, .ref sa, .ref la, .ref fz], ar_I sa cI 8 (se_v fsa (st_a fsa fla (nI h)) 0), ar_I la cI 8 z_z]) q_2 hP hD
  have hl := lv_sub (l' := [(0, .ref nd), (1, .int (nI h)), (2, .int 0)]) hl [1, 2, 0] rfl
  have q_3 : 0 = nI 0 := rfl
  have hl := cs_L (fun z_z => [(0, .ref nd), (1, .int (nI h)), (2, .int z_z)]) q_3 hl
  have hl : lv_has ls 3 [(0, .ref nd), (1, .int (nI h)), (2, .int (nI 0))] := hl
  refine lp_g (σ := Nat) (fun i => sz - i) (fun i => [ob_J nd 1 [.int (nI sz), .ref kp, .ref ct, .ref sa, .ref la, .ref fz], ar_I sa cI 8 (se_v fsa (st_a fsa fla (nI h)) i), ar_I la cI 8 (se_v fla (st_b fsa fla (nI h)) i)]) (fun i => [(0, .ref nd), (1, .int (nI h)), (2, .int (nI i))]) (fun i => (i ≤ sz)) ?_ 0 (show (0 ≤ sz) from by omega) hP hD hS hl
  intro i H locs ls hF hP hD hS hl ih_2
  have hF : (i ≤ sz) := hF
  have hi := hF
  have hP : va_P D cl_A [ob_J nd 1 [.int (nI sz), .ref kp, .ref ct, .ref sa, .ref la, .ref fz], ar_I sa cI 8 (se_v fsa (st_a fsa fla (nI h)) i), ar_I la cI 8 (se_v fla (st_b fsa fla (nI h)) i)] H := hP
  have hD : va_D A [ob_J nd 1 [.int (nI sz), .ref kp, .ref ct, .ref sa, .ref la, .ref fz], ar_I sa cI 8 (se_v fsa (st_a fsa fla (nI h)) i), ar_I la cI 8 (se_v fla (st_b fsa fla (nI h)) i)] := hD
  have hl : lv_has ls 3 [(0, .ref nd), (1, .int (nI h)), (2, .int (nI i))] := hl
  refine lv_iload_n hx hb dX1_settle_2 rfl (lv_at hl 2 rfl) ?_
  refine lv_aload_n hx hb dX1_settle_3 rfl (lv_at hl 0 rfl) ?_
  refine va_get (ci := 1) (v := .int (nI sz)) (C := RX1) (T := TX1) (N := 6) hx hb hts bi_1 hown hK hP 0 rfl rfl 0 (by decide) (hts _ bw_51) (fun _ h9 => h9) rfl dX1_settle_4 ?_
  refine lv_icmp_ge (tgt := 71) hx hb dX1_settle_7 (by decide) (fun c_7 => ?_) (fun c_7 => ?_)
  · have c_7 := qq_ge (a := i) (b := sz) c_7 (by omega) (by omega)
    have q_4 : se_v fsa (st_a fsa fla (nI h)) i = se_v fsa (st_a fsa fla (nI h)) sz := by rw [show i = sz by omega]
    obtain ⟨hP, hD⟩ := cs_W (fun z_z => [ob_J nd 1 [.int (nI sz), .ref kp, .ref ct, .ref sa, .ref la, .ref fz], ar_I sa cI 8 z_z, ar_I la cI 8 (se_v fla (st_b fsa fla (nI h)) i)]) q_4 hP hD
    have q_5 : se_v fla (st_b fsa fla (nI h)) i = se_v fla (st_b fsa fla (nI h)) sz := by rw [show i = sz by omega]
    obtain ⟨hP, hD⟩ := cs_W (fun z_z => [ob_J nd 1 [.int (nI sz), .ref kp, .ref ct, .ref sa, .ref la, .ref fz], ar_I sa cI 8 (se_v fsa (st_a fsa fla (nI h)) sz), ar_I la cI 8 z_z]) q_5 hP hD
    exact re_V (w1 := fun u_u : Unit => [ob_J nd 1 [.int (nI sz), .ref kp, .ref ct, .ref sa, .ref la, .ref fz], ar_I sa cI 8 (se_v fsa (st_a fsa fla (nI h)) sz), ar_I la cI 8 (se_v fla (st_b fsa fla (nI h)) sz)]) hx hb hr hlk hK hS () hP hD trivial dX1_settle_71
  · have c_7 := qq_nge (a := i) (b := sz) c_7 (by omega) (by omega)
    refine lv_aload_n hx hb dX1_settle_10 rfl (lv_at hl 0 rfl) ?_
    refine va_get (ci := 1) (v := .ref sa) (C := RX1) (T := TX1) (N := 6) hx hb hts bi_1 hown hK hP 0 rfl rfl 3 (by decide) (hts _ bw_57) (fun _ h9 => h9) rfl dX1_settle_11 ?_
    refine lv_iload_n hx hb dX1_settle_14 rfl (lv_at hl 2 rfl) ?_
    refine ar_ld hx hb hK hP 1 (k := i) rfl rfl (by omega) (by decide) dX1_settle_15 ?_
    refine tp_i (x' := fsa i) (se_i _ _ _) ?_
    refine lv_iconst (v := 3) hx hb dX1_settle_16 (by decide) ?_
    refine lv_icmp_ne (tgt := 48) hx hb dX1_settle_17 (by decide) (fun c_17 => ?_) (fun c_17 => ?_)
    · refine lv_aload_n hx hb dX1_settle_48 rfl (lv_at hl 0 rfl) ?_
      refine va_get (ci := 1) (v := .ref sa) (C := RX1) (T := TX1) (N := 6) hx hb hts bi_1 hown hK hP 0 rfl rfl 3 (by decide) (hts _ bw_57) (fun _ h9 => h9) rfl dX1_settle_49 ?_
      refine lv_iload_n hx hb dX1_settle_52 rfl (lv_at hl 2 rfl) ?_
      refine ar_ld hx hb hK hP 1 (k := i) rfl rfl (by omega) (by decide) dX1_settle_53 ?_
      refine tp_i (x' := fsa i) (se_i _ _ _) ?_
      refine lv_iconst (v := 1) hx hb dX1_settle_54 (by decide) ?_
      refine lv_icmp_ne (tgt := 65) hx hb dX1_settle_55 (by decide) (fun c_55 => ?_) (fun c_55 => ?_)
      · refine lv_iinc (v := nI (i + 1)) (lv' := [(2, .int (nI (i + 1))), (0, .ref nd), (1, .int (nI h))]) hx hb dX1_settle_65 hl (k := 2) rfl (nI_1 _) (by decide) rfl (fun ls hl => ?_)
        refine lv_goto (tgt := 2) hx hb dX1_settle_68 (by decide) ?_
        have q_6 : se_v fsa (st_a fsa fla (nI h)) i = se_v fsa (st_a fsa fla (nI h)) (i + 1) := se_k (by first | (simp [st_a, c_7, c_17, c_55]; done) | exact absurd (c_17.symm.trans c_55) (by decide))
        obtain ⟨hP, hD⟩ := cs_W (fun z_z => [ob_J nd 1 [.int (nI sz), .ref kp, .ref ct, .ref sa, .ref la, .ref fz], ar_I sa cI 8 z_z, ar_I la cI 8 (se_v fla (st_b fsa fla (nI h)) i)]) q_6 hP hD
        have q_7 : se_v fla (st_b fsa fla (nI h)) i = se_v fla (st_b fsa fla (nI h)) (i + 1) := se_k (by first | (simp [st_b, c_7, c_17, c_55]; done) | exact absurd (c_17.symm.trans c_55) (by decide))
        obtain ⟨hP, hD⟩ := cs_W (fun z_z => [ob_J nd 1 [.int (nI sz), .ref kp, .ref ct, .ref sa, .ref la, .ref fz], ar_I sa cI 8 (se_v fsa (st_a fsa fla (nI h)) (i + 1)), ar_I la cI 8 z_z]) q_7 hP hD
        have hl := lv_sub (l' := [(0, .ref nd), (1, .int (nI h)), (2, .int (nI (i + 1)))]) hl [1, 2, 0] rfl
        have hl : lv_has ls 3 [(0, .ref nd), (1, .int (nI h)), (2, .int (nI (i + 1)))] := hl
        exact ih_2 (i + 1) (show sz - (i + 1) < sz - i from by omega) (show ((i + 1) ≤ sz) from by omega) H locs ls hP hD hS hl
      · refine lv_aload_n hx hb dX1_settle_58 rfl (lv_at hl 0 rfl) ?_
        refine va_get (ci := 1) (v := .ref sa) (C := RX1) (T := TX1) (N := 6) hx hb hts bi_1 hown hK hP 0 rfl rfl 3 (by decide) (hts _ bw_57) (fun _ h9 => h9) rfl dX1_settle_59 ?_
        refine lv_iload_n hx hb dX1_settle_62 rfl (lv_at hl 2 rfl) ?_
        refine lv_iconst (v := 2) hx hb dX1_settle_63 (by decide) ?_
        refine ar_st hx hb hK hP hD hS 1 (k := i) rfl rfl (by omega) (by decide) dX1_settle_64 _ rfl (fun H locs hP hD hS => ?_)
        have hP : va_P D cl_A [ob_J nd 1 [.int (nI sz), .ref kp, .ref ct, .ref sa, .ref la, .ref fz], ar_I sa cI 8 (upd (se_v fsa (st_a fsa fla (nI h)) i) i 2), ar_I la cI 8 (se_v fla (st_b fsa fla (nI h)) i)] H := hP
        have hD : va_D A [ob_J nd 1 [.int (nI sz), .ref kp, .ref ct, .ref sa, .ref la, .ref fz], ar_I sa cI 8 (upd (se_v fsa (st_a fsa fla (nI h)) i) i 2), ar_I la cI 8 (se_v fla (st_b fsa fla (nI h)) i)] := hD
        refine lv_iinc (v := nI (i + 1)) (lv' := [(2, .int (nI (i + 1))), (0, .ref nd), (1, .int (nI h))]) hx hb dX1_settle_65 hl (k := 2) rfl (nI_1 _) (by decide) rfl (fun ls hl => ?_)
        refine lv_goto (tgt := 2) hx hb dX1_settle_68 (by decide) ?_
        have q_8 : upd (se_v fsa (st_a fsa fla (nI h)) i) i 2 = se_v fsa (st_a fsa fla (nI h)) (i + 1) := se_x (by first | (simp [st_a, c_7, c_17, c_55]; done) | exact absurd (c_17.symm.trans c_55) (by decide))
        obtain ⟨hP, hD⟩ := cs_W (fun z_z => [ob_J nd 1 [.int (nI sz), .ref kp, .ref ct, .ref sa, .ref la, .ref fz], ar_I sa cI 8 z_z, ar_I la cI 8 (se_v fla (st_b fsa fla (nI h)) i)]) q_8 hP hD
        have q_9 : se_v fla (st_b fsa fla (nI h)) i = se_v fla (st_b fsa fla (nI h)) (i + 1) := se_k (by first | (simp [st_b, c_7, c_17, c_55]; done) | exact absurd (c_17.symm.trans c_55) (by decide))
        obtain ⟨hP, hD⟩ := cs_W (fun z_z => [ob_J nd 1 [.int (nI sz), .ref kp, .ref ct, .ref sa, .ref la, .ref fz], ar_I sa cI 8 (se_v fsa (st_a fsa fla (nI h)) (i + 1)), ar_I la cI 8 z_z]) q_9 hP hD
        have hl := lv_sub (l' := [(0, .ref nd), (1, .int (nI h)), (2, .int (nI (i + 1)))]) hl [1, 2, 0] rfl
        have hl : lv_has ls 3 [(0, .ref nd), (1, .int (nI h)), (2, .int (nI (i + 1)))] := hl
        exact ih_2 (i + 1) (show sz - (i + 1) < sz - i from by omega) (show ((i + 1) ≤ sz) from by omega) H locs ls hP hD hS hl
    · refine lv_aload_n hx hb dX1_settle_20 rfl (lv_at hl 0 rfl) ?_
      refine va_get (ci := 1) (v := .ref la) (C := RX1) (T := TX1) (N := 6) hx hb hts bi_1 hown hK hP 0 rfl rfl 4 (by decide) (hts _ bw_59) (fun _ h9 => h9) rfl dX1_settle_21 ?_
      refine lv_iload_n hx hb dX1_settle_24 rfl (lv_at hl 2 rfl) ?_
      refine ar_ld hx hb hK hP 2 (k := i) rfl rfl (by omega) (by decide) dX1_settle_25 ?_
      refine tp_i (x' := fla i) (se_i _ _ _) ?_
      refine lv_iload_n hx hb dX1_settle_26 rfl (lv_at hl 1 rfl) ?_
      refine lv_icmp_ne (tgt := 48) hx hb dX1_settle_27 (by decide) (fun c_27 => ?_) (fun c_27 => ?_)
      · refine lv_aload_n hx hb dX1_settle_48 rfl (lv_at hl 0 rfl) ?_
        refine va_get (ci := 1) (v := .ref sa) (C := RX1) (T := TX1) (N := 6) hx hb hts bi_1 hown hK hP 0 rfl rfl 3 (by decide) (hts _ bw_57) (fun _ h9 => h9) rfl dX1_settle_49 ?_
        refine lv_iload_n hx hb dX1_settle_52 rfl (lv_at hl 2 rfl) ?_
        refine ar_ld hx hb hK hP 1 (k := i) rfl rfl (by omega) (by decide) dX1_settle_53 ?_
        refine tp_i (x' := fsa i) (se_i _ _ _) ?_
        refine lv_iconst (v := 1) hx hb dX1_settle_54 (by decide) ?_
        refine lv_icmp_ne (tgt := 65) hx hb dX1_settle_55 (by decide) (fun c_55 => ?_) (fun c_55 => ?_)
        · refine lv_iinc (v := nI (i + 1)) (lv' := [(2, .int (nI (i + 1))), (0, .ref nd), (1, .int (nI h))]) hx hb dX1_settle_65 hl (k := 2) rfl (nI_1 _) (by decide) rfl (fun ls hl => ?_)
          refine lv_goto (tgt := 2) hx hb dX1_settle_68 (by decide) ?_
          have q_10 : se_v fsa (st_a fsa fla (nI h)) i = se_v fsa (st_a fsa fla (nI h)) (i + 1) := se_k (by first | (simp [st_a, c_7, c_17, c_27, c_55]; done) | exact absurd (c_17.symm.trans c_55) (by decide))
          obtain ⟨hP, hD⟩ := cs_W (fun z_z => [ob_J nd 1 [.int (nI sz), .ref kp, .ref ct, .ref sa, .ref la, .ref fz], ar_I sa cI 8 z_z, ar_I la cI 8 (se_v fla (st_b fsa fla (nI h)) i)]) q_10 hP hD
          have q_11 : se_v fla (st_b fsa fla (nI h)) i = se_v fla (st_b fsa fla (nI h)) (i + 1) := se_k (by first | (simp [st_b, c_7, c_17, c_27, c_55]; done) | exact absurd (c_17.symm.trans c_55) (by decide))
          obtain ⟨hP, hD⟩ := cs_W (fun z_z => [ob_J nd 1 [.int (nI sz), .ref kp, .ref ct, .ref sa, .ref la, .ref fz], ar_I sa cI 8 (se_v fsa (st_a fsa fla (nI h)) (i + 1)), ar_I la cI 8 z_z]) q_11 hP hD
          have hl := lv_sub (l' := [(0, .ref nd), (1, .int (nI h)), (2, .int (nI (i + 1)))]) hl [1, 2, 0] rfl
          have hl : lv_has ls 3 [(0, .ref nd), (1, .int (nI h)), (2, .int (nI (i + 1)))] := hl
          exact ih_2 (i + 1) (show sz - (i + 1) < sz - i from by omega) (show ((i + 1) ≤ sz) from by omega) H locs ls hP hD hS hl
        · refine lv_aload_n hx hb dX1_settle_58 rfl (lv_at hl 0 rfl) ?_
          refine va_get (ci := 1) (v := .ref sa) (C := RX1) (T := TX1) (N := 6) hx hb hts bi_1 hown hK hP 0 rfl rfl 3 (by decide) (hts _ bw_57) (fun _ h9 => h9) rfl dX1_settle_59 ?_
          refine lv_iload_n hx hb dX1_settle_62 rfl (lv_at hl 2 rfl) ?_
          refine lv_iconst (v := 2) hx hb dX1_settle_63 (by decide) ?_
          refine ar_st hx hb hK hP hD hS 1 (k := i) rfl rfl (by omega) (by decide) dX1_settle_64 _ rfl (fun H locs hP hD hS => ?_)
          have hP : va_P D cl_A [ob_J nd 1 [.int (nI sz), .ref kp, .ref ct, .ref sa, .ref la, .ref fz], ar_I sa cI 8 (upd (se_v fsa (st_a fsa fla (nI h)) i) i 2), ar_I la cI 8 (se_v fla (st_b fsa fla (nI h)) i)] H := hP
          have hD : va_D A [ob_J nd 1 [.int (nI sz), .ref kp, .ref ct, .ref sa, .ref la, .ref fz], ar_I sa cI 8 (upd (se_v fsa (st_a fsa fla (nI h)) i) i 2), ar_I la cI 8 (se_v fla (st_b fsa fla (nI h)) i)] := hD
          refine lv_iinc (v := nI (i + 1)) (lv' := [(2, .int (nI (i + 1))), (0, .ref nd), (1, .int (nI h))]) hx hb dX1_settle_65 hl (k := 2) rfl (nI_1 _) (by decide) rfl (fun ls hl => ?_)
          refine lv_goto (tgt := 2) hx hb dX1_settle_68 (by decide) ?_
          have q_12 : upd (se_v fsa (st_a fsa fla (nI h)) i) i 2 = se_v fsa (st_a fsa fla (nI h)) (i + 1) := se_x (by first | (simp [st_a, c_7, c_17, c_27, c_55]; done) | exact absurd (c_17.symm.trans c_55) (by decide))
          obtain ⟨hP, hD⟩ := cs_W (fun z_z => [ob_J nd 1 [.int (nI sz), .ref kp, .ref ct, .ref sa, .ref la, .ref fz], ar_I sa cI 8 z_z, ar_I la cI 8 (se_v fla (st_b fsa fla (nI h)) i)]) q_12 hP hD
          have q_13 : se_v fla (st_b fsa fla (nI h)) i = se_v fla (st_b fsa fla (nI h)) (i + 1) := se_k (by first | (simp [st_b, c_7, c_17, c_27, c_55]; done) | exact absurd (c_17.symm.trans c_55) (by decide))
          obtain ⟨hP, hD⟩ := cs_W (fun z_z => [ob_J nd 1 [.int (nI sz), .ref kp, .ref ct, .ref sa, .ref la, .ref fz], ar_I sa cI 8 (se_v fsa (st_a fsa fla (nI h)) (i + 1)), ar_I la cI 8 z_z]) q_13 hP hD
          have hl := lv_sub (l' := [(0, .ref nd), (1, .int (nI h)), (2, .int (nI (i + 1)))]) hl [1, 2, 0] rfl
          have hl : lv_has ls 3 [(0, .ref nd), (1, .int (nI h)), (2, .int (nI (i + 1)))] := hl
          exact ih_2 (i + 1) (show sz - (i + 1) < sz - i from by omega) (show ((i + 1) ≤ sz) from by omega) H locs ls hP hD hS hl
      · refine lv_aload_n hx hb dX1_settle_30 rfl (lv_at hl 0 rfl) ?_
        refine va_get (ci := 1) (v := .ref sa) (C := RX1) (T := TX1) (N := 6) hx hb hts bi_1 hown hK hP 0 rfl rfl 3 (by decide) (hts _ bw_57) (fun _ h9 => h9) rfl dX1_settle_31 ?_
        refine lv_iload_n hx hb dX1_settle_34 rfl (lv_at hl 2 rfl) ?_
        refine lv_iconst (v := 0) hx hb dX1_settle_35 (by decide) ?_
        refine ar_st hx hb hK hP hD hS 1 (k := i) rfl rfl (by omega) (by decide) dX1_settle_36 _ rfl (fun H locs hP hD hS => ?_)
        have hP : va_P D cl_A [ob_J nd 1 [.int (nI sz), .ref kp, .ref ct, .ref sa, .ref la, .ref fz], ar_I sa cI 8 (upd (se_v fsa (st_a fsa fla (nI h)) i) i 0), ar_I la cI 8 (se_v fla (st_b fsa fla (nI h)) i)] H := hP
        have hD : va_D A [ob_J nd 1 [.int (nI sz), .ref kp, .ref ct, .ref sa, .ref la, .ref fz], ar_I sa cI 8 (upd (se_v fsa (st_a fsa fla (nI h)) i) i 0), ar_I la cI 8 (se_v fla (st_b fsa fla (nI h)) i)] := hD
        refine lv_aload_n hx hb dX1_settle_37 rfl (lv_at hl 0 rfl) ?_
        refine va_get (ci := 1) (v := .ref la) (C := RX1) (T := TX1) (N := 6) hx hb hts bi_1 hown hK hP 0 rfl rfl 4 (by decide) (hts _ bw_59) (fun _ h9 => h9) rfl dX1_settle_38 ?_
        refine lv_iload_n hx hb dX1_settle_41 rfl (lv_at hl 2 rfl) ?_
        refine lv_bipush (v := (-2)) hx hb dX1_settle_42 (by decide) ?_
        refine ar_st hx hb hK hP hD hS 2 (k := i) rfl rfl (by omega) (by decide) dX1_settle_44 _ rfl (fun H locs hP hD hS => ?_)
        have hP : va_P D cl_A [ob_J nd 1 [.int (nI sz), .ref kp, .ref ct, .ref sa, .ref la, .ref fz], ar_I sa cI 8 (upd (se_v fsa (st_a fsa fla (nI h)) i) i 0), ar_I la cI 8 (upd (se_v fla (st_b fsa fla (nI h)) i) i (-2))] H := hP
        have hD : va_D A [ob_J nd 1 [.int (nI sz), .ref kp, .ref ct, .ref sa, .ref la, .ref fz], ar_I sa cI 8 (upd (se_v fsa (st_a fsa fla (nI h)) i) i 0), ar_I la cI 8 (upd (se_v fla (st_b fsa fla (nI h)) i) i (-2))] := hD
        refine lv_goto (tgt := 65) hx hb dX1_settle_45 (by decide) ?_
        refine lv_iinc (v := nI (i + 1)) (lv' := [(2, .int (nI (i + 1))), (0, .ref nd), (1, .int (nI h))]) hx hb dX1_settle_65 hl (k := 2) rfl (nI_1 _) (by decide) rfl (fun ls hl => ?_)
        refine lv_goto (tgt := 2) hx hb dX1_settle_68 (by decide) ?_
        have q_14 : upd (se_v fsa (st_a fsa fla (nI h)) i) i 0 = se_v fsa (st_a fsa fla (nI h)) (i + 1) := se_x (by first | (simp [st_a, c_7, c_17, c_27]; done) | exact absurd (c_17.symm.trans c_55) (by decide))
        obtain ⟨hP, hD⟩ := cs_W (fun z_z => [ob_J nd 1 [.int (nI sz), .ref kp, .ref ct, .ref sa, .ref la, .ref fz], ar_I sa cI 8 z_z, ar_I la cI 8 (upd (se_v fla (st_b fsa fla (nI h)) i) i (-2))]) q_14 hP hD
        have q_15 : upd (se_v fla (st_b fsa fla (nI h)) i) i (-2) = se_v fla (st_b fsa fla (nI h)) (i + 1) := se_x (by first | (simp [st_b, c_7, c_17, c_27]; done) | exact absurd (c_17.symm.trans c_55) (by decide))
        obtain ⟨hP, hD⟩ := cs_W (fun z_z => [ob_J nd 1 [.int (nI sz), .ref kp, .ref ct, .ref sa, .ref la, .ref fz], ar_I sa cI 8 (se_v fsa (st_a fsa fla (nI h)) (i + 1)), ar_I la cI 8 z_z]) q_15 hP hD
        have hl := lv_sub (l' := [(0, .ref nd), (1, .int (nI h)), (2, .int (nI (i + 1)))]) hl [1, 2, 0] rfl
        have hl : lv_has ls 3 [(0, .ref nd), (1, .int (nI h)), (2, .int (nI (i + 1)))] := hl
        exact ih_2 (i + 1) (show sz - (i + 1) < sz - i from by omega) (show ((i + 1) ≤ sz) from by omega) H locs ls hP hD hS hl

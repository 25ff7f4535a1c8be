set_option maxHeartbeats 4000000 in
set_option maxRecDepth 100000 in
theorem k_X2_enter (l : Launch) (D : va_G) (cI cJ cZ : ClassId) (st : Nat) (wt : Nat) (al : Nat) (br : Nat) (rw : Nat) (fx : Nat) (fwt : Nat → Int32) (fal : Nat → Int32) (fbr : Nat → Int32) (kh : Nat) (jn : Nat) (w : Int32) (hh : kh ≤ 100) (hj : jn < 8) : mt_V l yX2_enter cX2_enter 4 1 21 D cI cJ cZ [ob_J st 2 [.ref wt, .ref rw, .ref al, .ref br, .ref fx], ar_I wt cI 808 fwt, ar_I al cI 101 fal, ar_I br cI 101 fbr] [.ref st, .int (nI kh), .int (nI jn), .int w] (fun u_u : Unit => True) (fun u_u : Unit => [ob_J st 2 [.ref wt, .ref rw, .ref al, .ref br, .ref fx], ar_I wt cI 808 (if 0 < w then upd fwt (kh * 8 + jn) w else fwt), ar_I al cI 101 (if 0 < w then upd fal kh (fal kh + w) else fal), ar_I br cI 101 (if 0 < w then upd fbr kh (fbr kh ||| ((1 : Int32) <<< (nI jn &&& 31))) else fbr)]) := by
  refine en_V (by decide) (Nat.le_of_ble_eq_true rfl) ?_
  intro p e s m below meth c A ls H locs hx hb hr hml hts hown hlk hN hK hA hP hD hS hl
  have hown : s.vm.findClass RX2 = some m.cls := hown
  have hl : lv_has ls 4 [(0, .ref st), (1, .int (nI kh)), (2, .int (nI jn)), (3, .int w)] := hl
  refine lv_iload_n hx hb dX2_enter_0 rfl (lv_at hl 3 rfl) ?_
  refine lv_if_gt (tgt := 5) hx hb dX2_enter_1 (by decide) (fun c_1 => ?_) (fun c_1 => ?_)
  · refine lv_aload_n hx hb dX2_enter_5 rfl (lv_at hl 0 rfl) ?_
    refine va_get (ci := 2) (v := .ref wt) (C := RX2) (T := TX2) (N := 5) hx hb hts bi_2 hown hK hP 0 rfl rfl 0 (by decide) (hts _ bw_83) (fun _ h9 => h9) rfl dX2_enter_6 ?_
    refine lv_iload_n hx hb dX2_enter_9 rfl (lv_at hl 1 rfl) ?_
    refine lv_iload_n hx hb dX2_enter_10 rfl (lv_at hl 2 rfl) ?_
    refine ca_NI (rest := [.ref wt]) (k_X5_setPlace l D cI cJ cZ kh jn ) hx hb hml hown hts hN hK hA hP hD hS hN.2.2.1 bw_229 bw_1 bw_230 2 rfl (by decide +kernel) ⟨by decide, by decide⟩ hl.1 rfl (Nat.le_of_ble_eq_true rfl) dX2_enter_11 ⟨Nat.zero_le _, Nat.zero_le _⟩ (fun r_11 u_u H locs w_11 hP hD hS => ?_)
    have w_11 : r_11 = nI (kh * 8 + jn) := w_11
    subst w_11
    refine lv_iload_n hx hb dX2_enter_14 rfl (lv_at hl 3 rfl) ?_
    refine ar_st hx hb hK hP hD hS 1 (k := kh * 8 + jn) rfl rfl (by omega) (by decide) dX2_enter_15 _ rfl (fun H locs hP hD hS => ?_)
    have hP : va_P D cl_A [ob_J st 2 [.ref wt, .ref rw, .ref al, .ref br, .ref fx], ar_I wt cI 808 (upd fwt (kh * 8 + jn) w), ar_I al cI 101 fal, ar_I br cI 101 fbr] H := hP
    have hD : va_D A [ob_J st 2 [.ref wt, .ref rw, .ref al, .ref br, .ref fx], ar_I wt cI 808 (upd fwt (kh * 8 + jn) w), ar_I al cI 101 fal, ar_I br cI 101 fbr] := hD
    refine lv_aload_n hx hb dX2_enter_16 rfl (lv_at hl 0 rfl) ?_
    refine va_get (ci := 2) (v := .ref al) (C := RX2) (T := TX2) (N := 5) hx hb hts bi_2 hown hK hP 0 rfl rfl 2 (by decide) (hts _ bw_87) (fun _ h9 => h9) rfl dX2_enter_17 ?_
    refine lv_iload_n hx hb dX2_enter_20 rfl (lv_at hl 1 rfl) ?_
    refine lv_dup2_11 hx hb dX2_enter_21 rfl rfl ?_
    refine ar_ld hx hb hK hP 2 (k := kh) rfl rfl (by omega) (by decide) dX2_enter_22 ?_
    refine lv_iload_n hx hb dX2_enter_23 rfl (lv_at hl 3 rfl) ?_
    refine lv_iadd hx hb dX2_enter_24 ?_
    refine ar_st hx hb hK hP hD hS 2 (k := kh) rfl rfl (by omega) (by decide) dX2_enter_25 _ rfl (fun H locs hP hD hS => ?_)
    have hP : va_P D cl_A [ob_J st 2 [.ref wt, .ref rw, .ref al, .ref br, .ref fx], ar_I wt cI 808 (upd fwt (kh * 8 + jn) w), ar_I al cI 101 (upd fal kh ((fal kh) + w)), ar_I br cI 101 fbr] H := hP
    have hD : va_D A [ob_J st 2 [.ref wt, .ref rw, .ref al, .ref br, .ref fx], ar_I wt cI 808 (upd fwt (kh * 8 + jn) w), ar_I al cI 101 (upd fal kh ((fal kh) + w)), ar_I br cI 101 fbr] := hD
    refine lv_aload_n hx hb dX2_enter_26 rfl (lv_at hl 0 rfl) ?_
    refine va_get (ci := 2) (v := .ref br) (C := RX2) (T := TX2) (N := 5) hx hb hts bi_2 hown hK hP 0 rfl rfl 3 (by decide) (hts _ bw_89) (fun _ h9 => h9) rfl dX2_enter_27 ?_
    refine lv_iload_n hx hb dX2_enter_30 rfl (lv_at hl 1 rfl) ?_
    refine lv_dup2_11 hx hb dX2_enter_31 rfl rfl ?_
    refine ar_ld hx hb hK hP 3 (k := kh) rfl rfl (by omega) (by decide) dX2_enter_32 ?_
    refine lv_iconst (v := 1) hx hb dX2_enter_33 (by decide) ?_
    refine lv_iload_n hx hb dX2_enter_34 rfl (lv_at hl 2 rfl) ?_
    refine lv_ishl hx hb dX2_enter_35 ?_
    refine lv_ior hx hb dX2_enter_36 ?_
    refine ar_st hx hb hK hP hD hS 3 (k := kh) rfl rfl (by omega) (by decide) dX2_enter_37 _ rfl (fun H locs hP hD hS => ?_)
    have hP : va_P D cl_A [ob_J st 2 [.ref wt, .ref rw, .ref al, .ref br, .ref fx], ar_I wt cI 808 (upd fwt (kh * 8 + jn) w), ar_I al cI 101 (upd fal kh ((fal kh) + w)), ar_I br cI 101 (upd fbr kh ((fbr kh) ||| (1 <<< ((nI jn) &&& 31))))] H := hP
    have hD : va_D A [ob_J st 2 [.ref wt, .ref rw, .ref al, .ref br, .ref fx], ar_I wt cI 808 (upd fwt (kh * 8 + jn) w), ar_I al cI 101 (upd fal kh ((fal kh) + w)), ar_I br cI 101 (upd fbr kh ((fbr kh) ||| (1 <<< ((nI jn) &&& 31))))] := hD
    have q_1 : upd fwt (kh * 8 + jn) w = if 0 < w then upd fwt (kh * 8 + jn) w else fwt := (if_pos c_1).symm
    obtain ⟨hP, hD⟩ := cs_W (fun z_z => [ob_J st 2 [.ref wt, .ref rw, .ref al, .ref br, .ref fx], ar_I wt cI 808 z_z, ar_I al cI 101 (upd fal kh ((fal kh) + w)), ar_I br cI 101 (upd fbr kh ((fbr kh) ||| (1 <<< ((nI jn) &&& 31))))]) q_1 hP hD
    have q_2 : upd fal kh ((fal kh) + w) = if 0 < w then upd fal kh (fal kh + w) else fal := (if_pos c_1).symm
    obtain ⟨hP, hD⟩ := cs_W (fun z_z => [ob_J st 2 [.ref wt, .ref rw, .ref al, .ref br, .ref fx], ar_I wt cI 808 (if 0 < w then upd fwt (kh * 8 + jn) w else fwt), ar_I al cI 101 z_z, ar_I br cI 101 (upd fbr kh ((fbr kh) ||| (1 <<< ((nI jn) &&& 31))))]) q_2 hP hD
    have q_3 : upd fbr kh ((fbr kh) ||| (1 <<< ((nI jn) &&& 31))) = if 0 < w then upd fbr kh (fbr kh ||| ((1 : Int32) <<< (nI jn &&& 31))) else fbr := (if_pos c_1).symm
    obtain ⟨hP, hD⟩ := cs_W (fun z_z => [ob_J st 2 [.ref wt, .ref rw, .ref al, .ref br, .ref fx], ar_I wt cI 808 (if 0 < w then upd fwt (kh * 8 + jn) w else fwt), ar_I al cI 101 (if 0 < w then upd fal kh (fal kh + w) else fal), ar_I br cI 101 z_z]) q_3 hP hD
    exact re_V (w1 := fun u_u : Unit => [ob_J st 2 [.ref wt, .ref rw, .ref al, .ref br, .ref fx], ar_I wt cI 808 (if 0 < w then upd fwt (kh * 8 + jn) w else fwt), ar_I al cI 101 (if 0 < w then upd fal kh (fal kh + w) else fal), ar_I br cI 101 (if 0 < w then upd fbr kh (fbr kh ||| ((1 : Int32) <<< (nI jn &&& 31))) else fbr)]) hx hb hr hlk hK hS () hP hD trivial dX2_enter_38
  · have q_4 : fwt = if 0 < w then upd fwt (kh * 8 + jn) w else fwt := (if_neg c_1).symm
    obtain ⟨hP, hD⟩ := cs_W (fun z_z => [ob_J st 2 [.ref wt, .ref rw, .ref al, .ref br, .ref fx], ar_I wt cI 808 z_z, ar_I al cI 101 fal, ar_I br cI 101 fbr]) q_4 hP hD
    have q_5 : fal = if 0 < w then upd fal kh (fal kh + w) else fal := (if_neg c_1).symm
    obtain ⟨hP, hD⟩ := cs_W (fun z_z => [ob_J st 2 [.ref wt, .ref rw, .ref al, .ref br, .ref fx], ar_I wt cI 808 (if 0 < w then upd fwt (kh * 8 + jn) w else fwt), ar_I al cI 101 z_z, ar_I br cI 101 fbr]) q_5 hP hD
    have q_6 : fbr = if 0 < w then upd fbr kh (fbr kh ||| ((1 : Int32) <<< (nI jn &&& 31))) else fbr := (if_neg c_1).symm
    obtain ⟨hP, hD⟩ := cs_W (fun z_z => [ob_J st 2 [.ref wt, .ref rw, .ref al, .ref br, .ref fx], ar_I wt cI 808 (if 0 < w then upd fwt (kh * 8 + jn) w else fwt), ar_I al cI 101 (if 0 < w then upd fal kh (fal kh + w) else fal), ar_I br cI 101 z_z]) q_6 hP hD
    exact re_V (w1 := fun u_u : Unit => [ob_J st 2 [.ref wt, .ref rw, .ref al, .ref br, .ref fx], ar_I wt cI 808 (if 0 < w then upd fwt (kh * 8 + jn) w else fwt), ar_I al cI 101 (if 0 < w then upd fal kh (fal kh + w) else fal), ar_I br cI 101 (if 0 < w then upd fbr kh (fbr kh ||| ((1 : Int32) <<< (nI jn &&& 31))) else fbr)]) hx hb hr hlk hK hS () hP hD trivial dX2_enter_4

set_option maxHeartbeats 4000000 in
set_option maxRecDepth 100000 in
theorem k_X2_rewardsOf (l : Launch) (D : va_G) (cI cJ cZ : ClassId) (st : Nat) (rw : Nat) (wt : Nat) (al : Nat) (br : Nat) (fx : Nat) (frw : Nat → Int32) (kh : Nat) (hh : kh ≤ 100) : mt_I l yX2_rewardsOf cX2_rewardsOf 4 .int 1 21 D cI cJ cZ [ob_J st 2 [.ref wt, .ref rw, .ref al, .ref br, .ref fx], ar_I rw cI 808 frw] [.ref st, .int (nI kh)] (fun r (u_u : Unit) => r = sI_ (fun n => frw (kh * 8 + n)) 8) (fun u_u : Unit => [ob_J st 2 [.ref wt, .ref rw, .ref al, .ref br, .ref fx], ar_I rw cI 808 frw]) := by
  refine en_I (by decide) (Nat.le_of_ble_eq_true rfl) ?_
  intro p e s m below meth c A ls H locs hx hb hr hml hts hown hlk hN hK hA hP hD hS hl
  have hown : s.vm.findClass RX2 = some m.cls := hown
  have hl : lv_has ls 4 [(0, .ref st), (1, .int (nI kh))] := hl
  refine lv_iconst (v := 0) hx hb dX2_rewardsOf_0 (by decide) ?_
  refine lv_istore_n (lv' := [(2, .int 0), (0, .ref st), (1, .int (nI kh))]) hx hb dX2_rewardsOf_1 rfl hl (by decide) rfl (fun ls hl => ?_)
  refine lv_iconst (v := 0) hx hb dX2_rewardsOf_2 (by decide) ?_
  refine lv_istore_n (lv' := [(3, .int 0), (2, .int 0), (0, .ref st), (1, .int (nI kh))]) hx hb dX2_rewardsOf_3 rfl hl (by decide) rfl (fun ls hl => ?_)
  have hl := lv_sub (l' := [(0, .ref st), (1, .int (nI kh)), (2, .int 0), (3, .int 0)]) hl [2, 3, 1, 0] rfl
  have q_1 : 0 = sI_ (fun n => frw (kh * 8 + n)) 0 := rfl
  have hl := cs_L (fun z_z => [(0, .ref st), (1, .int (nI kh)), (2, .int z_z), (3, .int 0)]) q_1 hl
  have q_2 : 0 = nI 0 := rfl
  have hl := cs_L (fun z_z => [(0, .ref st), (1, .int (nI kh)), (2, .int (sI_ (fun n => frw (kh * 8 + n)) 0)), (3, .int z_z)]) q_2 hl
  have hl : lv_has ls 4 [(0, .ref st), (1, .int (nI kh)), (2, .int (sI_ (fun n => frw (kh * 8 + n)) 0)), (3, .int (nI 0))] := hl
  refine lp_g (σ := Nat) (fun i => 8 - i) (fun i => [ob_J st 2 [.ref wt, .ref rw, .ref al, .ref br, .ref fx], ar_I rw cI 808 frw]) (fun i => [(0, .ref st), (1, .int (nI kh)), (2, .int (sI_ (fun n => frw (kh * 8 + n)) i)), (3, .int (nI i))]) (fun i => (i ≤ 8)) ?_ 0 (show (0 ≤ 8) from by omega) hP hD hS hl
  intro i H locs ls hF hP hD hS hl ih_4
  have hF : (i ≤ 8) := hF
  have hi := hF
  have hP : va_P D cl_A [ob_J st 2 [.ref wt, .ref rw, .ref al, .ref br, .ref fx], ar_I rw cI 808 frw] H := hP
  have hD : va_D A [ob_J st 2 [.ref wt, .ref rw, .ref al, .ref br, .ref fx], ar_I rw cI 808 frw] := hD
  have hl : lv_has ls 4 [(0, .ref st), (1, .int (nI kh)), (2, .int (sI_ (fun n => frw (kh * 8 + n)) i)), (3, .int (nI i))] := hl
  refine lv_iload_n hx hb dX2_rewardsOf_4 rfl (lv_at hl 3 rfl) ?_
  refine lv_bipush (v := 8) hx hb dX2_rewardsOf_5 (by decide) ?_
  refine lv_icmp_ge (tgt := 29) hx hb dX2_rewardsOf_7 (by decide) (fun c_7 => ?_) (fun c_7 => ?_)
  · have c_7 := qq_ge (a := i) (b := 8) c_7 (by omega) (by omega)
    refine lv_iload_n hx hb dX2_rewardsOf_29 rfl (lv_at hl 2 rfl) ?_
    exact re_I (w1 := fun u_u : Unit => [ob_J st 2 [.ref wt, .ref rw, .ref al, .ref br, .ref fx], ar_I rw cI 808 frw]) (v := sI_ (fun n => frw (kh * 8 + n)) i) hx hb hr hlk hK hS rfl () hP hD (show sI_ (fun n => frw (kh * 8 + n)) i = sI_ (fun n => frw (kh * 8 + n)) 8 from by rw [show i = 8 by omega]) dX2_rewardsOf_30
  · have c_7 := qq_nge (a := i) (b := 8) c_7 (by omega) (by omega)
    refine lv_iload_n hx hb dX2_rewardsOf_10 rfl (lv_at hl 2 rfl) ?_
    refine lv_aload_n hx hb dX2_rewardsOf_11 rfl (lv_at hl 0 rfl) ?_
    refine va_get (ci := 2) (v := .ref rw) (C := RX2) (T := TX2) (N := 5) hx hb hts bi_2 hown hK hP 0 rfl rfl 1 (by decide) (hts _ bw_85) (fun _ h9 => h9) rfl dX2_rewardsOf_12 ?_
    refine lv_iload_n hx hb dX2_rewardsOf_15 rfl (lv_at hl 1 rfl) ?_
    refine lv_iload_n hx hb dX2_rewardsOf_16 rfl (lv_at hl 3 rfl) ?_
    refine ca_NI (rest := [.ref rw, .int (sI_ (fun n => frw (kh * 8 + n)) i)]) (k_X5_setPlace l D cI cJ cZ kh i ) hx hb hml hown hts hN hK hA hP hD hS hN.2.2.1 bw_229 bw_1 bw_230 2 rfl (by decide +kernel) ⟨by decide, by decide⟩ hl.1 rfl (Nat.le_of_ble_eq_true rfl) dX2_rewardsOf_17 ⟨Nat.zero_le _, Nat.zero_le _⟩ (fun r_17 u_u H locs w_17 hP hD hS => ?_)
    have w_17 : r_17 = nI (kh * 8 + i) := w_17
    subst w_17
    refine ar_ld hx hb hK hP 1 (k := kh * 8 + i) rfl rfl (by omega) (by decide) dX2_rewardsOf_20 ?_
    refine lv_iadd hx hb dX2_rewardsOf_21 ?_
    refine lv_istore_n (lv' := [(2, .int ((sI_ (fun n => frw (kh * 8 + n)) i) + (frw (kh * 8 + i)))), (0, .ref st), (1, .int (nI kh)), (3, .int (nI i))]) hx hb dX2_rewardsOf_22 rfl hl (by decide) rfl (fun ls hl => ?_)
    refine lv_iinc (v := nI (i + 1)) (lv' := [(3, .int (nI (i + 1))), (2, .int ((sI_ (fun n => frw (kh * 8 + n)) i) + (frw (kh * 8 + i)))), (0, .ref st), (1, .int (nI kh))]) hx hb dX2_rewardsOf_23 hl (k := 3) rfl (nI_1 _) (by decide) rfl (fun ls hl => ?_)
    refine lv_goto (tgt := 4) hx hb dX2_rewardsOf_26 (by decide) ?_
    have hl := lv_sub (l' := [(0, .ref st), (1, .int (nI kh)), (2, .int ((sI_ (fun n => frw (kh * 8 + n)) i) + (frw (kh * 8 + i)))), (3, .int (nI (i + 1)))]) hl [2, 3, 1, 0] rfl
    have q_3 : (sI_ (fun n => frw (kh * 8 + n)) i) + (frw (kh * 8 + i)) = sI_ (fun n => frw (kh * 8 + n)) (i + 1) := rfl
    have hl := cs_L (fun z_z => [(0, .ref st), (1, .int (nI kh)), (2, .int z_z), (3, .int (nI (i + 1)))]) q_3 hl
    have hl : lv_has ls 4 [(0, .ref st), (1, .int (nI kh)), (2, .int (sI_ (fun n => frw (kh * 8 + n)) (i + 1))), (3, .int (nI (i + 1)))] := hl
    exact ih_4 (i + 1) (show 8 - (i + 1) < 8 - i from by omega) (show ((i + 1) ≤ 8) from by omega) H locs ls hP hD hS hl

set_option maxHeartbeats 4000000 in
set_option maxRecDepth 100000 in
theorem k_X2_weightOf (l : Launch) (D : va_G) (cI cJ cZ : ClassId) (st : Nat) (wt : Nat) (rw : Nat) (al : Nat) (br : Nat) (fx : Nat) (fwt : Nat → Int32) (kh : Nat) (b : Nat) (hh : kh ≤ 100) (hbb : b < 256) : mt_I l yX2_weightOf cX2_weightOf 5 .int 1 21 D cI cJ cZ [ob_J st 2 [.ref wt, .ref rw, .ref al, .ref br, .ref fx], ar_I wt cI 808 fwt] [.ref st, .int (nI kh), .int (nI b)] (fun r (u_u : Unit) => r = wo_ fwt kh b 8) (fun u_u : Unit => [ob_J st 2 [.ref wt, .ref rw, .ref al, .ref br, .ref fx], ar_I wt cI 808 fwt]) := by
  refine en_I (by decide) (Nat.le_of_ble_eq_true rfl) ?_
  intro p e s m below meth c A ls H locs hx hb hr hml hts hown hlk hN hK hA hP hD hS hl
  have hown : s.vm.findClass RX2 = some m.cls := hown
  have hl : lv_has ls 5 [(0, .ref st), (1, .int (nI kh)), (2, .int (nI b))] := hl
  refine lv_iconst (v := 0) hx hb dX2_weightOf_0 (by decide) ?_
  refine lv_istore_n (lv' := [(3, .int 0), (0, .ref st), (1, .int (nI kh)), (2, .int (nI b))]) hx hb dX2_weightOf_1 rfl hl (by decide) rfl (fun ls hl => ?_)
  refine lv_iconst (v := 0) hx hb dX2_weightOf_2 (by decide) ?_
  refine lv_istore (lv' := [(4, .int 0), (3, .int 0), (0, .ref st), (1, .int (nI kh)), (2, .int (nI b))]) hx hb dX2_weightOf_3 hl (by decide) rfl (fun ls hl => ?_)
  have hl := lv_sub (l' := [(0, .ref st), (1, .int (nI kh)), (2, .int (nI b)), (3, .int 0), (4, .int 0)]) hl [2, 3, 4, 1, 0] rfl
  have q_1 : 0 = wo_ fwt kh b 0 := rfl
  have hl := cs_L (fun z_z => [(0, .ref st), (1, .int (nI kh)), (2, .int (nI b)), (3, .int z_z), (4, .int 0)]) q_1 hl
  have q_2 : 0 = nI 0 := rfl
  have hl := cs_L (fun z_z => [(0, .ref st), (1, .int (nI kh)), (2, .int (nI b)), (3, .int (wo_ fwt kh b 0)), (4, .int z_z)]) q_2 hl
  have hl : lv_has ls 5 [(0, .ref st), (1, .int (nI kh)), (2, .int (nI b)), (3, .int (wo_ fwt kh b 0)), (4, .int (nI 0))] := hl
  refine lp_g (σ := Nat) (fun i => 8 - i) (fun i => [ob_J st 2 [.ref wt, .ref rw, .ref al, .ref br, .ref fx], ar_I wt cI 808 fwt]) (fun i => [(0, .ref st), (1, .int (nI kh)), (2, .int (nI b)), (3, .int (wo_ fwt kh b i)), (4, .int (nI i))]) (fun i => (i ≤ 8)) ?_ 0 (show (0 ≤ 8) from by omega) hP hD hS hl
  intro i H locs ls hF hP hD hS hl ih_5
  have hF : (i ≤ 8) := hF
  have hi := hF
  have hP : va_P D cl_A [ob_J st 2 [.ref wt, .ref rw, .ref al, .ref br, .ref fx], ar_I wt cI 808 fwt] H := hP
  have hD : va_D A [ob_J st 2 [.ref wt, .ref rw, .ref al, .ref br, .ref fx], ar_I wt cI 808 fwt] := hD
  have hl : lv_has ls 5 [(0, .ref st), (1, .int (nI kh)), (2, .int (nI b)), (3, .int (wo_ fwt kh b i)), (4, .int (nI i))] := hl
  refine lv_iload hx hb dX2_weightOf_5 (lv_at hl 4 rfl) ?_
  refine lv_bipush (v := 8) hx hb dX2_weightOf_7 (by decide) ?_
  refine lv_icmp_ge (tgt := 41) hx hb dX2_weightOf_9 (by decide) (fun c_9 => ?_) (fun c_9 => ?_)
  · have c_9 := qq_ge (a := i) (b := 8) c_9 (by omega) (by omega)
    refine lv_iload_n hx hb dX2_weightOf_41 rfl (lv_at hl 3 rfl) ?_
    exact re_I (w1 := fun u_u : Unit => [ob_J st 2 [.ref wt, .ref rw, .ref al, .ref br, .ref fx], ar_I wt cI 808 fwt]) (v := wo_ fwt kh b i) hx hb hr hlk hK hS rfl () hP hD (show wo_ fwt kh b i = wo_ fwt kh b 8 from by rw [show i = 8 by omega]) dX2_weightOf_42
  · have c_9 := qq_nge (a := i) (b := 8) c_9 (by omega) (by omega)
    refine lv_iload_n hx hb dX2_weightOf_12 rfl (lv_at hl 2 rfl) ?_
    refine lv_iload hx hb dX2_weightOf_13 (lv_at hl 4 rfl) ?_
    refine lv_iushr hx hb dX2_weightOf_15 rfl ?_
    refine lv_iconst (v := 1) hx hb dX2_weightOf_16 (by decide) ?_
    refine lv_iand hx hb dX2_weightOf_17 ?_
    refine tp_i (x' := nI (bt_ b i)) (bt_u hbb (by omega)) ?_
    have hbt := bt_lt b i
    refine lv_if_eq (tgt := 35) hx hb dX2_weightOf_18 (by decide) (fun c_18 => ?_) (fun c_18 => ?_)
    · have c_18 := qq_eq (a := bt_ b i) (b := 0) c_18 (by omega) (by omega)
      refine lv_iinc (v := nI (i + 1)) (lv' := [(4, .int (nI (i + 1))), (0, .ref st), (1, .int (nI kh)), (2, .int (nI b)), (3, .int (wo_ fwt kh b i))]) hx hb dX2_weightOf_35 hl (k := 4) rfl (nI_1 _) (by decide) rfl (fun ls hl => ?_)
      refine lv_goto (tgt := 5) hx hb dX2_weightOf_38 (by decide) ?_
      have hl := lv_sub (l' := [(0, .ref st), (1, .int (nI kh)), (2, .int (nI b)), (3, .int (wo_ fwt kh b i)), (4, .int (nI (i + 1)))]) hl [1, 2, 3, 4, 0] rfl
      have q_3 : wo_ fwt kh b i = wo_ fwt kh b (i + 1) := by simp [wo_, c_18]
      have hl := cs_L (fun z_z => [(0, .ref st), (1, .int (nI kh)), (2, .int (nI b)), (3, .int z_z), (4, .int (nI (i + 1)))]) q_3 hl
      have hl : lv_has ls 5 [(0, .ref st), (1, .int (nI kh)), (2, .int (nI b)), (3, .int (wo_ fwt kh b (i + 1))), (4, .int (nI (i + 1)))] := hl
      exact ih_5 (i + 1) (show 8 - (i + 1) < 8 - i from by omega) (show ((i + 1) ≤ 8) from by omega) H locs ls hP hD hS hl
    · have c_18 := qq_ne (a := bt_ b i) (b := 0) c_18 (by omega) (by omega)
      refine lv_iload_n hx hb dX2_weightOf_21 rfl (lv_at hl 3 rfl) ?_
      refine lv_aload_n hx hb dX2_weightOf_22 rfl (lv_at hl 0 rfl) ?_
      refine va_get (ci := 2) (v := .ref wt) (C := RX2) (T := TX2) (N := 5) hx hb hts bi_2 hown hK hP 0 rfl rfl 0 (by decide) (hts _ bw_83) (fun _ h9 => h9) rfl dX2_weightOf_23 ?_
      refine lv_iload_n hx hb dX2_weightOf_26 rfl (lv_at hl 1 rfl) ?_
      refine lv_iload hx hb dX2_weightOf_27 (lv_at hl 4 rfl) ?_
      refine ca_NI (rest := [.ref wt, .int (wo_ fwt kh b i)]) (k_X5_setPlace l D cI cJ cZ kh i ) hx hb hml hown hts hN hK hA hP hD hS hN.2.2.1 bw_229 bw_1 bw_230 2 rfl (by decide +kernel) ⟨by decide, by decide⟩ hl.1 rfl (Nat.le_of_ble_eq_true rfl) dX2_weightOf_29 ⟨Nat.zero_le _, Nat.zero_le _⟩ (fun r_29 u_u H locs w_29 hP hD hS => ?_)
      have w_29 : r_29 = nI (kh * 8 + i) := w_29
      subst w_29
      refine ar_ld hx hb hK hP 1 (k := kh * 8 + i) rfl rfl (by omega) (by decide) dX2_weightOf_32 ?_
      refine lv_iadd hx hb dX2_weightOf_33 ?_
      refine lv_istore_n (lv' := [(3, .int ((wo_ fwt kh b i) + (fwt (kh * 8 + i)))), (0, .ref st), (1, .int (nI kh)), (2, .int (nI b)), (4, .int (nI i))]) hx hb dX2_weightOf_34 rfl hl (by decide) rfl (fun ls hl => ?_)
      refine lv_iinc (v := nI (i + 1)) (lv' := [(4, .int (nI (i + 1))), (3, .int ((wo_ fwt kh b i) + (fwt (kh * 8 + i)))), (0, .ref st), (1, .int (nI kh)), (2, .int (nI b))]) hx hb dX2_weightOf_35 hl (k := 4) rfl (nI_1 _) (by decide) rfl (fun ls hl => ?_)
      refine lv_goto (tgt := 5) hx hb dX2_weightOf_38 (by decide) ?_
      have hl := lv_sub (l' := [(0, .ref st), (1, .int (nI kh)), (2, .int (nI b)), (3, .int ((wo_ fwt kh b i) + (fwt (kh * 8 + i)))), (4, .int (nI (i + 1)))]) hl [2, 3, 4, 1, 0] rfl
      have q_4 : (wo_ fwt kh b i) + (fwt (kh * 8 + i)) = wo_ fwt kh b (i + 1) := by simp [wo_, c_18]
      have hl := cs_L (fun z_z => [(0, .ref st), (1, .int (nI kh)), (2, .int (nI b)), (3, .int z_z), (4, .int (nI (i + 1)))]) q_4 hl
      have hl : lv_has ls 5 [(0, .ref st), (1, .int (nI kh)), (2, .int (nI b)), (3, .int (wo_ fwt kh b (i + 1))), (4, .int (nI (i + 1)))] := hl
      exact ih_5 (i + 1) (show 8 - (i + 1) < 8 - i from by omega) (show ((i + 1) ≤ 8) from by omega) H locs ls hP hD hS hl

set_option maxHeartbeats 4000000 in
set_option maxRecDepth 100000 in
theorem k_X2_commonWeight (l : Launch) (D : va_G) (cI cJ cZ : ClassId) (st : Nat) (wt : Nat) (rw : Nat) (al : Nat) (br : Nat) (fx : Nat) (fwt : Nat → Int32) (ka : Nat) (kb : Nat) (ha : ka ≤ 100) (hb_ : kb ≤ 100) : mt_I l yX2_commonWeight cX2_commonWeight 5 .int 1 30 D cI cJ cZ [ob_J st 2 [.ref wt, .ref rw, .ref al, .ref br, .ref fx], ar_I wt cI 808 fwt] [.ref st, .int (nI ka), .int (nI kb)] (fun r (u_u : Unit) => r = sI_ (fun n => if fwt (kb * 8 + n) < fwt (ka * 8 + n) then fwt (kb * 8 + n) else fwt (ka * 8 + n)) 8) (fun u_u : Unit => [ob_J st 2 [.ref wt, .ref rw, .ref al, .ref br, .ref fx], ar_I wt cI 808 fwt]) := by
  refine en_I (by decide) (Nat.le_of_ble_eq_true rfl) ?_
  intro p e s m below meth c A ls H locs hx hb hr hml hts hown hlk hN hK hA hP hD hS hl
  have hown : s.vm.findClass RX2 = some m.cls := hown
  have hl : lv_has ls 5 [(0, .ref st), (1, .int (nI ka)), (2, .int (nI kb))] := hl
  refine lv_iconst (v := 0) hx hb dX2_commonWeight_0 (by decide) ?_
  refine lv_istore_n (lv' := [(3, .int 0), (0, .ref st), (1, .int (nI ka)), (2, .int (nI kb))]) hx hb dX2_commonWeight_1 rfl hl (by decide) rfl (fun ls hl => ?_)
  refine lv_iconst (v := 0) hx hb dX2_commonWeight_2 (by decide) ?_
  refine lv_istore (lv' := [(4, .int 0), (3, .int 0), (0, .ref st), (1, .int (nI ka)), (2, .int (nI kb))]) hx hb dX2_commonWeight_3 hl (by decide) rfl (fun ls hl => ?_)
  have hl := lv_sub (l' := [(0, .ref st), (1, .int (nI ka)), (2, .int (nI kb)), (3, .int 0), (4, .int 0)]) hl [2, 3, 4, 1, 0] rfl
  have q_1 : 0 = sI_ (fun n => if fwt (kb * 8 + n) < fwt (ka * 8 + n) then fwt (kb * 8 + n) else fwt (ka * 8 + n)) 0 := rfl
  have hl := cs_L (fun z_z => [(0, .ref st), (1, .int (nI ka)), (2, .int (nI kb)), (3, .int z_z), (4, .int 0)]) q_1 hl
  have q_2 : 0 = nI 0 := rfl
  have hl := cs_L (fun z_z => [(0, .ref st), (1, .int (nI ka)), (2, .int (nI kb)), (3, .int (sI_ (fun n => if fwt (kb * 8 + n) < fwt (ka * 8 + n) then fwt (kb * 8 + n) else fwt (ka * 8 + n)) 0)), (4, .int z_z)]) q_2 hl
  have hl : lv_has ls 5 [(0, .ref st), (1, .int (nI ka)), (2, .int (nI kb)), (3, .int (sI_ (fun n => if fwt (kb * 8 + n) < fwt (ka * 8 + n) then fwt (kb * 8 + n) else fwt (ka * 8 + n)) 0)), (4, .int (nI 0))] := hl
  refine lp_g (σ := Nat) (fun i => 8 - i) (fun i => [ob_J st 2 [.ref wt, .ref rw, .ref al, .ref br, .ref fx], ar_I wt cI 808 fwt]) (fun i => [(0, .ref st), (1, .int (nI ka)), (2, .int (nI kb)), (3, .int (sI_ (fun n => if fwt (kb * 8 + n) < fwt (ka * 8 + n) then fwt (kb * 8 + n) else fwt (ka * 8 + n)) i)), (4, .int (nI i))]) (fun i => (i ≤ 8)) ?_ 0 (show (0 ≤ 8) from by omega) hP hD hS hl
  intro i H locs ls hF hP hD hS hl ih_5
  have hF : (i ≤ 8) := hF
  have hi := hF
  have hP : va_P D cl_A [ob_J st 2 [.ref wt, .ref rw, .ref al, .ref br, .ref fx], ar_I wt cI 808 fwt] H := hP
  have hD : va_D A [ob_J st 2 [.ref wt, .ref rw, .ref al, .ref br, .ref fx], ar_I wt cI 808 fwt] := hD
  have hl : lv_has ls 5 [(0, .ref st), (1, .int (nI ka)), (2, .int (nI kb)), (3, .int (sI_ (fun n => if fwt (kb * 8 + n) < fwt (ka * 8 + n) then fwt (kb * 8 + n) else fwt (ka * 8 + n)) i)), (4, .int (nI i))] := hl
  refine lv_iload hx hb dX2_commonWeight_5 (lv_at hl 4 rfl) ?_
  refine lv_bipush (v := 8) hx hb dX2_commonWeight_7 (by decide) ?_
  refine lv_icmp_ge (tgt := 46) hx hb dX2_commonWeight_9 (by decide) (fun c_9 => ?_) (fun c_9 => ?_)
  · have c_9 := qq_ge (a := i) (b := 8) c_9 (by omega) (by omega)
    refine lv_iload_n hx hb dX2_commonWeight_46 rfl (lv_at hl 3 rfl) ?_
    exact re_I (w1 := fun u_u : Unit => [ob_J st 2 [.ref wt, .ref rw, .ref al, .ref br, .ref fx], ar_I wt cI 808 fwt]) (v := sI_ (fun n => if fwt (kb * 8 + n) < fwt (ka * 8 + n) then fwt (kb * 8 + n) else fwt (ka * 8 + n)) i) hx hb hr hlk hK hS rfl () hP hD (show sI_ (fun n => if fwt (kb * 8 + n) < fwt (ka * 8 + n) then fwt (kb * 8 + n) else fwt (ka * 8 + n)) i = sI_ (fun n => if fwt (kb * 8 + n) < fwt (ka * 8 + n) then fwt (kb * 8 + n) else fwt (ka * 8 + n)) 8 from by rw [show i = 8 by omega]) dX2_commonWeight_47
  · have c_9 := qq_nge (a := i) (b := 8) c_9 (by omega) (by omega)
    refine lv_iload_n hx hb dX2_commonWeight_12 rfl (lv_at hl 3 rfl) ?_
    refine lv_aload_n hx hb dX2_commonWeight_13 rfl (lv_at hl 0 rfl) ?_
    refine va_get (ci := 2) (v := .ref wt) (C := RX2) (T := TX2) (N := 5) hx hb hts bi_2 hown hK hP 0 rfl rfl 0 (by decide) (hts _ bw_83) (fun _ h9 => h9) rfl dX2_commonWeight_14 ?_
    refine lv_iload_n hx hb dX2_commonWeight_17 rfl (lv_at hl 1 rfl) ?_
    refine lv_iload hx hb dX2_commonWeight_18 (lv_at hl 4 rfl) ?_
    refine ca_NI (rest := [.ref wt, .int (sI_ (fun n => if fwt (kb * 8 + n) < fwt (ka * 8 + n) then fwt (kb * 8 + n) else fwt (ka * 8 + n)) i)]) (k_X5_setPlace l D cI cJ cZ ka i ) hx hb hml hown hts hN hK hA hP hD hS hN.2.2.1 bw_229 bw_1 bw_230 2 rfl (by decide +kernel) ⟨by decide, by decide⟩ hl.1 rfl (Nat.le_of_ble_eq_true rfl) dX2_commonWeight_20 ⟨Nat.zero_le _, Nat.zero_le _⟩ (fun r_20 u_u H locs w_20 hP hD hS => ?_)
    have w_20 : r_20 = nI (ka * 8 + i) := w_20
    subst w_20
    refine ar_ld hx hb hK hP 1 (k := ka * 8 + i) rfl rfl (by omega) (by decide) dX2_commonWeight_23 ?_
    refine lv_aload_n hx hb dX2_commonWeight_24 rfl (lv_at hl 0 rfl) ?_
    refine va_get (ci := 2) (v := .ref wt) (C := RX2) (T := TX2) (N := 5) hx hb hts bi_2 hown hK hP 0 rfl rfl 0 (by decide) (hts _ bw_83) (fun _ h9 => h9) rfl dX2_commonWeight_25 ?_
    refine lv_iload_n hx hb dX2_commonWeight_28 rfl (lv_at hl 2 rfl) ?_
    refine lv_iload hx hb dX2_commonWeight_29 (lv_at hl 4 rfl) ?_
    refine ca_NI (rest := [.ref wt, .int (fwt (ka * 8 + i)), .int (sI_ (fun n => if fwt (kb * 8 + n) < fwt (ka * 8 + n) then fwt (kb * 8 + n) else fwt (ka * 8 + n)) i)]) (k_X5_setPlace l D cI cJ cZ kb i ) hx hb hml hown hts hN hK hA hP hD hS hN.2.2.1 bw_229 bw_1 bw_230 2 rfl (by decide +kernel) ⟨by decide, by decide⟩ hl.1 rfl (Nat.le_of_ble_eq_true rfl) dX2_commonWeight_31 ⟨Nat.zero_le _, Nat.zero_le _⟩ (fun r_31 u_u H locs w_31 hP hD hS => ?_)
    have w_31 : r_31 = nI (kb * 8 + i) := w_31
    subst w_31
    refine ar_ld hx hb hK hP 1 (k := kb * 8 + i) rfl rfl (by omega) (by decide) dX2_commonWeight_34 ?_
    refine va_mmin hx hb (hml.trans hl.1.symm) hown (hts _ bw_358) (hts _ bw_274) (hts _ bw_9) (hts _ bw_275) (by decide) (Nat.le_of_ble_eq_true rfl) (Nat.zero_le _) (Nat.zero_le _) dX2_commonWeight_35 ?_
    refine lv_iadd hx hb dX2_commonWeight_38 ?_
    refine lv_istore_n (lv' := [(3, .int ((sI_ (fun n => if fwt (kb * 8 + n) < fwt (ka * 8 + n) then fwt (kb * 8 + n) else fwt (ka * 8 + n)) i) + (if fwt (kb * 8 + i) < fwt (ka * 8 + i) then fwt (kb * 8 + i) else fwt (ka * 8 + i)))), (0, .ref st), (1, .int (nI ka)), (2, .int (nI kb)), (4, .int (nI i))]) hx hb dX2_commonWeight_39 rfl hl (by decide) rfl (fun ls hl => ?_)
    refine lv_iinc (v := nI (i + 1)) (lv' := [(4, .int (nI (i + 1))), (3, .int ((sI_ (fun n => if fwt (kb * 8 + n) < fwt (ka * 8 + n) then fwt (kb * 8 + n) else fwt (ka * 8 + n)) i) + (if fwt (kb * 8 + i) < fwt (ka * 8 + i) then fwt (kb * 8 + i) else fwt (ka * 8 + i)))), (0, .ref st), (1, .int (nI ka)), (2, .int (nI kb))]) hx hb dX2_commonWeight_40 hl (k := 4) rfl (nI_1 _) (by decide) rfl (fun ls hl => ?_)
    refine lv_goto (tgt := 5) hx hb dX2_commonWeight_43 (by decide) ?_
    have hl := lv_sub (l' := [(0, .ref st), (1, .int (nI ka)), (2, .int (nI kb)), (3, .int ((sI_ (fun n => if fwt (kb * 8 + n) < fwt (ka * 8 + n) then fwt (kb * 8 + n) else fwt (ka * 8 + n)) i) + (if fwt (kb * 8 + i) < fwt (ka * 8 + i) then fwt (kb * 8 + i) else fwt (ka * 8 + i)))), (4, .int (nI (i + 1)))]) hl [2, 3, 4, 1, 0] rfl
    have q_3 : (sI_ (fun n => if fwt (kb * 8 + n) < fwt (ka * 8 + n) then fwt (kb * 8 + n) else fwt (ka * 8 + n)) i) + (if fwt (kb * 8 + i) < fwt (ka * 8 + i) then fwt (kb * 8 + i) else fwt (ka * 8 + i)) = sI_ (fun n => if fwt (kb * 8 + n) < fwt (ka * 8 + n) then fwt (kb * 8 + n) else fwt (ka * 8 + n)) (i + 1) := rfl
    have hl := cs_L (fun z_z => [(0, .ref st), (1, .int (nI ka)), (2, .int (nI kb)), (3, .int z_z), (4, .int (nI (i + 1)))]) q_3 hl
    have hl : lv_has ls 5 [(0, .ref st), (1, .int (nI ka)), (2, .int (nI kb)), (3, .int (sI_ (fun n => if fwt (kb * 8 + n) < fwt (ka * 8 + n) then fwt (kb * 8 + n) else fwt (ka * 8 + n)) (i + 1))), (4, .int (nI (i + 1)))] := hl
    exact ih_5 (i + 1) (show 8 - (i + 1) < 8 - i from by omega) (show ((i + 1) ≤ 8) from by omega) H locs ls hP hD hS hl

set_option maxHeartbeats 4000000 in
set_option maxRecDepth 100000 in
theorem k_X2_isGood (l : Launch) (D : va_G) (cI cJ cZ : ClassId) (st : Nat) (wt : Nat) (al : Nat) (rw : Nat) (br : Nat) (fx : Nat) (fwt : Nat → Int32) (fal : Nat → Int32) (kh : Nat) (b : Nat) (hh : kh ≤ 100) (hbb : b < 256) : mt_I l yX2_isGood cX2_isGood 3 .boolean 2 45 D cI cJ cZ [ob_J st 2 [.ref wt, .ref rw, .ref al, .ref br, .ref fx], ar_I wt cI 808 fwt, ar_I al cI 101 fal] [.ref st, .int (nI kh), .int (nI b)] (fun r (_ : Unit) => r = if 2 * fal kh < 3 * wo_ fwt kh b 8 then 1 else 0) (fun u_u : Unit => [ob_J st 2 [.ref wt, .ref rw, .ref al, .ref br, .ref fx], ar_I wt cI 808 fwt, ar_I al cI 101 fal]) := by
  refine en_I (by decide) (Nat.le_of_ble_eq_true rfl) ?_
  intro p e s m below meth c A ls H locs hx hb hr hml hts hown hlk hN hK hA hP hD hS hl
  have hown : s.vm.findClass RX2 = some m.cls := hown
  have hl : lv_has ls 3 [(0, .ref st), (1, .int (nI kh)), (2, .int (nI b))] := hl
  refine lv_iconst (v := 3) hx hb dX2_isGood_0 (by decide) ?_
  refine lv_aload_n hx hb dX2_isGood_1 rfl (lv_at hl 0 rfl) ?_
  refine lv_iload_n hx hb dX2_isGood_2 rfl (lv_at hl 1 rfl) ?_
  refine lv_iload_n hx hb dX2_isGood_3 rfl (lv_at hl 2 rfl) ?_
  refine ca_VI (rest := [.int 3]) (wr := [ar_I al cI 101 fal]) (w2 := fun u_u => [ob_J st 2 [.ref wt, .ref rw, .ref al, .ref br, .ref fx], ar_I wt cI 808 fwt, ar_I al cI 101 fal]) (k_X2_weightOf l D cI cJ cZ st wt rw al br fx fwt kh b (by first | assumption | omega) (by first | assumption | omega)) hx hb hml hown hts hN hK hA hP hD hS 2 0 rfl rfl bw_333 bw_334 bw_335 bw_4 bw_336 2 rfl (by decide +kernel) ⟨by decide, by decide⟩ [0, 1] [2] [1, 2, 0] rfl rfl (by decide) (fun _ => rfl) hl.1 rfl (Nat.le_of_ble_eq_true rfl) dX2_isGood_4 ⟨Nat.zero_le _, Nat.zero_le _⟩ (fun r_4 u_u H locs w_4 hP hD hS => ?_)
  have hP : va_P D cl_A [ob_J st 2 [.ref wt, .ref rw, .ref al, .ref br, .ref fx], ar_I wt cI 808 fwt, ar_I al cI 101 fal] H := hP
  have hD : va_D A [ob_J st 2 [.ref wt, .ref rw, .ref al, .ref br, .ref fx], ar_I wt cI 808 fwt, ar_I al cI 101 fal] := hD
  have w_4 : r_4 = wo_ fwt kh b 8 := w_4
  subst w_4
  refine lv_imul hx hb dX2_isGood_7 ?_
  refine lv_iconst (v := 2) hx hb dX2_isGood_8 (by decide) ?_
  refine lv_aload_n hx hb dX2_isGood_9 rfl (lv_at hl 0 rfl) ?_
  refine va_get (ci := 2) (v := .ref al) (C := RX2) (T := TX2) (N := 5) hx hb hts bi_2 hown hK hP 0 rfl rfl 2 (by decide) (hts _ bw_87) (fun _ h9 => h9) rfl dX2_isGood_10 ?_
  refine lv_iload_n hx hb dX2_isGood_13 rfl (lv_at hl 1 rfl) ?_
  refine ar_ld hx hb hK hP 2 (k := kh) rfl rfl (by omega) (by decide) dX2_isGood_14 ?_
  refine lv_imul hx hb dX2_isGood_15 ?_
  refine lv_icmp_le (tgt := 23) hx hb dX2_isGood_16 (by decide) (fun c_16 => ?_) (fun c_16 => ?_)
  · refine lv_iconst (v := 0) hx hb dX2_isGood_23 (by decide) ?_
    exact re_I (w1 := fun u_u : Unit => [ob_J st 2 [.ref wt, .ref rw, .ref al, .ref br, .ref fx], ar_I wt cI 808 fwt, ar_I al cI 101 fal]) (v := 0) hx hb hr hlk hK hS rfl () hP hD (show _ = if 2 * fal kh < 3 * wo_ fwt kh b 8 then _ else _ from (if_neg (Int32.not_lt.mpr c_16)).symm) dX2_isGood_24
  · refine lv_iconst (v := 1) hx hb dX2_isGood_19 (by decide) ?_
    refine lv_goto (tgt := 24) hx hb dX2_isGood_20 (by decide) ?_
    exact re_I (w1 := fun u_u : Unit => [ob_J st 2 [.ref wt, .ref rw, .ref al, .ref br, .ref fx], ar_I wt cI 808 fwt, ar_I al cI 101 fal]) (v := 1) hx hb hr hlk hK hS rfl () hP hD (show _ = if 2 * fal kh < 3 * wo_ fwt kh b 8 then _ else _ from (if_pos (Int32.not_le.mp c_16)).symm) dX2_isGood_24

set_option maxHeartbeats 4000000 in
set_option maxRecDepth 100000 in
theorem k_X2_allowsJump (l : Launch) (D : va_G) (cI cJ cZ : ClassId) (st : Nat) (wt : Nat) (al : Nat) (rw : Nat) (br : Nat) (fx : Nat) (fwt : Nat → Int32) (fal : Nat → Int32) (kf : Nat) (kt : Nat) (b : Nat) (hf : kf ≤ 100) (ht : kt ≤ 100) (hbb : b < 256) : mt_I l yX2_allowsJump cX2_allowsJump 4 .boolean 3 67 D cI cJ cZ [ob_J st 2 [.ref wt, .ref rw, .ref al, .ref br, .ref fx], ar_I wt cI 808 fwt, ar_I al cI 101 fal] [.ref st, .int (nI kf), .int (nI kt), .int (nI b)] (fun r (_ : Unit) => r = if 2 * fal kt < 3 * wo_ fwt kt b 8 ∧ fal kf < 3 * wo_ fwt kf b 8 then 1 else 0) (fun u_u : Unit => [ob_J st 2 [.ref wt, .ref rw, .ref al, .ref br, .ref fx], ar_I wt cI 808 fwt, ar_I al cI 101 fal]) := by
  refine en_I (by decide) (Nat.le_of_ble_eq_true rfl) ?_
  intro p e s m below meth c A ls H locs hx hb hr hml hts hown hlk hN hK hA hP hD hS hl
  have hown : s.vm.findClass RX2 = some m.cls := hown
  have hl : lv_has ls 4 [(0, .ref st), (1, .int (nI kf)), (2, .int (nI kt)), (3, .int (nI b))] := hl
  refine lv_aload_n hx hb dX2_allowsJump_0 rfl (lv_at hl 0 rfl) ?_
  refine lv_iload_n hx hb dX2_allowsJump_1 rfl (lv_at hl 2 rfl) ?_
  refine lv_iload_n hx hb dX2_allowsJump_2 rfl (lv_at hl 3 rfl) ?_
  refine ca_VI (rest := []) (wr := []) (w2 := fun u_u => [ob_J st 2 [.ref wt, .ref rw, .ref al, .ref br, .ref fx], ar_I wt cI 808 fwt, ar_I al cI 101 fal]) (k_X2_isGood l D cI cJ cZ st wt al rw br fx fwt fal kt b (by first | assumption | omega) (by first | assumption | omega)) hx hb hml hown hts hN hK hA hP hD hS 2 0 rfl rfl bw_349 bw_330 bw_331 bw_4 bw_332 2 rfl (by decide +kernel) ⟨by decide, by decide⟩ [0, 1, 2] [] [0, 1, 2] rfl rfl (by decide) (fun _ => rfl) hl.1 rfl (Nat.le_of_ble_eq_true rfl) dX2_allowsJump_3 ⟨Nat.zero_le _, Nat.zero_le _⟩ (fun r_3 u_u H locs w_3 hP hD hS => ?_)
  have hP : va_P D cl_A [ob_J st 2 [.ref wt, .ref rw, .ref al, .ref br, .ref fx], ar_I wt cI 808 fwt, ar_I al cI 101 fal] H := hP
  have hD : va_D A [ob_J st 2 [.ref wt, .ref rw, .ref al, .ref br, .ref fx], ar_I wt cI 808 fwt, ar_I al cI 101 fal] := hD
  have w_3 : r_3 = if 2 * fal kt < 3 * wo_ fwt kt b 8 then 1 else 0 := w_3
  by_cases h_3 : 2 * fal kt < 3 * wo_ fwt kt b 8
  · rw [if_pos h_3] at w_3; subst w_3
    refine lv_if_eq (tgt := 30) hx hb dX2_allowsJump_6 (by decide) (fun h9 => absurd h9 (by decide)) (fun _ => ?_)
    refine lv_iconst (v := 3) hx hb dX2_allowsJump_9 (by decide) ?_
    refine lv_aload_n hx hb dX2_allowsJump_10 rfl (lv_at hl 0 rfl) ?_
    refine lv_iload_n hx hb dX2_allowsJump_11 rfl (lv_at hl 1 rfl) ?_
    refine lv_iload_n hx hb dX2_allowsJump_12 rfl (lv_at hl 3 rfl) ?_
    refine ca_VI (rest := [.int 3]) (wr := [ar_I al cI 101 fal]) (w2 := fun u_u => [ob_J st 2 [.ref wt, .ref rw, .ref al, .ref br, .ref fx], ar_I wt cI 808 fwt, ar_I al cI 101 fal]) (k_X2_weightOf l D cI cJ cZ st wt rw al br fx fwt kf b (by first | assumption | omega) (by first | assumption | omega)) hx hb hml hown hts hN hK hA hP hD hS 2 0 rfl rfl bw_333 bw_334 bw_335 bw_4 bw_336 2 rfl (by decide +kernel) ⟨by decide, by decide⟩ [0, 1] [2] [1, 2, 0] rfl rfl (by decide) (fun _ => rfl) hl.1 rfl (Nat.le_of_ble_eq_true rfl) dX2_allowsJump_13 ⟨Nat.zero_le _, Nat.zero_le _⟩ (fun r_13 u_u H locs w_13 hP hD hS => ?_)
    have hP : va_P D cl_A [ob_J st 2 [.ref wt, .ref rw, .ref al, .ref br, .ref fx], ar_I wt cI 808 fwt, ar_I al cI 101 fal] H := hP
    have hD : va_D A [ob_J st 2 [.ref wt, .ref rw, .ref al, .ref br, .ref fx], ar_I wt cI 808 fwt, ar_I al cI 101 fal] := hD
    have w_13 : r_13 = wo_ fwt kf b 8 := w_13
    subst w_13
    refine lv_imul hx hb dX2_allowsJump_16 ?_
    refine lv_aload_n hx hb dX2_allowsJump_17 rfl (lv_at hl 0 rfl) ?_
    refine va_get (ci := 2) (v := .ref al) (C := RX2) (T := TX2) (N := 5) hx hb hts bi_2 hown hK hP 0 rfl rfl 2 (by decide) (hts _ bw_87) (fun _ h9 => h9) rfl dX2_allowsJump_18 ?_
    refine lv_iload_n hx hb dX2_allowsJump_21 rfl (lv_at hl 1 rfl) ?_
    refine ar_ld hx hb hK hP 2 (k := kf) rfl rfl (by omega) (by decide) dX2_allowsJump_22 ?_
    refine lv_icmp_le (tgt := 30) hx hb dX2_allowsJump_23 (by decide) (fun c_23 => ?_) (fun c_23 => ?_)
    · refine lv_iconst (v := 0) hx hb dX2_allowsJump_30 (by decide) ?_
      exact re_I (w1 := fun u_u : Unit => [ob_J st 2 [.ref wt, .ref rw, .ref al, .ref br, .ref fx], ar_I wt cI 808 fwt, ar_I al cI 101 fal]) (v := 0) hx hb hr hlk hK hS rfl () hP hD (show _ = if 2 * fal kt < 3 * wo_ fwt kt b 8 ∧ fal kf < 3 * wo_ fwt kf b 8 then _ else _ from (if_neg (fun z => absurd z.2 (Int32.not_lt.mpr c_23))).symm) dX2_allowsJump_31
    · refine lv_iconst (v := 1) hx hb dX2_allowsJump_26 (by decide) ?_
      refine lv_goto (tgt := 31) hx hb dX2_allowsJump_27 (by decide) ?_
      exact re_I (w1 := fun u_u : Unit => [ob_J st 2 [.ref wt, .ref rw, .ref al, .ref br, .ref fx], ar_I wt cI 808 fwt, ar_I al cI 101 fal]) (v := 1) hx hb hr hlk hK hS rfl () hP hD (show _ = if 2 * fal kt < 3 * wo_ fwt kt b 8 ∧ fal kf < 3 * wo_ fwt kf b 8 then _ else _ from (if_pos ⟨h_3, Int32.not_le.mp c_23⟩).symm) dX2_allowsJump_31
  · rw [if_neg h_3] at w_3; subst w_3
    refine lv_if_eq (tgt := 30) hx hb dX2_allowsJump_6 (by decide) (fun _ => ?_) (fun h9 => absurd (by decide) h9)
    refine lv_iconst (v := 0) hx hb dX2_allowsJump_30 (by decide) ?_
    exact re_I (w1 := fun u_u : Unit => [ob_J st 2 [.ref wt, .ref rw, .ref al, .ref br, .ref fx], ar_I wt cI 808 fwt, ar_I al cI 101 fal]) (v := 0) hx hb hr hlk hK hS rfl () hP hD (show _ = if 2 * fal kt < 3 * wo_ fwt kt b 8 ∧ fal kf < 3 * wo_ fwt kf b 8 then _ else _ from (if_neg (fun z => h_3 z.1)).symm) dX2_allowsJump_31

set_option maxHeartbeats 4000000 in
set_option maxRecDepth 100000 in
theorem k_X3_giveOneByRest (l : Launch) (D : va_G) (cI cJ cZ : ClassId) (sh : Nat) (gv : Nat) (rs : Nat) (fgv : Nat → Int32) (frs : Nat → Int64) (n : Nat) (hn1 : 1 ≤ n) (hn : n ≤ 10) : mt_V l yX3_giveOneByRest cX3_giveOneByRest 4 0 0 D cI cJ cZ [ob_J sh 3 [.ref gv, .ref rs], ar_I gv cI 10 fgv, ar_L rs cJ 10 frs] [.ref sh, .int (nI n)] (fun u_u : Unit => True) (fun u_u : Unit => [ob_J sh 3 [.ref gv, .ref rs], ar_I gv cI 10 (upd fgv (am_ frs n) (fgv (am_ frs n) + 1)), ar_L rs cJ 10 (vp_updL frs (am_ frs n) (-1))]) := by
  refine en_V (by decide) (Nat.le_of_ble_eq_true rfl) ?_
  intro p e s m below meth c A ls H locs hx hb hr hml hts hown hlk hN hK hA hP hD hS hl
  have hown : s.vm.findClass RX3 = some m.cls := hown
  have hl : lv_has ls 4 [(0, .ref sh), (1, .int (nI n))] := hl
  refine lv_iconst (v := 0) hx hb dX3_giveOneByRest_0 (by decide) ?_
  refine lv_istore_n (lv' := [(2, .int 0), (0, .ref sh), (1, .int (nI n))]) hx hb dX3_giveOneByRest_1 rfl hl (by decide) rfl (fun ls hl => ?_)
  refine lv_iconst (v := 1) hx hb dX3_giveOneByRest_2 (by decide) ?_
  refine lv_istore_n (lv' := [(3, .int 1), (2, .int 0), (0, .ref sh), (1, .int (nI n))]) hx hb dX3_giveOneByRest_3 rfl hl (by decide) rfl (fun ls hl => ?_)
  have hl := lv_sub (l' := [(0, .ref sh), (1, .int (nI n)), (2, .int 0), (3, .int 1)]) hl [2, 3, 1, 0] rfl
  have q_1 : 0 = nI (am_ frs 1) := congrArg nI (am_1 frs).symm
  have hl := cs_L (fun z_z => [(0, .ref sh), (1, .int (nI n)), (2, .int z_z), (3, .int 1)]) q_1 hl
  have q_2 : 1 = nI 1 := rfl
  have hl := cs_L (fun z_z => [(0, .ref sh), (1, .int (nI n)), (2, .int (nI (am_ frs 1))), (3, .int z_z)]) q_2 hl
  have hl : lv_has ls 4 [(0, .ref sh), (1, .int (nI n)), (2, .int (nI (am_ frs 1))), (3, .int (nI 1))] := hl
  refine lp_g (σ := Nat) (fun i => n - i) (fun i => [ob_J sh 3 [.ref gv, .ref rs], ar_I gv cI 10 fgv, ar_L rs cJ 10 frs]) (fun i => [(0, .ref sh), (1, .int (nI n)), (2, .int (nI (am_ frs i))), (3, .int (nI i))]) (fun i => (1 ≤ i) ∧ (i ≤ n)) ?_ 1 (show (1 ≤ 1) ∧ (1 ≤ n) from ⟨by omega, by omega⟩) hP hD hS hl
  intro i H locs ls hF hP hD hS hl ih_4
  have hF : (1 ≤ i) ∧ (i ≤ n) := hF
  obtain ⟨hi1, hi⟩ := hF
  have hP : va_P D cl_A [ob_J sh 3 [.ref gv, .ref rs], ar_I gv cI 10 fgv, ar_L rs cJ 10 frs] H := hP
  have hD : va_D A [ob_J sh 3 [.ref gv, .ref rs], ar_I gv cI 10 fgv, ar_L rs cJ 10 frs] := hD
  have hl : lv_has ls 4 [(0, .ref sh), (1, .int (nI n)), (2, .int (nI (am_ frs i))), (3, .int (nI i))] := hl
  have hal := am_lt frs i
  refine lv_iload_n hx hb dX3_giveOneByRest_4 rfl (lv_at hl 3 rfl) ?_
  refine lv_iload_n hx hb dX3_giveOneByRest_5 rfl (lv_at hl 1 rfl) ?_
  refine lv_icmp_ge (tgt := 33) hx hb dX3_giveOneByRest_6 (by decide) (fun c_6 => ?_) (fun c_6 => ?_)
  · have c_6 := qq_ge (a := i) (b := n) c_6 (by omega) (by omega)
    refine lv_aload_n hx hb dX3_giveOneByRest_33 rfl (lv_at hl 0 rfl) ?_
    refine va_get (ci := 3) (v := .ref gv) (C := RX3) (T := TX3) (N := 2) hx hb hts bi_3 hown hK hP 0 rfl rfl 0 (by decide) (hts _ bw_110) (fun _ h9 => h9) rfl dX3_giveOneByRest_34 ?_
    refine lv_iload_n hx hb dX3_giveOneByRest_37 rfl (lv_at hl 2 rfl) ?_
    refine lv_dup2_11 hx hb dX3_giveOneByRest_38 rfl rfl ?_
    refine ar_ld hx hb hK hP 1 (k := am_ frs i) rfl rfl (by omega) (by decide) dX3_giveOneByRest_39 ?_
    refine lv_iconst (v := 1) hx hb dX3_giveOneByRest_40 (by decide) ?_
    refine lv_iadd hx hb dX3_giveOneByRest_41 ?_
    refine ar_st hx hb hK hP hD hS 1 (k := am_ frs i) rfl rfl (by omega) (by decide) dX3_giveOneByRest_42 _ rfl (fun H locs hP hD hS => ?_)
    have hP : va_P D cl_A [ob_J sh 3 [.ref gv, .ref rs], ar_I gv cI 10 (upd fgv (am_ frs i) ((fgv (am_ frs i)) + 1)), ar_L rs cJ 10 frs] H := hP
    have hD : va_D A [ob_J sh 3 [.ref gv, .ref rs], ar_I gv cI 10 (upd fgv (am_ frs i) ((fgv (am_ frs i)) + 1)), ar_L rs cJ 10 frs] := hD
    refine lv_aload_n hx hb dX3_giveOneByRest_43 rfl (lv_at hl 0 rfl) ?_
    refine va_get (ci := 3) (v := .ref rs) (C := RX3) (T := TX3) (N := 2) hx hb hts bi_3 hown hK hP 0 rfl rfl 1 (by decide) (hts _ bw_112) (fun _ h9 => h9) rfl dX3_giveOneByRest_44 ?_
    refine lv_iload_n hx hb dX3_giveOneByRest_47 rfl (lv_at hl 2 rfl) ?_
    refine lv_ldc2 hx hb hown (hts _ bw_243) dX3_giveOneByRest_48 ?_
    refine ar_lst hx hb hK hP hD hS 2 (k := am_ frs i) rfl rfl (by omega) (by decide) dX3_giveOneByRest_51 _ rfl (fun H locs hP hD hS => ?_)
    have hP : va_P D cl_A [ob_J sh 3 [.ref gv, .ref rs], ar_I gv cI 10 (upd fgv (am_ frs i) ((fgv (am_ frs i)) + 1)), ar_L rs cJ 10 (vp_updL frs (am_ frs i) (-1))] H := hP
    have hD : va_D A [ob_J sh 3 [.ref gv, .ref rs], ar_I gv cI 10 (upd fgv (am_ frs i) ((fgv (am_ frs i)) + 1)), ar_L rs cJ 10 (vp_updL frs (am_ frs i) (-1))] := hD
    have q_3 : upd fgv (am_ frs i) ((fgv (am_ frs i)) + 1) = upd fgv (am_ frs n) (fgv (am_ frs n) + 1) := by rw [show i = n by omega]
    obtain ⟨hP, hD⟩ := cs_W (fun z_z => [ob_J sh 3 [.ref gv, .ref rs], ar_I gv cI 10 z_z, ar_L rs cJ 10 (vp_updL frs (am_ frs i) (-1))]) q_3 hP hD
    have q_4 : vp_updL frs (am_ frs i) (-1) = vp_updL frs (am_ frs n) (-1) := by rw [show i = n by omega]
    obtain ⟨hP, hD⟩ := cs_W (fun z_z => [ob_J sh 3 [.ref gv, .ref rs], ar_I gv cI 10 (upd fgv (am_ frs n) (fgv (am_ frs n) + 1)), ar_L rs cJ 10 z_z]) q_4 hP hD
    exact re_V (w1 := fun u_u : Unit => [ob_J sh 3 [.ref gv, .ref rs], ar_I gv cI 10 (upd fgv (am_ frs n) (fgv (am_ frs n) + 1)), ar_L rs cJ 10 (vp_updL frs (am_ frs n) (-1))]) hx hb hr hlk hK hS () hP hD trivial dX3_giveOneByRest_52
  · have c_6 := qq_nge (a := i) (b := n) c_6 (by omega) (by omega)
    refine lv_aload_n hx hb dX3_giveOneByRest_9 rfl (lv_at hl 0 rfl) ?_
    refine va_get (ci := 3) (v := .ref rs) (C := RX3) (T := TX3) (N := 2) hx hb hts bi_3 hown hK hP 0 rfl rfl 1 (by decide) (hts _ bw_112) (fun _ h9 => h9) rfl dX3_giveOneByRest_10 ?_
    refine lv_iload_n hx hb dX3_giveOneByRest_13 rfl (lv_at hl 3 rfl) ?_
    refine ar_lld hx hb hK hP 2 (k := i) rfl rfl (by omega) (by decide) dX3_giveOneByRest_14 ?_
    refine lv_aload_n hx hb dX3_giveOneByRest_15 rfl (lv_at hl 0 rfl) ?_
    refine va_get (ci := 3) (v := .ref rs) (C := RX3) (T := TX3) (N := 2) hx hb hts bi_3 hown hK hP 0 rfl rfl 1 (by decide) (hts _ bw_112) (fun _ h9 => h9) rfl dX3_giveOneByRest_16 ?_
    refine lv_iload_n hx hb dX3_giveOneByRest_19 rfl (lv_at hl 2 rfl) ?_
    refine ar_lld hx hb hK hP 2 (k := am_ frs i) rfl rfl (by omega) (by decide) dX3_giveOneByRest_20 ?_
    refine W.lcmp hx hb dX3_giveOneByRest_21 ?_
    refine lv_if_le (tgt := 27) hx hb dX3_giveOneByRest_22 (by decide) (fun c_22 => ?_) (fun c_22 => ?_)
    · have c_22 := lc_le c_22
      refine lv_iinc (v := nI (i + 1)) (lv' := [(3, .int (nI (i + 1))), (0, .ref sh), (1, .int (nI n)), (2, .int (nI (am_ frs i)))]) hx hb dX3_giveOneByRest_27 hl (k := 3) rfl (nI_1 _) (by decide) rfl (fun ls hl => ?_)
      refine lv_goto (tgt := 4) hx hb dX3_giveOneByRest_30 (by decide) ?_
      have hl := lv_sub (l' := [(0, .ref sh), (1, .int (nI n)), (2, .int (nI (am_ frs i))), (3, .int (nI (i + 1)))]) hl [1, 2, 3, 0] rfl
      have q_5 : nI (am_ frs i) = nI (am_ frs (i + 1)) := congrArg nI (by rw [am_s, if_neg c_22])
      have hl := cs_L (fun z_z => [(0, .ref sh), (1, .int (nI n)), (2, .int z_z), (3, .int (nI (i + 1)))]) q_5 hl
      have hl : lv_has ls 4 [(0, .ref sh), (1, .int (nI n)), (2, .int (nI (am_ frs (i + 1)))), (3, .int (nI (i + 1)))] := hl
      exact ih_4 (i + 1) (show n - (i + 1) < n - i from by omega) (show (1 ≤ (i + 1)) ∧ ((i + 1) ≤ n) from ⟨by omega, by omega⟩) H locs ls hP hD hS hl
    · have c_22 := lc_nle c_22
      refine lv_iload_n hx hb dX3_giveOneByRest_25 rfl (lv_at hl 3 rfl) ?_
      refine lv_istore_n (lv' := [(2, .int (nI i)), (0, .ref sh), (1, .int (nI n)), (3, .int (nI i))]) hx hb dX3_giveOneByRest_26 rfl hl (by decide) rfl (fun ls hl => ?_)
      refine lv_iinc (v := nI (i + 1)) (lv' := [(3, .int (nI (i + 1))), (2, .int (nI i)), (0, .ref sh), (1, .int (nI n))]) hx hb dX3_giveOneByRest_27 hl (k := 3) rfl (nI_1 _) (by decide) rfl (fun ls hl => ?_)
      refine lv_goto (tgt := 4) hx hb dX3_giveOneByRest_30 (by decide) ?_
      have hl := lv_sub (l' := [(0, .ref sh), (1, .int (nI n)), (2, .int (nI i)), (3, .int (nI (i + 1)))]) hl [2, 3, 1, 0] rfl
      have q_6 : nI i = nI (am_ frs (i + 1)) := congrArg nI (by rw [am_s, if_pos c_22])
      have hl := cs_L (fun z_z => [(0, .ref sh), (1, .int (nI n)), (2, .int z_z), (3, .int (nI (i + 1)))]) q_6 hl
      have hl : lv_has ls 4 [(0, .ref sh), (1, .int (nI n)), (2, .int (nI (am_ frs (i + 1)))), (3, .int (nI (i + 1)))] := hl
      exact ih_4 (i + 1) (show n - (i + 1) < n - i from by omega) (show (1 ≤ (i + 1)) ∧ ((i + 1) ≤ n) from ⟨by omega, by omega⟩) H locs ls hP hD hS hl

set_option maxHeartbeats 4000000 in
set_option maxRecDepth 100000 in
theorem k_X3_split (l : Launch) (D : va_G) (cI cJ cZ : ClassId) (sh : Nat) (gv : Nat) (rs : Nat) (pa : Nat) (fgv : Nat → Int32) (frs : Nat → Int64) (fpa : Nat → Int32) (am : Nat) (fi : Nat) (n : Nat) (pl : Nat) (pp : Nat → Nat) (hn1 : 1 ≤ n) (hn : n ≤ 10) (hpl : fi + n ≤ pl) (hpl2 : pl < 1000) (ham : am ≤ 10000) (hpp : ∀ i, i < n → fpa (fi + i) = nI (pp i) ∧ pp i ≤ 2000000) : mt_V l yX3_split cX3_split 11 1 23 D cI cJ cZ [ob_J sh 3 [.ref gv, .ref rs], ar_I gv cI 10 fgv, ar_L rs cJ 10 frs, ar_I pa cI pl fpa] [.ref sh, .int (nI am), .ref pa, .int (nI fi), .int (nI n)] (fun u_u : (Nat → Int64) => True) (fun u_u : (Nat → Int64) => [ob_J sh 3 [.ref gv, .ref rs], ar_I gv cI 10 (se_v fgv (fun k => nI (sh_ am pp n k)) n), ar_L rs cJ 10 u_u, ar_I pa cI pl fpa]) := by
  refine en_V (by decide) (Nat.le_of_ble_eq_true rfl) ?_
  intro p e s m below meth c A ls H locs hx hb hr hml hts hown hlk hN hK hA hP hD hS hl
  have hown : s.vm.findClass RX3 = some m.cls := hown
  have hl : lv_has ls 11 [(0, .ref sh), (1, .int (nI am)), (2, .ref pa), (3, .int (nI fi)), (4, .int (nI n))] := hl
  refine lv_lconst (v := lN 0) hx hb dX3_split_0 (by decide) ?_
  refine lv_lstore (lv' := [(5, .long (lN 0)), (0, .ref sh), (1, .int (nI am)), (2, .ref pa), (3, .int (nI fi)), (4, .int (nI n))]) hx hb dX3_split_1 hl (by decide) rfl (fun ls hl => ?_)
  refine lv_iconst (v := 0) hx hb dX3_split_3 (by decide) ?_
  refine lv_istore (lv' := [(7, .int 0), (5, .long (lN 0)), (0, .ref sh), (1, .int (nI am)), (2, .ref pa), (3, .int (nI fi)), (4, .int (nI n))]) hx hb dX3_split_4 hl (by decide) rfl (fun ls hl => ?_)
  have q_1 : fgv = se_v fgv (fun _ => 0) 0 := se_0 _ _
  obtain ⟨hP, hD⟩ := cs_W (fun z_z => [ob_J sh 3 [.ref gv, .ref rs], ar_I gv cI 10 z_z, ar_L rs cJ 10 frs, ar_I pa cI pl fpa]) q_1 hP hD
  have hl := lv_sub (l' := [(0, .ref sh), (1, .int (nI am)), (2, .ref pa), (3, .int (nI fi)), (4, .int (nI n)), (5, .long (lN 0)), (7, .int 0)]) hl [2, 3, 4, 5, 6, 1, 0] rfl
  have q_2 : lN 0 = lN (sN_ pp 0) := rfl
  have hl := cs_L (fun z_z => [(0, .ref sh), (1, .int (nI am)), (2, .ref pa), (3, .int (nI fi)), (4, .int (nI n)), (5, .long z_z), (7, .int 0)]) q_2 hl
  have q_3 : 0 = nI 0 := rfl
  have hl := cs_L (fun z_z => [(0, .ref sh), (1, .int (nI am)), (2, .ref pa), (3, .int (nI fi)), (4, .int (nI n)), (5, .long (lN (sN_ pp 0))), (7, .int z_z)]) q_3 hl
  have hl : lv_has ls 11 [(0, .ref sh), (1, .int (nI am)), (2, .ref pa), (3, .int (nI fi)), (4, .int (nI n)), (5, .long (lN (sN_ pp 0))), (7, .int (nI 0))] := hl
  refine lp_g (σ := Nat) (fun i => n - i) (fun i => [ob_J sh 3 [.ref gv, .ref rs], ar_I gv cI 10 (se_v fgv (fun _ => 0) i), ar_L rs cJ 10 frs, ar_I pa cI pl fpa]) (fun i => [(0, .ref sh), (1, .int (nI am)), (2, .ref pa), (3, .int (nI fi)), (4, .int (nI n)), (5, .long (lN (sN_ pp i))), (7, .int (nI i))]) (fun i => (i ≤ n)) ?_ 0 (show (0 ≤ n) from by omega) hP hD hS hl
  intro i H locs ls hF hP hD hS hl ih_6
  have hF : (i ≤ n) := hF
  have hi := hF
  have hP : va_P D cl_A [ob_J sh 3 [.ref gv, .ref rs], ar_I gv cI 10 (se_v fgv (fun _ => 0) i), ar_L rs cJ 10 frs, ar_I pa cI pl fpa] H := hP
  have hD : va_D A [ob_J sh 3 [.ref gv, .ref rs], ar_I gv cI 10 (se_v fgv (fun _ => 0) i), ar_L rs cJ 10 frs, ar_I pa cI pl fpa] := hD
  have hl : lv_has ls 11 [(0, .ref sh), (1, .int (nI am)), (2, .ref pa), (3, .int (nI fi)), (4, .int (nI n)), (5, .long (lN (sN_ pp i))), (7, .int (nI i))] := hl
  refine lv_iload hx hb dX3_split_6 (lv_at hl 6 rfl) ?_
  refine lv_iload hx hb dX3_split_8 (lv_at hl 4 rfl) ?_
  refine lv_icmp_ge (tgt := 39) hx hb dX3_split_10 (by decide) (fun c_10 => ?_) (fun c_10 => ?_)
  · have c_10 := qq_ge (a := i) (b := n) c_10 (by omega) (by omega)
    obtain rfl : n = i := by omega
    have hTb : sN_ pp n ≤ n * 2000000 := sN_bd (fun k hk => (hpp k hk).2)
    refine lv_lload hx hb dX3_split_39 (lv_at hl 5 rfl) ?_
    refine lv_lconst (v := lN 0) hx hb dX3_split_41 (by decide) ?_
    refine W.lcmp hx hb dX3_split_42 ?_
    refine lv_if_gt (tgt := 47) hx hb dX3_split_43 (by decide) (fun c_43 => ?_) (fun c_43 => ?_)
    · have c_43 := lc_gt c_43
      have hT : 0 < sN_ pp n := (pk_lLT (by omega) (by omega)).mp c_43
      refine lv_iload_n hx hb dX3_split_47 rfl (lv_at hl 1 rfl) ?_
      refine lv_istore (lv' := [(7, .int (nI am)), (0, .ref sh), (1, .int (nI am)), (2, .ref pa), (3, .int (nI fi)), (4, .int (nI n)), (5, .long (lN (sN_ pp n)))]) hx hb dX3_split_48 hl (by decide) rfl (fun ls hl => ?_)
      refine lv_iconst (v := 0) hx hb dX3_split_50 (by decide) ?_
      refine lv_istore (lv' := [(8, .int 0), (7, .int (nI am)), (0, .ref sh), (1, .int (nI am)), (2, .ref pa), (3, .int (nI fi)), (4, .int (nI n)), (5, .long (lN (sN_ pp n)))]) hx hb dX3_split_51 hl (by decide) rfl (fun ls hl => ?_)
      have q_4 : se_v fgv (fun _ => 0) n = se_v (se_v fgv (fun _ => 0) n) (fun k => nI (qo_ am pp (sN_ pp n) k)) 0 := se_0 _ _
      obtain ⟨hP, hD⟩ := cs_W (fun z_z => [ob_J sh 3 [.ref gv, .ref rs], ar_I gv cI 10 z_z, ar_L rs cJ 10 frs, ar_I pa cI pl fpa]) q_4 hP hD
      have q_5 : frs = sl_v frs (fun k => lN (re_ am pp (sN_ pp n) k)) 0 := sl_0 _ _
      obtain ⟨hP, hD⟩ := cs_W (fun z_z => [ob_J sh 3 [.ref gv, .ref rs], ar_I gv cI 10 (se_v (se_v fgv (fun _ => 0) n) (fun k => nI (qo_ am pp (sN_ pp n) k)) 0), ar_L rs cJ 10 z_z, ar_I pa cI pl fpa]) q_5 hP hD
      have hl := lv_sub (l' := [(0, .ref sh), (1, .int (nI am)), (2, .ref pa), (3, .int (nI fi)), (4, .int (nI n)), (5, .long (lN (sN_ pp n))), (7, .int (nI am)), (8, .int 0)]) hl [2, 3, 4, 5, 6, 7, 1, 0] rfl
      have q_6 : nI am = nI (am - sN_ (qo_ am pp (sN_ pp n)) 0) := rfl
      have hl := cs_L (fun z_z => [(0, .ref sh), (1, .int (nI am)), (2, .ref pa), (3, .int (nI fi)), (4, .int (nI n)), (5, .long (lN (sN_ pp n))), (7, .int z_z), (8, .int 0)]) q_6 hl
      have q_7 : 0 = nI 0 := rfl
      have hl := cs_L (fun z_z => [(0, .ref sh), (1, .int (nI am)), (2, .ref pa), (3, .int (nI fi)), (4, .int (nI n)), (5, .long (lN (sN_ pp n))), (7, .int (nI (am - sN_ (qo_ am pp (sN_ pp n)) 0))), (8, .int z_z)]) q_7 hl
      have hl : lv_has ls 11 [(0, .ref sh), (1, .int (nI am)), (2, .ref pa), (3, .int (nI fi)), (4, .int (nI n)), (5, .long (lN (sN_ pp n))), (7, .int (nI (am - sN_ (qo_ am pp (sN_ pp n)) 0))), (8, .int (nI 0))] := hl
      refine lp_g (σ := Nat) (fun i => n - i) (fun i => [ob_J sh 3 [.ref gv, .ref rs], ar_I gv cI 10 (se_v (se_v fgv (fun _ => 0) n) (fun k => nI (qo_ am pp (sN_ pp n) k)) i), ar_L rs cJ 10 (sl_v frs (fun k => lN (re_ am pp (sN_ pp n) k)) i), ar_I pa cI pl fpa]) (fun i => [(0, .ref sh), (1, .int (nI am)), (2, .ref pa), (3, .int (nI fi)), (4, .int (nI n)), (5, .long (lN (sN_ pp n))), (7, .int (nI (am - sN_ (qo_ am pp (sN_ pp n)) i))), (8, .int (nI i))]) (fun i => (i ≤ n)) ?_ 0 (show (0 ≤ n) from by omega) hP hD hS hl
      intro i H locs ls hF hP hD hS hl ih_53
      have hF : (i ≤ n) := hF
      have hi := hF
      have hP : va_P D cl_A [ob_J sh 3 [.ref gv, .ref rs], ar_I gv cI 10 (se_v (se_v fgv (fun _ => 0) n) (fun k => nI (qo_ am pp (sN_ pp n) k)) i), ar_L rs cJ 10 (sl_v frs (fun k => lN (re_ am pp (sN_ pp n) k)) i), ar_I pa cI pl fpa] H := hP
      have hD : va_D A [ob_J sh 3 [.ref gv, .ref rs], ar_I gv cI 10 (se_v (se_v fgv (fun _ => 0) n) (fun k => nI (qo_ am pp (sN_ pp n) k)) i), ar_L rs cJ 10 (sl_v frs (fun k => lN (re_ am pp (sN_ pp n) k)) i), ar_I pa cI pl fpa] := hD
      have hl : lv_has ls 11 [(0, .ref sh), (1, .int (nI am)), (2, .ref pa), (3, .int (nI fi)), (4, .int (nI n)), (5, .long (lN (sN_ pp n))), (7, .int (nI (am - sN_ (qo_ am pp (sN_ pp n)) i))), (8, .int (nI i))] := hl
      refine lv_iload hx hb dX3_split_53 (lv_at hl 7 rfl) ?_
      refine lv_iload hx hb dX3_split_55 (lv_at hl 4 rfl) ?_
      refine lv_icmp_ge (tgt := 115) hx hb dX3_split_57 (by decide) (fun c_57 => ?_) (fun c_57 => ?_)
      · have c_57 := qq_ge (a := i) (b := n) c_57 (by omega) (by omega)
        obtain rfl : n = i := by omega
        refine lv_iconst (v := 0) hx hb dX3_split_115 (by decide) ?_
        refine lv_istore (lv' := [(8, .int 0), (0, .ref sh), (1, .int (nI am)), (2, .ref pa), (3, .int (nI fi)), (4, .int (nI n)), (5, .long (lN (sN_ pp n))), (7, .int (nI (am - sN_ (qo_ am pp (sN_ pp n)) n)))]) hx hb dX3_split_116 hl (by decide) rfl (fun ls hl => ?_)
        have hlf : lf_ am pp n ≤ n := lf_le hT
        have q_8 : se_v (se_v fgv (fun _ => 0) n) (fun k => nI (qo_ am pp (sN_ pp n) k)) n = gj_ fgv am pp n 0 := gj_0 _ _ _ _
        obtain ⟨hP, hD⟩ := cs_W (fun z_z => [ob_J sh 3 [.ref gv, .ref rs], ar_I gv cI 10 z_z, ar_L rs cJ 10 (sl_v frs (fun k => lN (re_ am pp (sN_ pp n) k)) n), ar_I pa cI pl fpa]) q_8 hP hD
        have q_9 : sl_v frs (fun k => lN (re_ am pp (sN_ pp n) k)) n = rl_ frs am pp n 0 := rl_0 _ _ _ _
        obtain ⟨hP, hD⟩ := cs_W (fun z_z => [ob_J sh 3 [.ref gv, .ref rs], ar_I gv cI 10 (gj_ fgv am pp n 0), ar_L rs cJ 10 z_z, ar_I pa cI pl fpa]) q_9 hP hD
        have hl := lv_sub (l' := [(0, .ref sh), (1, .int (nI am)), (2, .ref pa), (3, .int (nI fi)), (4, .int (nI n)), (5, .long (lN (sN_ pp n))), (7, .int (nI (am - sN_ (qo_ am pp (sN_ pp n)) n))), (8, .int 0)]) hl [1, 2, 3, 4, 5, 6, 7, 0] rfl
        have q_10 : nI (am - sN_ (qo_ am pp (sN_ pp n)) n) = nI (lf_ am pp n) := rfl
        have hl := cs_L (fun z_z => [(0, .ref sh), (1, .int (nI am)), (2, .ref pa), (3, .int (nI fi)), (4, .int (nI n)), (5, .long (lN (sN_ pp n))), (7, .int z_z), (8, .int 0)]) q_10 hl
        have q_11 : 0 = nI 0 := rfl
        have hl := cs_L (fun z_z => [(0, .ref sh), (1, .int (nI am)), (2, .ref pa), (3, .int (nI fi)), (4, .int (nI n)), (5, .long (lN (sN_ pp n))), (7, .int (nI (lf_ am pp n))), (8, .int z_z)]) q_11 hl
        have hl : lv_has ls 11 [(0, .ref sh), (1, .int (nI am)), (2, .ref pa), (3, .int (nI fi)), (4, .int (nI n)), (5, .long (lN (sN_ pp n))), (7, .int (nI (lf_ am pp n))), (8, .int (nI 0))] := hl
        refine lp_g (σ := Nat) (fun i => n - i) (fun i => [ob_J sh 3 [.ref gv, .ref rs], ar_I gv cI 10 (gj_ fgv am pp n i), ar_L rs cJ 10 (rl_ frs am pp n i), ar_I pa cI pl fpa]) (fun i => [(0, .ref sh), (1, .int (nI am)), (2, .ref pa), (3, .int (nI fi)), (4, .int (nI n)), (5, .long (lN (sN_ pp n))), (7, .int (nI (lf_ am pp n))), (8, .int (nI i))]) (fun i => (i ≤ lf_ am pp n)) ?_ 0 (show (0 ≤ lf_ am pp n) from by omega) hP hD hS hl
        intro i H locs ls hF hP hD hS hl ih_118
        have hF : (i ≤ lf_ am pp n) := hF
        have hi := hF
        have hP : va_P D cl_A [ob_J sh 3 [.ref gv, .ref rs], ar_I gv cI 10 (gj_ fgv am pp n i), ar_L rs cJ 10 (rl_ frs am pp n i), ar_I pa cI pl fpa] H := hP
        have hD : va_D A [ob_J sh 3 [.ref gv, .ref rs], ar_I gv cI 10 (gj_ fgv am pp n i), ar_L rs cJ 10 (rl_ frs am pp n i), ar_I pa cI pl fpa] := hD
        have hl : lv_has ls 11 [(0, .ref sh), (1, .int (nI am)), (2, .ref pa), (3, .int (nI fi)), (4, .int (nI n)), (5, .long (lN (sN_ pp n))), (7, .int (nI (lf_ am pp n))), (8, .int (nI i))] := hl
        refine lv_iload hx hb dX3_split_118 (lv_at hl 7 rfl) ?_
        refine lv_iload hx hb dX3_split_120 (lv_at hl 6 rfl) ?_
        refine lv_icmp_ge (tgt := 144) hx hb dX3_split_122 (by decide) (fun c_122 => ?_) (fun c_122 => ?_)
        · have c_122 := qq_ge (a := i) (b := lf_ am pp n) c_122 (by omega) (by omega)
          have q_12 : gj_ fgv am pp n i = se_v fgv (fun k => nI (sh_ am pp n k)) n := by rw [show i = lf_ am pp n by omega]; exact gj_e hT
          obtain ⟨hP, hD⟩ := cs_W (fun z_z => [ob_J sh 3 [.ref gv, .ref rs], ar_I gv cI 10 z_z, ar_L rs cJ 10 (rl_ frs am pp n i), ar_I pa cI pl fpa]) q_12 hP hD
          exact re_V (w1 := fun u_u : (Nat → Int64) => [ob_J sh 3 [.ref gv, .ref rs], ar_I gv cI 10 (se_v fgv (fun k => nI (sh_ am pp n k)) n), ar_L rs cJ 10 u_u, ar_I pa cI pl fpa]) hx hb hr hlk hK hS (rl_ frs am pp n i) hP hD trivial dX3_split_144
        · have c_122 := qq_nge (a := i) (b := lf_ am pp n) c_122 (by omega) (by omega)
          refine lv_iload hx hb dX3_split_125 (lv_at hl 7 rfl) ?_
          refine lv_iload hx hb dX3_split_127 (lv_at hl 4 rfl) ?_
          refine lv_icmp_ge (tgt := 144) hx hb dX3_split_129 (by decide) (fun c_129 => ?_) (fun c_129 => ?_)
          · have c_129 := qq_ge (a := i) (b := n) c_129 (by omega) (by omega)
            have q_13 : gj_ fgv am pp n i = se_v fgv (fun k => nI (sh_ am pp n k)) n := by rw [show i = lf_ am pp n by omega]; exact gj_e hT
            obtain ⟨hP, hD⟩ := cs_W (fun z_z => [ob_J sh 3 [.ref gv, .ref rs], ar_I gv cI 10 z_z, ar_L rs cJ 10 (rl_ frs am pp n i), ar_I pa cI pl fpa]) q_13 hP hD
            exact re_V (w1 := fun u_u : (Nat → Int64) => [ob_J sh 3 [.ref gv, .ref rs], ar_I gv cI 10 (se_v fgv (fun k => nI (sh_ am pp n k)) n), ar_L rs cJ 10 u_u, ar_I pa cI pl fpa]) hx hb hr hlk hK hS (rl_ frs am pp n i) hP hD trivial dX3_split_144
          · have c_129 := qq_nge (a := i) (b := n) c_129 (by omega) (by omega)
            refine lv_aload_n hx hb dX3_split_132 rfl (lv_at hl 0 rfl) ?_
            refine lv_iload hx hb dX3_split_133 (lv_at hl 4 rfl) ?_
            refine ca_VV (rest := []) (wr := [ar_I pa cI pl fpa]) (w2 := fun u_u => [ob_J sh 3 [.ref gv, .ref rs], ar_I gv cI 10 (upd (gj_ fgv am pp n i) (am_ (rl_ frs am pp n i) n) ((gj_ fgv am pp n i) (am_ (rl_ frs am pp n i) n) + 1)), ar_L rs cJ 10 (vp_updL (rl_ frs am pp n i) (am_ (rl_ frs am pp n i) n) (-1)), ar_I pa cI pl fpa]) (k_X3_giveOneByRest l D cI cJ cZ sh gv rs (gj_ fgv am pp n i) (rl_ frs am pp n i) n (by first | assumption | omega) (by first | assumption | omega)) hx hb hml hown hts hN hK hA hP hD hS 3 0 rfl rfl bw_239 bw_240 bw_241 bw_5 bw_242 1 rfl (by decide +kernel) ⟨by decide, by decide⟩ [0, 1, 2] [3] [1, 2, 3, 0] rfl rfl (by decide) (fun _ => rfl) hl.1 rfl (Nat.le_of_ble_eq_true rfl) dX3_split_135 ⟨Nat.zero_le _, Nat.zero_le _⟩ (fun u_u H locs w_135 hP hD hS => ?_)
            have hP : va_P D cl_A [ob_J sh 3 [.ref gv, .ref rs], ar_I gv cI 10 (upd (gj_ fgv am pp n i) (am_ (rl_ frs am pp n i) n) ((gj_ fgv am pp n i) (am_ (rl_ frs am pp n i) n) + 1)), ar_L rs cJ 10 (vp_updL (rl_ frs am pp n i) (am_ (rl_ frs am pp n i) n) (-1)), ar_I pa cI pl fpa] H := hP
            have hD : va_D A [ob_J sh 3 [.ref gv, .ref rs], ar_I gv cI 10 (upd (gj_ fgv am pp n i) (am_ (rl_ frs am pp n i) n) ((gj_ fgv am pp n i) (am_ (rl_ frs am pp n i) n) + 1)), ar_L rs cJ 10 (vp_updL (rl_ frs am pp n i) (am_ (rl_ frs am pp n i) n) (-1)), ar_I pa cI pl fpa] := hD
            refine lv_iinc (v := nI (i + 1)) (lv' := [(8, .int (nI (i + 1))), (0, .ref sh), (1, .int (nI am)), (2, .ref pa), (3, .int (nI fi)), (4, .int (nI n)), (5, .long (lN (sN_ pp n))), (7, .int (nI (lf_ am pp n)))]) hx hb dX3_split_138 hl (k := 7) rfl (nI_1 _) (by decide) rfl (fun ls hl => ?_)
            refine lv_goto (tgt := 118) hx hb dX3_split_141 (by decide) ?_
            have q_14 : upd (gj_ fgv am pp n i) (am_ (rl_ frs am pp n i) n) ((gj_ fgv am pp n i) (am_ (rl_ frs am pp n i) n) + 1) = gj_ fgv am pp n (i + 1) := gj_s hT (by omega) (by omega)
            obtain ⟨hP, hD⟩ := cs_W (fun z_z => [ob_J sh 3 [.ref gv, .ref rs], ar_I gv cI 10 z_z, ar_L rs cJ 10 (vp_updL (rl_ frs am pp n i) (am_ (rl_ frs am pp n i) n) (-1)), ar_I pa cI pl fpa]) q_14 hP hD
            have q_15 : vp_updL (rl_ frs am pp n i) (am_ (rl_ frs am pp n i) n) (-1) = rl_ frs am pp n (i + 1) := rl_s hT (by omega) (by omega)
            obtain ⟨hP, hD⟩ := cs_W (fun z_z => [ob_J sh 3 [.ref gv, .ref rs], ar_I gv cI 10 (gj_ fgv am pp n (i + 1)), ar_L rs cJ 10 z_z, ar_I pa cI pl fpa]) q_15 hP hD
            have hl := lv_sub (l' := [(0, .ref sh), (1, .int (nI am)), (2, .ref pa), (3, .int (nI fi)), (4, .int (nI n)), (5, .long (lN (sN_ pp n))), (7, .int (nI (lf_ am pp n))), (8, .int (nI (i + 1)))]) hl [1, 2, 3, 4, 5, 6, 7, 0] rfl
            have hl : lv_has ls 11 [(0, .ref sh), (1, .int (nI am)), (2, .ref pa), (3, .int (nI fi)), (4, .int (nI n)), (5, .long (lN (sN_ pp n))), (7, .int (nI (lf_ am pp n))), (8, .int (nI (i + 1)))] := hl
            exact ih_118 (i + 1) (show n - (i + 1) < n - i from by omega) (show ((i + 1) ≤ lf_ am pp n) from by omega) H locs ls hP hD hS hl
      · have c_57 := qq_nge (a := i) (b := n) c_57 (by omega) (by omega)
        refine lv_iload_n hx hb dX3_split_60 rfl (lv_at hl 1 rfl) ?_
        refine lv_i2l (v := lN am) hx hb dX3_split_61 (nI_l (n := am) (by omega)) ?_
        refine lv_aload_n hx hb dX3_split_62 rfl (lv_at hl 2 rfl) ?_
        refine lv_iload_n hx hb dX3_split_63 rfl (lv_at hl 3 rfl) ?_
        refine lv_iload hx hb dX3_split_64 (lv_at hl 7 rfl) ?_
        refine lv_iadd hx hb dX3_split_66 ?_
        refine tp_i (x' := nI (fi + i)) (nn_add rfl rfl) ?_
        refine ar_ld hx hb hK hP 3 (k := fi + i) rfl rfl (by omega) (by omega) dX3_split_67 ?_
        refine tp_i (x' := nI (pp i)) ((hpp i (by omega)).1) ?_
        have hb_i := (hpp i (by omega)).2
        have hmb : am * pp i ≤ 10000 * 2000000 := Nat.mul_le_mul ham hb_i
        refine lv_i2l (v := lN (pp i)) hx hb dX3_split_68 (nI_l (n := pp i) (by omega)) ?_
        refine lv_lmul hx hb dX3_split_69 ?_
        refine tp_l (x' := lN (am * (pp i))) (lN_mul _ _) ?_
        refine lv_lstore (lv' := [(9, .long (lN (am * (pp i)))), (0, .ref sh), (1, .int (nI am)), (2, .ref pa), (3, .int (nI fi)), (4, .int (nI n)), (5, .long (lN (sN_ pp n))), (7, .int (nI (am - sN_ (qo_ am pp (sN_ pp n)) i))), (8, .int (nI i))]) hx hb dX3_split_70 hl (by decide) rfl (fun ls hl => ?_)
        refine lv_aload_n hx hb dX3_split_72 rfl (lv_at hl 1 rfl) ?_
        refine va_get (ci := 3) (v := .ref gv) (C := RX3) (T := TX3) (N := 2) hx hb hts bi_3 hown hK hP 0 rfl rfl 0 (by decide) (hts _ bw_110) (fun _ h9 => h9) rfl dX3_split_73 ?_
        refine lv_iload hx hb dX3_split_76 (lv_at hl 8 rfl) ?_
        refine lv_lload hx hb dX3_split_78 (lv_at hl 0 rfl) ?_
        refine lv_lload hx hb dX3_split_80 (lv_at hl 6 rfl) ?_
        refine lv_ldiv hx hb dX3_split_82 (ln_ne hT (by omega)) ?_
        refine tp_l (x' := lN ((am * (pp i)) / (sN_ pp n))) (pk_lDiv (by omega) (hT) (by omega)) ?_
        refine lv_l2i (v := nI ((am * (pp i)) / (sN_ pp n))) hx hb dX3_split_83 (lN_i _) ?_
        refine ar_st hx hb hK hP hD hS 1 (k := i) rfl rfl (by omega) (by decide) dX3_split_84 _ rfl (fun H locs hP hD hS => ?_)
        have hP : va_P D cl_A [ob_J sh 3 [.ref gv, .ref rs], ar_I gv cI 10 (upd (se_v (se_v fgv (fun _ => 0) n) (fun k => nI (qo_ am pp (sN_ pp n) k)) i) i (nI ((am * (pp i)) / (sN_ pp n)))), ar_L rs cJ 10 (sl_v frs (fun k => lN (re_ am pp (sN_ pp n) k)) i), ar_I pa cI pl fpa] H := hP
        have hD : va_D A [ob_J sh 3 [.ref gv, .ref rs], ar_I gv cI 10 (upd (se_v (se_v fgv (fun _ => 0) n) (fun k => nI (qo_ am pp (sN_ pp n) k)) i) i (nI ((am * (pp i)) / (sN_ pp n)))), ar_L rs cJ 10 (sl_v frs (fun k => lN (re_ am pp (sN_ pp n) k)) i), ar_I pa cI pl fpa] := hD
        refine lv_aload_n hx hb dX3_split_85 rfl (lv_at hl 1 rfl) ?_
        refine va_get (ci := 3) (v := .ref rs) (C := RX3) (T := TX3) (N := 2) hx hb hts bi_3 hown hK hP 0 rfl rfl 1 (by decide) (hts _ bw_112) (fun _ h9 => h9) rfl dX3_split_86 ?_
        refine lv_iload hx hb dX3_split_89 (lv_at hl 8 rfl) ?_
        refine lv_lload hx hb dX3_split_91 (lv_at hl 0 rfl) ?_
        refine lv_lload hx hb dX3_split_93 (lv_at hl 6 rfl) ?_
        refine lv_lrem hx hb dX3_split_95 (ln_ne hT (by omega)) ?_
        refine tp_l (x' := lN ((am * (pp i)) % (sN_ pp n))) (pk_lRem (by omega) (hT) (by omega)) ?_
        refine ar_lst hx hb hK hP hD hS 2 (k := i) rfl rfl (by omega) (by decide) dX3_split_96 _ rfl (fun H locs hP hD hS => ?_)
        have hP : va_P D cl_A [ob_J sh 3 [.ref gv, .ref rs], ar_I gv cI 10 (upd (se_v (se_v fgv (fun _ => 0) n) (fun k => nI (qo_ am pp (sN_ pp n) k)) i) i (nI ((am * (pp i)) / (sN_ pp n)))), ar_L rs cJ 10 (vp_updL (sl_v frs (fun k => lN (re_ am pp (sN_ pp n) k)) i) i (lN ((am * (pp i)) % (sN_ pp n)))), ar_I pa cI pl fpa] H := hP
        have hD : va_D A [ob_J sh 3 [.ref gv, .ref rs], ar_I gv cI 10 (upd (se_v (se_v fgv (fun _ => 0) n) (fun k => nI (qo_ am pp (sN_ pp n) k)) i) i (nI ((am * (pp i)) / (sN_ pp n)))), ar_L rs cJ 10 (vp_updL (sl_v frs (fun k => lN (re_ am pp (sN_ pp n) k)) i) i (lN ((am * (pp i)) % (sN_ pp n)))), ar_I pa cI pl fpa] := hD
        have hqs : sN_ (qo_ am pp (sN_ pp n)) (i + 1) ≤ sN_ (qo_ am pp (sN_ pp n)) n := sN_pre (by omega)
        have hqn : sN_ (qo_ am pp (sN_ pp n)) n ≤ am := qo_le hT
        have hq1 : sN_ (qo_ am pp (sN_ pp n)) i + am * pp i / sN_ pp n ≤ am := Nat.le_trans hqs hqn
        refine lv_iload hx hb dX3_split_97 (lv_at hl 7 rfl) ?_
        refine lv_aload_n hx hb dX3_split_99 rfl (lv_at hl 1 rfl) ?_
        refine va_get (ci := 3) (v := .ref gv) (C := RX3) (T := TX3) (N := 2) hx hb hts bi_3 hown hK hP 0 rfl rfl 0 (by decide) (hts _ bw_110) (fun _ h9 => h9) rfl dX3_split_100 ?_
        refine lv_iload hx hb dX3_split_103 (lv_at hl 8 rfl) ?_
        refine ar_ld hx hb hK hP 1 (k := i) rfl rfl (by omega) (by decide) dX3_split_105 ?_
        refine tp_i (x' := nI ((am * pp i) / sN_ pp n)) (up_i _ _ _) ?_
        refine lv_isub hx hb dX3_split_106 ?_
        refine tp_i (x' := nI ((am - sN_ (qo_ am pp (sN_ pp n)) i) - ((am * pp i) / sN_ pp n))) (nn_sub rfl rfl (by omega)) ?_
        refine lv_istore (lv' := [(7, .int (nI ((am - sN_ (qo_ am pp (sN_ pp n)) i) - ((am * pp i) / sN_ pp n)))), (9, .long (lN (am * (pp i)))), (0, .ref sh), (1, .int (nI am)), (2, .ref pa), (3, .int (nI fi)), (4, .int (nI n)), (5, .long (lN (sN_ pp n))), (8, .int (nI i))]) hx hb dX3_split_107 hl (by decide) rfl (fun ls hl => ?_)
        refine lv_iinc (v := nI (i + 1)) (lv' := [(8, .int (nI (i + 1))), (7, .int (nI ((am - sN_ (qo_ am pp (sN_ pp n)) i) - ((am * pp i) / sN_ pp n)))), (9, .long (lN (am * (pp i)))), (0, .ref sh), (1, .int (nI am)), (2, .ref pa), (3, .int (nI fi)), (4, .int (nI n)), (5, .long (lN (sN_ pp n)))]) hx hb dX3_split_109 hl (k := 8) rfl (nI_1 _) (by decide) rfl (fun ls hl => ?_)
        refine lv_goto (tgt := 53) hx hb dX3_split_112 (by decide) ?_
        have q_16 : upd (se_v (se_v fgv (fun _ => 0) n) (fun k => nI (qo_ am pp (sN_ pp n) k)) i) i (nI ((am * (pp i)) / (sN_ pp n))) = se_v (se_v fgv (fun _ => 0) n) (fun k => nI (qo_ am pp (sN_ pp n) k)) (i + 1) := se_s _ (fun k => nI (qo_ am pp (sN_ pp n) k)) i
        obtain ⟨hP, hD⟩ := cs_W (fun z_z => [ob_J sh 3 [.ref gv, .ref rs], ar_I gv cI 10 z_z, ar_L rs cJ 10 (vp_updL (sl_v frs (fun k => lN (re_ am pp (sN_ pp n) k)) i) i (lN ((am * (pp i)) % (sN_ pp n)))), ar_I pa cI pl fpa]) q_16 hP hD
        have q_17 : vp_updL (sl_v frs (fun k => lN (re_ am pp (sN_ pp n) k)) i) i (lN ((am * (pp i)) % (sN_ pp n))) = sl_v frs (fun k => lN (re_ am pp (sN_ pp n) k)) (i + 1) := sl_s _ (fun k => lN (re_ am pp (sN_ pp n) k)) i
        obtain ⟨hP, hD⟩ := cs_W (fun z_z => [ob_J sh 3 [.ref gv, .ref rs], ar_I gv cI 10 (se_v (se_v fgv (fun _ => 0) n) (fun k => nI (qo_ am pp (sN_ pp n) k)) (i + 1)), ar_L rs cJ 10 z_z, ar_I pa cI pl fpa]) q_17 hP hD
        have hl := lv_sub (l' := [(0, .ref sh), (1, .int (nI am)), (2, .ref pa), (3, .int (nI fi)), (4, .int (nI n)), (5, .long (lN (sN_ pp n))), (7, .int (nI ((am - sN_ (qo_ am pp (sN_ pp n)) i) - ((am * pp i) / sN_ pp n)))), (8, .int (nI (i + 1)))]) hl [3, 4, 5, 6, 7, 8, 1, 0] rfl
        have q_18 : nI ((am - sN_ (qo_ am pp (sN_ pp n)) i) - ((am * pp i) / sN_ pp n)) = nI (am - sN_ (qo_ am pp (sN_ pp n)) (i + 1)) := congrArg nI (Nat.sub_sub _ _ _)
        have hl := cs_L (fun z_z => [(0, .ref sh), (1, .int (nI am)), (2, .ref pa), (3, .int (nI fi)), (4, .int (nI n)), (5, .long (lN (sN_ pp n))), (7, .int z_z), (8, .int (nI (i + 1)))]) q_18 hl
        have hl : lv_has ls 11 [(0, .ref sh), (1, .int (nI am)), (2, .ref pa), (3, .int (nI fi)), (4, .int (nI n)), (5, .long (lN (sN_ pp n))), (7, .int (nI (am - sN_ (qo_ am pp (sN_ pp n)) (i + 1)))), (8, .int (nI (i + 1)))] := hl
        exact ih_53 (i + 1) (show n - (i + 1) < n - i from by omega) (show ((i + 1) ≤ n) from by omega) H locs ls hP hD hS hl
    · have c_43 := lc_ngt c_43
      have hT0 : sN_ pp n = 0 := ln_z c_43 (by omega)
      have q_19 : se_v fgv (fun _ => 0) n = se_v fgv (fun k => nI (sh_ am pp n k)) n := sh_e0 hT0
      obtain ⟨hP, hD⟩ := cs_W (fun z_z => [ob_J sh 3 [.ref gv, .ref rs], ar_I gv cI 10 z_z, ar_L rs cJ 10 frs, ar_I pa cI pl fpa]) q_19 hP hD
      exact re_V (w1 := fun u_u : (Nat → Int64) => [ob_J sh 3 [.ref gv, .ref rs], ar_I gv cI 10 (se_v fgv (fun k => nI (sh_ am pp n k)) n), ar_L rs cJ 10 u_u, ar_I pa cI pl fpa]) hx hb hr hlk hK hS frs hP hD trivial dX3_split_46
  · have c_10 := qq_nge (a := i) (b := n) c_10 (by omega) (by omega)
    refine lv_aload_n hx hb dX3_split_13 rfl (lv_at hl 0 rfl) ?_
    refine va_get (ci := 3) (v := .ref gv) (C := RX3) (T := TX3) (N := 2) hx hb hts bi_3 hown hK hP 0 rfl rfl 0 (by decide) (hts _ bw_110) (fun _ h9 => h9) rfl dX3_split_14 ?_
    refine lv_iload hx hb dX3_split_17 (lv_at hl 6 rfl) ?_
    refine lv_iconst (v := 0) hx hb dX3_split_19 (by decide) ?_
    refine ar_st hx hb hK hP hD hS 1 (k := i) rfl rfl (by omega) (by decide) dX3_split_20 _ rfl (fun H locs hP hD hS => ?_)
    have hP : va_P D cl_A [ob_J sh 3 [.ref gv, .ref rs], ar_I gv cI 10 (upd (se_v fgv (fun _ => 0) i) i 0), ar_L rs cJ 10 frs, ar_I pa cI pl fpa] H := hP
    have hD : va_D A [ob_J sh 3 [.ref gv, .ref rs], ar_I gv cI 10 (upd (se_v fgv (fun _ => 0) i) i 0), ar_L rs cJ 10 frs, ar_I pa cI pl fpa] := hD
    refine lv_lload hx hb dX3_split_21 (lv_at hl 5 rfl) ?_
    refine lv_aload_n hx hb dX3_split_23 rfl (lv_at hl 2 rfl) ?_
    refine lv_iload_n hx hb dX3_split_24 rfl (lv_at hl 3 rfl) ?_
    refine lv_iload hx hb dX3_split_25 (lv_at hl 6 rfl) ?_
    refine lv_iadd hx hb dX3_split_27 ?_
    refine tp_i (x' := nI (fi + i)) (nn_add rfl rfl) ?_
    refine ar_ld hx hb hK hP 3 (k := fi + i) rfl rfl (by omega) (by omega) dX3_split_28 ?_
    refine tp_i (x' := nI (pp i)) ((hpp i (by omega)).1) ?_
    have hb_i := (hpp i (by omega)).2
    refine lv_i2l (v := lN (pp i)) hx hb dX3_split_29 (nI_l (n := pp i) (by omega)) ?_
    refine lv_ladd hx hb dX3_split_30 ?_
    refine tp_l (x' := lN ((sN_ pp i) + (pp i))) (lN_add _ _) ?_
    refine lv_lstore (lv' := [(5, .long (lN ((sN_ pp i) + (pp i)))), (0, .ref sh), (1, .int (nI am)), (2, .ref pa), (3, .int (nI fi)), (4, .int (nI n)), (7, .int (nI i))]) hx hb dX3_split_31 hl (by decide) rfl (fun ls hl => ?_)
    refine lv_iinc (v := nI (i + 1)) (lv' := [(7, .int (nI (i + 1))), (5, .long (lN ((sN_ pp i) + (pp i)))), (0, .ref sh), (1, .int (nI am)), (2, .ref pa), (3, .int (nI fi)), (4, .int (nI n))]) hx hb dX3_split_33 hl (k := 6) rfl (nI_1 _) (by decide) rfl (fun ls hl => ?_)
    refine lv_goto (tgt := 6) hx hb dX3_split_36 (by decide) ?_
    have q_20 : upd (se_v fgv (fun _ => 0) i) i 0 = se_v fgv (fun _ => 0) (i + 1) := se_s fgv (fun _ => 0) i
    obtain ⟨hP, hD⟩ := cs_W (fun z_z => [ob_J sh 3 [.ref gv, .ref rs], ar_I gv cI 10 z_z, ar_L rs cJ 10 frs, ar_I pa cI pl fpa]) q_20 hP hD
    have hl := lv_sub (l' := [(0, .ref sh), (1, .int (nI am)), (2, .ref pa), (3, .int (nI fi)), (4, .int (nI n)), (5, .long (lN ((sN_ pp i) + (pp i)))), (7, .int (nI (i + 1)))]) hl [2, 3, 4, 5, 6, 1, 0] rfl
    have q_21 : lN ((sN_ pp i) + (pp i)) = lN (sN_ pp (i + 1)) := rfl
    have hl := cs_L (fun z_z => [(0, .ref sh), (1, .int (nI am)), (2, .ref pa), (3, .int (nI fi)), (4, .int (nI n)), (5, .long z_z), (7, .int (nI (i + 1)))]) q_21 hl
    have hl : lv_has ls 11 [(0, .ref sh), (1, .int (nI am)), (2, .ref pa), (3, .int (nI fi)), (4, .int (nI n)), (5, .long (lN (sN_ pp (i + 1)))), (7, .int (nI (i + 1)))] := hl
    exact ih_6 (i + 1) (show n - (i + 1) < n - i from by omega) (show ((i + 1) ≤ n) from by omega) H locs ls hP hD hS hl

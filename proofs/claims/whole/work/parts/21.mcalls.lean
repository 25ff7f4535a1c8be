set_option maxHeartbeats 4000000 in
set_option maxRecDepth 100000 in
theorem k_X6_in (l : Launch) (D : va_G) (cI cJ cZ : ClassId) (xv : Int32) (lo_ : Int32) (hi_ : Int32)  : mt_I l yX6_in cX6_in 6 .boolean 0 0 D cI cJ cZ [] [.long xv.toInt64, .long lo_.toInt64, .long hi_.toInt64] (fun r (_ : Unit) => r = if lo_ ≤ xv ∧ xv ≤ hi_ then 1 else 0) (fun u_u : Unit => []) := by
  refine en_I (by decide) (Nat.le_of_ble_eq_true rfl) ?_
  intro p e s m below meth c A ls H locs hx hb hr hml hts hown hlk hN hK hA hP hD hS hl
  have hown : s.vm.findClass RX6 = some m.cls := hown
  have hl : lv_has ls 6 [(0, .long xv.toInt64), (2, .long lo_.toInt64), (4, .long hi_.toInt64)] := hl
  refine lv_lload_n hx hb dX6_in_0 rfl (lv_at hl 0 rfl) ?_
  refine lv_lload_n hx hb dX6_in_1 rfl (lv_at hl 1 rfl) ?_
  refine W.lcmp hx hb dX6_in_2 ?_
  refine lv_if_lt (tgt := 17) hx hb dX6_in_3 (by decide) (fun c_3 => ?_) (fun c_3 => ?_)
  · have c_3 := lc_lt c_3
    refine lv_iconst (v := 0) hx hb dX6_in_17 (by decide) ?_
    exact re_I (w1 := fun u_u : Unit => []) (v := 0) hx hb hr hlk hK hS rfl () hP hD (show _ = if lo_ ≤ xv ∧ xv ≤ hi_ then _ else _ from (if_neg (fun z => absurd z.1 (Int32.not_le.mpr (i6_lt.mp c_3)))).symm) dX6_in_18
  · have c_3 := lc_nlt c_3
    refine lv_lload_n hx hb dX6_in_6 rfl (lv_at hl 0 rfl) ?_
    refine lv_lload hx hb dX6_in_7 (lv_at hl 2 rfl) ?_
    refine W.lcmp hx hb dX6_in_9 ?_
    refine lv_if_gt (tgt := 17) hx hb dX6_in_10 (by decide) (fun c_10 => ?_) (fun c_10 => ?_)
    · have c_10 := lc_gt c_10
      refine lv_iconst (v := 0) hx hb dX6_in_17 (by decide) ?_
      exact re_I (w1 := fun u_u : Unit => []) (v := 0) hx hb hr hlk hK hS rfl () hP hD (show _ = if lo_ ≤ xv ∧ xv ≤ hi_ then _ else _ from (if_neg (fun z => absurd z.2 (Int32.not_le.mpr (i6_lt.mp c_10)))).symm) dX6_in_18
    · have c_10 := lc_ngt c_10
      refine lv_iconst (v := 1) hx hb dX6_in_13 (by decide) ?_
      refine lv_goto (tgt := 18) hx hb dX6_in_14 (by decide) ?_
      exact re_I (w1 := fun u_u : Unit => []) (v := 1) hx hb hr hlk hK hS rfl () hP hD (show _ = if lo_ ≤ xv ∧ xv ≤ hi_ then _ else _ from (if_pos ⟨Int32.not_lt.mp (fun z => c_3 (i6_lt.mpr z)), Int32.not_lt.mp (fun z => c_10 (i6_lt.mpr z))⟩).symm) dX6_in_18

set_option maxHeartbeats 4000000 in
set_option maxRecDepth 100000 in
theorem k_X6_noAccount (l : Launch) (D : va_G) (cI cJ cZ : ClassId) (a : Int32)  : mt_I l yX6_noAccount cX6_noAccount 1 .boolean 1 25 D cI cJ cZ [] [.int a] (fun r (_ : Unit) => r = if ¬ (0 ≤ a ∧ a ≤ 9) then 1 else 0) (fun u_u : Unit => []) := by
  refine en_I (by decide) (Nat.le_of_ble_eq_true rfl) ?_
  intro p e s m below meth c A ls H locs hx hb hr hml hts hown hlk hN hK hA hP hD hS hl
  have hown : s.vm.findClass RX6 = some m.cls := hown
  have hl : lv_has ls 1 [(0, .int a)] := hl
  refine lv_iload_n hx hb dX6_noAccount_0 rfl (lv_at hl 0 rfl) ?_
  refine lv_i2l (v := a.toInt64) hx hb dX6_noAccount_1 (rfl) ?_
  refine lv_lconst (v := (Int32.toInt64 0)) hx hb dX6_noAccount_2 (by decide) ?_
  refine lv_ldc2 hx hb hown (hts _ bw_482) dX6_noAccount_3 ?_
  refine tp_l (x' := (Int32.toInt64 9)) (by decide) ?_
  refine ca_SI (rest := []) (k_X6_in l D cI cJ cZ a 0 9 ) hx hb hml hown hts hN hK hA hP hD hS bw_483 bw_484 bw_7 bw_485 3 rfl (by decide +kernel) ⟨by decide, by decide⟩ hl.1 rfl (Nat.le_of_ble_eq_true rfl) dX6_noAccount_6 ⟨Nat.zero_le _, Nat.zero_le _⟩ (fun r_6 u_u H locs w_6 hP hD hS => ?_)
  have w_6 : r_6 = if 0 ≤ a ∧ a ≤ 9 then 1 else 0 := w_6
  by_cases h_6 : 0 ≤ a ∧ a ≤ 9
  · rw [if_pos h_6] at w_6; subst w_6
    refine lv_if_ne (tgt := 16) hx hb dX6_noAccount_9 (by decide) (fun _ => ?_) (fun h9 => absurd h9 (by decide))
    refine lv_iconst (v := 0) hx hb dX6_noAccount_16 (by decide) ?_
    exact re_I (w1 := fun u_u : Unit => []) (v := 0) hx hb hr hlk hK hS rfl () hP hD (show _ = if ¬ (0 ≤ a ∧ a ≤ 9) then _ else _ from by simp [h_6]) dX6_noAccount_17
  · rw [if_neg h_6] at w_6; subst w_6
    refine lv_if_ne (tgt := 16) hx hb dX6_noAccount_9 (by decide) (fun h9 => absurd (by decide) h9) (fun _ => ?_)
    refine lv_iconst (v := 1) hx hb dX6_noAccount_12 (by decide) ?_
    refine lv_goto (tgt := 17) hx hb dX6_noAccount_13 (by decide) ?_
    exact re_I (w1 := fun u_u : Unit => []) (v := 1) hx hb hr hlk hK hS rfl () hP hD (show _ = if ¬ (0 ≤ a ∧ a ≤ 9) then _ else _ from by simp [h_6]) dX6_noAccount_17

set_option maxHeartbeats 4000000 in
set_option maxRecDepth 100000 in
theorem k_X6_noNode (l : Launch) (D : va_G) (cI cJ cZ : ClassId) (y : Nat) (th : Int32) (hh : Nat) (r0 : Int32) (r1 : Int32) (r2 : Int32) (r3 : Int32) (mb : Nat) (given : Int32) (mrew : Int32) (sz : Nat) (mk : Nat) (mc : Nat) (ms : Nat) (md : Nat) (mf : Nat) (mst : Nat) (mth : Nat) (mdr : Nat) (mw : Nat) (msh : Nat) (mpo : Nat) (mpa : Nat) (mde : Nat) (mj : Nat) (n : Int32) (hsz : sz ≤ 8) : mt_I l yX6_noNode cX6_noNode 2 .boolean 1 25 D cI cJ cZ [ob_J y 6 [.int th, .int (nI hh), .int r0, .int r1, .int r2, .int r3, .ref mb, .int given, .int mrew, .int (nI sz), .ref mk, .ref mc, .ref ms, .ref md, .ref mf, .ref mst, .ref mth, .ref mdr, .ref mw, .ref msh, .ref mpo, .ref mpa, .ref mde, .ref mj]] [.ref y, .int n] (fun r (_ : Unit) => r = if ¬ (0 ≤ n ∧ n < nI sz) then 1 else 0) (fun u_u : Unit => [ob_J y 6 [.int th, .int (nI hh), .int r0, .int r1, .int r2, .int r3, .ref mb, .int given, .int mrew, .int (nI sz), .ref mk, .ref mc, .ref ms, .ref md, .ref mf, .ref mst, .ref mth, .ref mdr, .ref mw, .ref msh, .ref mpo, .ref mpa, .ref mde, .ref mj]]) := by
  refine en_I (by decide) (Nat.le_of_ble_eq_true rfl) ?_
  intro p e s m below meth c A ls H locs hx hb hr hml hts hown hlk hN hK hA hP hD hS hl
  have hown : s.vm.findClass RX6 = some m.cls := hown
  have hl : lv_has ls 2 [(0, .ref y), (1, .int n)] := hl
  refine lv_iload_n hx hb dX6_noNode_0 rfl (lv_at hl 1 rfl) ?_
  refine lv_i2l (v := n.toInt64) hx hb dX6_noNode_1 (rfl) ?_
  refine lv_lconst (v := (Int32.toInt64 0)) hx hb dX6_noNode_2 (by decide) ?_
  refine lv_aload_n hx hb dX6_noNode_3 rfl (lv_at hl 0 rfl) ?_
  refine va_get (ci := 6) (v := .int (nI sz)) (C := RX6) (T := TX6) (N := 24) hx hb hts bi_6 hown hK hP 0 rfl rfl 9 (by decide) (hts _ bw_414) (fun _ h9 => h9) rfl dX6_noNode_4 ?_
  refine lv_iconst (v := 1) hx hb dX6_noNode_7 (by decide) ?_
  refine lv_isub hx hb dX6_noNode_8 ?_
  refine lv_i2l (v := ((nI sz) - 1).toInt64) hx hb dX6_noNode_9 (rfl) ?_
  refine ca_SI (rest := []) (k_X6_in l D cI cJ cZ n 0 ((nI sz) - 1) ) hx hb hml hown hts hN hK hA hP hD hS bw_483 bw_484 bw_7 bw_485 3 rfl (by decide +kernel) ⟨by decide, by decide⟩ hl.1 rfl (Nat.le_of_ble_eq_true rfl) dX6_noNode_10 ⟨Nat.zero_le _, Nat.zero_le _⟩ (fun r_10 u_u H locs w_10 hP hD hS => ?_)
  have w_10 : r_10 = if 0 ≤ n ∧ n ≤ ((nI sz) - 1) then 1 else 0 := w_10
  by_cases h_10 : 0 ≤ n ∧ n ≤ ((nI sz) - 1)
  · rw [if_pos h_10] at w_10; subst w_10
    refine lv_if_ne (tgt := 20) hx hb dX6_noNode_13 (by decide) (fun _ => ?_) (fun h9 => absurd h9 (by decide))
    refine lv_iconst (v := 0) hx hb dX6_noNode_20 (by decide) ?_
    exact re_I (w1 := fun u_u : Unit => [ob_J y 6 [.int th, .int (nI hh), .int r0, .int r1, .int r2, .int r3, .ref mb, .int given, .int mrew, .int (nI sz), .ref mk, .ref mc, .ref ms, .ref md, .ref mf, .ref mst, .ref mth, .ref mdr, .ref mw, .ref msh, .ref mpo, .ref mpa, .ref mde, .ref mj]]) (v := 0) hx hb hr hlk hK hS rfl () hP hD (show _ = if ¬ (0 ≤ n ∧ n < nI sz) then _ else _ from by rw [n1_e hsz] at h_10; simp [h_10]) dX6_noNode_21
  · rw [if_neg h_10] at w_10; subst w_10
    refine lv_if_ne (tgt := 20) hx hb dX6_noNode_13 (by decide) (fun h9 => absurd (by decide) h9) (fun _ => ?_)
    refine lv_iconst (v := 1) hx hb dX6_noNode_16 (by decide) ?_
    refine lv_goto (tgt := 21) hx hb dX6_noNode_17 (by decide) ?_
    exact re_I (w1 := fun u_u : Unit => [ob_J y 6 [.int th, .int (nI hh), .int r0, .int r1, .int r2, .int r3, .ref mb, .int given, .int mrew, .int (nI sz), .ref mk, .ref mc, .ref ms, .ref md, .ref mf, .ref mst, .ref mth, .ref mdr, .ref mw, .ref msh, .ref mpo, .ref mpa, .ref mde, .ref mj]]) (v := 1) hx hb hr hlk hK hS rfl () hP hD (show _ = if ¬ (0 ≤ n ∧ n < nI sz) then _ else _ from by rw [n1_e hsz] at h_10; simp [h_10]) dX6_noNode_21

set_option maxHeartbeats 4000000 in
set_option maxRecDepth 100000 in
theorem k_X6_noHeight (l : Launch) (D : va_G) (cI cJ cZ : ClassId) (y : Nat) (th : Int32) (hh : Nat) (r0 : Int32) (r1 : Int32) (r2 : Int32) (r3 : Int32) (mb : Nat) (given : Int32) (mrew : Int32) (sz : Nat) (mk : Nat) (mc : Nat) (ms : Nat) (md : Nat) (mf : Nat) (mst : Nat) (mth : Nat) (mdr : Nat) (mw : Nat) (msh : Nat) (mpo : Nat) (mpa : Nat) (mde : Nat) (mj : Nat) (q : Int32)  : mt_I l yX6_noHeight cX6_noHeight 2 .boolean 1 25 D cI cJ cZ [ob_J y 6 [.int th, .int (nI hh), .int r0, .int r1, .int r2, .int r3, .ref mb, .int given, .int mrew, .int (nI sz), .ref mk, .ref mc, .ref ms, .ref md, .ref mf, .ref mst, .ref mth, .ref mdr, .ref mw, .ref msh, .ref mpo, .ref mpa, .ref mde, .ref mj]] [.ref y, .int q] (fun r (_ : Unit) => r = if ¬ (0 ≤ q ∧ q ≤ nI hh) then 1 else 0) (fun u_u : Unit => [ob_J y 6 [.int th, .int (nI hh), .int r0, .int r1, .int r2, .int r3, .ref mb, .int given, .int mrew, .int (nI sz), .ref mk, .ref mc, .ref ms, .ref md, .ref mf, .ref mst, .ref mth, .ref mdr, .ref mw, .ref msh, .ref mpo, .ref mpa, .ref mde, .ref mj]]) := by
  refine en_I (by decide) (Nat.le_of_ble_eq_true rfl) ?_
  intro p e s m below meth c A ls H locs hx hb hr hml hts hown hlk hN hK hA hP hD hS hl
  have hown : s.vm.findClass RX6 = some m.cls := hown
  have hl : lv_has ls 2 [(0, .ref y), (1, .int q)] := hl
  refine lv_iload_n hx hb dX6_noHeight_0 rfl (lv_at hl 1 rfl) ?_
  refine lv_i2l (v := q.toInt64) hx hb dX6_noHeight_1 (rfl) ?_
  refine lv_lconst (v := (Int32.toInt64 0)) hx hb dX6_noHeight_2 (by decide) ?_
  refine lv_aload_n hx hb dX6_noHeight_3 rfl (lv_at hl 0 rfl) ?_
  refine va_get (ci := 6) (v := .int (nI hh)) (C := RX6) (T := TX6) (N := 24) hx hb hts bi_6 hown hK hP 0 rfl rfl 1 (by decide) (hts _ bw_406) (fun _ h9 => h9) rfl dX6_noHeight_4 ?_
  refine lv_i2l (v := (nI hh).toInt64) hx hb dX6_noHeight_7 (rfl) ?_
  refine ca_SI (rest := []) (k_X6_in l D cI cJ cZ q 0 (nI hh) ) hx hb hml hown hts hN hK hA hP hD hS bw_483 bw_484 bw_7 bw_485 3 rfl (by decide +kernel) ⟨by decide, by decide⟩ hl.1 rfl (Nat.le_of_ble_eq_true rfl) dX6_noHeight_8 ⟨Nat.zero_le _, Nat.zero_le _⟩ (fun r_8 u_u H locs w_8 hP hD hS => ?_)
  have w_8 : r_8 = if 0 ≤ q ∧ q ≤ (nI hh) then 1 else 0 := w_8
  by_cases h_8 : 0 ≤ q ∧ q ≤ (nI hh)
  · rw [if_pos h_8] at w_8; subst w_8
    refine lv_if_ne (tgt := 18) hx hb dX6_noHeight_11 (by decide) (fun _ => ?_) (fun h9 => absurd h9 (by decide))
    refine lv_iconst (v := 0) hx hb dX6_noHeight_18 (by decide) ?_
    exact re_I (w1 := fun u_u : Unit => [ob_J y 6 [.int th, .int (nI hh), .int r0, .int r1, .int r2, .int r3, .ref mb, .int given, .int mrew, .int (nI sz), .ref mk, .ref mc, .ref ms, .ref md, .ref mf, .ref mst, .ref mth, .ref mdr, .ref mw, .ref msh, .ref mpo, .ref mpa, .ref mde, .ref mj]]) (v := 0) hx hb hr hlk hK hS rfl () hP hD (show _ = if ¬ (0 ≤ q ∧ q ≤ nI hh) then _ else _ from by simp [h_8]) dX6_noHeight_19
  · rw [if_neg h_8] at w_8; subst w_8
    refine lv_if_ne (tgt := 18) hx hb dX6_noHeight_11 (by decide) (fun h9 => absurd (by decide) h9) (fun _ => ?_)
    refine lv_iconst (v := 1) hx hb dX6_noHeight_14 (by decide) ?_
    refine lv_goto (tgt := 19) hx hb dX6_noHeight_15 (by decide) ?_
    exact re_I (w1 := fun u_u : Unit => [ob_J y 6 [.int th, .int (nI hh), .int r0, .int r1, .int r2, .int r3, .ref mb, .int given, .int mrew, .int (nI sz), .ref mk, .ref mc, .ref ms, .ref md, .ref mf, .ref mst, .ref mth, .ref mdr, .ref mw, .ref msh, .ref mpo, .ref mpa, .ref mde, .ref mj]]) (v := 1) hx hb hr hlk hK hS rfl () hP hD (show _ = if ¬ (0 ≤ q ∧ q ≤ nI hh) then _ else _ from by simp [h_8]) dX6_noHeight_19

set_option maxHeartbeats 4000000 in
set_option maxRecDepth 100000 in
theorem k_X6_noBits (l : Launch) (D : va_G) (cI cJ cZ : ClassId) (y : Nat) (th : Int32) (hh : Nat) (r0 : Int32) (r1 : Int32) (r2 : Int32) (r3 : Int32) (mb : Nat) (given : Int32) (mrew : Int32) (sz : Nat) (mk : Nat) (mc : Nat) (ms : Nat) (md : Nat) (mf : Nat) (mst : Nat) (mth : Nat) (mdr : Nat) (mw : Nat) (msh : Nat) (mpo : Nat) (mpa : Nat) (mde : Nat) (mj : Nat) (bits : Int32) (hsz : sz ≤ 8) : mt_I l yX6_noBits cX6_noBits 2 .boolean 1 25 D cI cJ cZ [ob_J y 6 [.int th, .int (nI hh), .int r0, .int r1, .int r2, .int r3, .ref mb, .int given, .int mrew, .int (nI sz), .ref mk, .ref mc, .ref ms, .ref md, .ref mf, .ref mst, .ref mth, .ref mdr, .ref mw, .ref msh, .ref mpo, .ref mpa, .ref mde, .ref mj]] [.ref y, .int bits] (fun r (_ : Unit) => r = if ¬ (bits.toUInt32 >>> ((nI sz).toUInt32 &&& Int32.toUInt32 31)).toInt32 = 0 then 1 else 0) (fun u_u : Unit => [ob_J y 6 [.int th, .int (nI hh), .int r0, .int r1, .int r2, .int r3, .ref mb, .int given, .int mrew, .int (nI sz), .ref mk, .ref mc, .ref ms, .ref md, .ref mf, .ref mst, .ref mth, .ref mdr, .ref mw, .ref msh, .ref mpo, .ref mpa, .ref mde, .ref mj]]) := by
  refine en_I (by decide) (Nat.le_of_ble_eq_true rfl) ?_
  intro p e s m below meth c A ls H locs hx hb hr hml hts hown hlk hN hK hA hP hD hS hl
  have hown : s.vm.findClass RX6 = some m.cls := hown
  have hl : lv_has ls 2 [(0, .ref y), (1, .int bits)] := hl
  refine lv_iload_n hx hb dX6_noBits_0 rfl (lv_at hl 1 rfl) ?_
  refine lv_i2l (v := bits.toInt64) hx hb dX6_noBits_1 (rfl) ?_
  refine lv_lconst (v := (Int32.toInt64 0)) hx hb dX6_noBits_2 (by decide) ?_
  refine lv_iconst (v := 1) hx hb dX6_noBits_3 (by decide) ?_
  refine lv_aload_n hx hb dX6_noBits_4 rfl (lv_at hl 0 rfl) ?_
  refine va_get (ci := 6) (v := .int (nI sz)) (C := RX6) (T := TX6) (N := 24) hx hb hts bi_6 hown hK hP 0 rfl rfl 9 (by decide) (hts _ bw_414) (fun _ h9 => h9) rfl dX6_noBits_5 ?_
  refine lv_ishl hx hb dX6_noBits_8 ?_
  refine lv_iconst (v := 1) hx hb dX6_noBits_9 (by decide) ?_
  refine lv_isub hx hb dX6_noBits_10 ?_
  refine lv_i2l (v := ((1 <<< ((nI sz) &&& 31)) - 1).toInt64) hx hb dX6_noBits_11 (rfl) ?_
  refine ca_SI (rest := []) (k_X6_in l D cI cJ cZ bits 0 ((1 <<< ((nI sz) &&& 31)) - 1) ) hx hb hml hown hts hN hK hA hP hD hS bw_483 bw_484 bw_7 bw_485 3 rfl (by decide +kernel) ⟨by decide, by decide⟩ hl.1 rfl (Nat.le_of_ble_eq_true rfl) dX6_noBits_12 ⟨Nat.zero_le _, Nat.zero_le _⟩ (fun r_12 u_u H locs w_12 hP hD hS => ?_)
  have w_12 : r_12 = if 0 ≤ bits ∧ bits ≤ ((1 <<< ((nI sz) &&& 31)) - 1) then 1 else 0 := w_12
  by_cases h_12 : 0 ≤ bits ∧ bits ≤ ((1 <<< ((nI sz) &&& 31)) - 1)
  · rw [if_pos h_12] at w_12; subst w_12
    refine lv_if_ne (tgt := 22) hx hb dX6_noBits_15 (by decide) (fun _ => ?_) (fun h9 => absurd h9 (by decide))
    refine lv_iconst (v := 0) hx hb dX6_noBits_22 (by decide) ?_
    exact re_I (w1 := fun u_u : Unit => [ob_J y 6 [.int th, .int (nI hh), .int r0, .int r1, .int r2, .int r3, .ref mb, .int given, .int mrew, .int (nI sz), .ref mk, .ref mc, .ref ms, .ref md, .ref mf, .ref mst, .ref mth, .ref mdr, .ref mw, .ref msh, .ref mpo, .ref mpa, .ref mde, .ref mj]]) (v := 0) hx hb hr hlk hK hS rfl () hP hD (show _ = if ¬ (bits.toUInt32 >>> ((nI sz).toUInt32 &&& Int32.toUInt32 31)).toInt32 = 0 then _ else _ from by rw [nb_e hsz] at h_12; simp [h_12]) dX6_noBits_23
  · rw [if_neg h_12] at w_12; subst w_12
    refine lv_if_ne (tgt := 22) hx hb dX6_noBits_15 (by decide) (fun h9 => absurd (by decide) h9) (fun _ => ?_)
    refine lv_iconst (v := 1) hx hb dX6_noBits_18 (by decide) ?_
    refine lv_goto (tgt := 23) hx hb dX6_noBits_19 (by decide) ?_
    exact re_I (w1 := fun u_u : Unit => [ob_J y 6 [.int th, .int (nI hh), .int r0, .int r1, .int r2, .int r3, .ref mb, .int given, .int mrew, .int (nI sz), .ref mk, .ref mc, .ref ms, .ref md, .ref mf, .ref mst, .ref mth, .ref mdr, .ref mw, .ref msh, .ref mpo, .ref mpa, .ref mde, .ref mj]]) (v := 1) hx hb hr hlk hK hS rfl () hP hD (show _ = if ¬ (bits.toUInt32 >>> ((nI sz).toUInt32 &&& Int32.toUInt32 31)).toInt32 = 0 then _ else _ from by rw [nb_e hsz] at h_12; simp [h_12]) dX6_noBits_23

set_option maxHeartbeats 4000000 in
set_option maxRecDepth 100000 in
theorem k_X6_rule (l : Launch) (D : va_G) (cI cJ cZ : ClassId) (y : Nat) (th : Int32) (hh : Nat) (r0 : Int32) (r1 : Int32) (r2 : Int32) (r3 : Int32) (mb : Nat) (given : Int32) (mrew : Int32) (sz : Nat) (mk : Nat) (mc : Nat) (ms : Nat) (md : Nat) (mf : Nat) (mst : Nat) (mth : Nat) (mdr : Nat) (mw : Nat) (msh : Nat) (mpo : Nat) (mpa : Nat) (mde : Nat) (mj : Nat) (what : Int32) (v : Int32) (hhh : hh ≤ 100) : mt_I l yX6_rule cX6_rule 5 .int 1 25 D cI cJ cZ [ob_J y 6 [.int th, .int (nI hh), .int r0, .int r1, .int r2, .int r3, .ref mb, .int given, .int mrew, .int (nI sz), .ref mk, .ref mc, .ref ms, .ref md, .ref mf, .ref mst, .ref mth, .ref mdr, .ref mw, .ref msh, .ref mpo, .ref mpa, .ref mde, .ref mj]] [.ref y, .int what, .int v] (fun r (u_u : Unit) => r = rm_rule hh r0 r1 r2 r3 what v) (fun u_u : Unit => [ob_J y 6 [.int 0, .int (nI hh), .int (rk_rule hh 0 r0 what v), .int (rk_rule hh 1 r1 what v), .int (rk_rule hh 2 r2 what v), .int (rk_rule hh 3 r3 what v), .ref mb, .int given, .int mrew, .int (nI sz), .ref mk, .ref mc, .ref ms, .ref md, .ref mf, .ref mst, .ref mth, .ref mdr, .ref mw, .ref msh, .ref mpo, .ref mpa, .ref mde, .ref mj]]) := by
  refine en_I (by decide) (Nat.le_of_ble_eq_true rfl) ?_
  intro p e s m below meth c A ls H locs hx hb hr hml hts hown hlk hN hK hA hP hD hS hl
  have hown : s.vm.findClass RX6 = some m.cls := hown
  have hl : lv_has ls 5 [(0, .ref y), (1, .int what), (2, .int v)] := hl
  refine lv_aload_n hx hb dX6_rule_0 rfl (lv_at hl 0 rfl) ?_
  refine lv_iconst (v := 0) hx hb dX6_rule_1 (by decide) ?_
  refine va_put (ci := 6) (v := .int 0) (ty := .int) (C := RX6) (T := TX6) (N := 24) hx hb hts bi_6 tyX6 tyX6_ok nmX6 hown hK hP hD hS 0 rfl rfl 0 (by decide) (hts _ bw_405) (fun _ h9 => h9) rfl (by decide +kernel) rfl rfl (Nat.le_of_ble_eq_true rfl) dX6_rule_2 (fun H locs hP hD hS => ?_)
  have hP : va_P D cl_A [ob_J y 6 [.int 0, .int (nI hh), .int r0, .int r1, .int r2, .int r3, .ref mb, .int given, .int mrew, .int (nI sz), .ref mk, .ref mc, .ref ms, .ref md, .ref mf, .ref mst, .ref mth, .ref mdr, .ref mw, .ref msh, .ref mpo, .ref mpa, .ref mde, .ref mj]] H := hP
  have hD : va_D A [ob_J y 6 [.int 0, .int (nI hh), .int r0, .int r1, .int r2, .int r3, .ref mb, .int given, .int mrew, .int (nI sz), .ref mk, .ref mc, .ref ms, .ref md, .ref mf, .ref mst, .ref mth, .ref mdr, .ref mw, .ref msh, .ref mpo, .ref mpa, .ref mde, .ref mj]] := hD
  refine lv_iload_n hx hb dX6_rule_5 rfl (lv_at hl 1 rfl) ?_
  refine lv_if_ne (tgt := 21) hx hb dX6_rule_6 (by decide) (fun c_6 => ?_) (fun c_6 => ?_)
  · refine lv_iload_n hx hb dX6_rule_21 rfl (lv_at hl 1 rfl) ?_
    refine lv_iconst (v := 1) hx hb dX6_rule_22 (by decide) ?_
    refine lv_icmp_ne (tgt := 38) hx hb dX6_rule_23 (by decide) (fun c_23 => ?_) (fun c_23 => ?_)
    · refine lv_iload_n hx hb dX6_rule_38 rfl (lv_at hl 1 rfl) ?_
      refine lv_iconst (v := 2) hx hb dX6_rule_39 (by decide) ?_
      refine lv_icmp_ne (tgt := 55) hx hb dX6_rule_40 (by decide) (fun c_40 => ?_) (fun c_40 => ?_)
      · refine lv_iload_n hx hb dX6_rule_55 rfl (lv_at hl 1 rfl) ?_
        refine lv_iconst (v := 3) hx hb dX6_rule_56 (by decide) ?_
        refine lv_icmp_ne (tgt := 76) hx hb dX6_rule_57 (by decide) (fun c_57 => ?_) (fun c_57 => ?_)
        · refine lv_iconst (v := 0) hx hb dX6_rule_76 (by decide) ?_
          refine lv_istore_n (lv' := [(3, .int 0), (0, .ref y), (1, .int what), (2, .int v)]) hx hb dX6_rule_77 rfl hl (by decide) rfl (fun ls hl => ?_)
          refine lv_iload_n hx hb dX6_rule_78 rfl (lv_at hl 0 rfl) ?_
          refine lv_if_ne (tgt := 84) hx hb dX6_rule_79 (by decide) (fun h9 => absurd (by decide) h9) (fun _ => ?_)
          refine lv_iconst (v := (-1)) hx hb dX6_rule_82 (by decide) ?_
          have q_1 : r0 = (rk_rule hh 0 r0 what v) := by simp [rm_rule, rk_rule, gd_P, c_6, c_23, c_40, c_57]
          obtain ⟨hP, hD⟩ := cs_W (fun z_z => [ob_J y 6 [.int 0, .int (nI hh), .int z_z, .int r1, .int r2, .int r3, .ref mb, .int given, .int mrew, .int (nI sz), .ref mk, .ref mc, .ref ms, .ref md, .ref mf, .ref mst, .ref mth, .ref mdr, .ref mw, .ref msh, .ref mpo, .ref mpa, .ref mde, .ref mj]]) q_1 hP hD
          have q_2 : r1 = (rk_rule hh 1 r1 what v) := by simp [rm_rule, rk_rule, gd_P, c_6, c_23, c_40, c_57]
          obtain ⟨hP, hD⟩ := cs_W (fun z_z => [ob_J y 6 [.int 0, .int (nI hh), .int (rk_rule hh 0 r0 what v), .int z_z, .int r2, .int r3, .ref mb, .int given, .int mrew, .int (nI sz), .ref mk, .ref mc, .ref ms, .ref md, .ref mf, .ref mst, .ref mth, .ref mdr, .ref mw, .ref msh, .ref mpo, .ref mpa, .ref mde, .ref mj]]) q_2 hP hD
          have q_3 : r2 = (rk_rule hh 2 r2 what v) := by simp [rm_rule, rk_rule, gd_P, c_6, c_23, c_40, c_57]
          obtain ⟨hP, hD⟩ := cs_W (fun z_z => [ob_J y 6 [.int 0, .int (nI hh), .int (rk_rule hh 0 r0 what v), .int (rk_rule hh 1 r1 what v), .int z_z, .int r3, .ref mb, .int given, .int mrew, .int (nI sz), .ref mk, .ref mc, .ref ms, .ref md, .ref mf, .ref mst, .ref mth, .ref mdr, .ref mw, .ref msh, .ref mpo, .ref mpa, .ref mde, .ref mj]]) q_3 hP hD
          have q_4 : r3 = (rk_rule hh 3 r3 what v) := by simp [rm_rule, rk_rule, gd_P, c_6, c_23, c_40, c_57]
          obtain ⟨hP, hD⟩ := cs_W (fun z_z => [ob_J y 6 [.int 0, .int (nI hh), .int (rk_rule hh 0 r0 what v), .int (rk_rule hh 1 r1 what v), .int (rk_rule hh 2 r2 what v), .int z_z, .ref mb, .int given, .int mrew, .int (nI sz), .ref mk, .ref mc, .ref ms, .ref md, .ref mf, .ref mst, .ref mth, .ref mdr, .ref mw, .ref msh, .ref mpo, .ref mpa, .ref mde, .ref mj]]) q_4 hP hD
          exact re_I (w1 := fun u_u : Unit => [ob_J y 6 [.int 0, .int (nI hh), .int (rk_rule hh 0 r0 what v), .int (rk_rule hh 1 r1 what v), .int (rk_rule hh 2 r2 what v), .int (rk_rule hh 3 r3 what v), .ref mb, .int given, .int mrew, .int (nI sz), .ref mk, .ref mc, .ref ms, .ref md, .ref mf, .ref mst, .ref mth, .ref mdr, .ref mw, .ref msh, .ref mpo, .ref mpa, .ref mde, .ref mj]]) (v := (-1)) hx hb hr hlk hK hS rfl () hP hD (show (-1) = rm_rule hh r0 r1 r2 r3 what v from by simp [rm_rule, rk_rule, gd_P, c_6, c_23, c_40, c_57]) dX6_rule_83
        · subst c_57
          refine lv_iload_n hx hb dX6_rule_60 rfl (lv_at hl 2 rfl) ?_
          refine lv_i2l (v := v.toInt64) hx hb dX6_rule_61 (rfl) ?_
          refine lv_lconst (v := (Int32.toInt64 1)) hx hb dX6_rule_62 (by decide) ?_
          refine lv_ldc2 hx hb hown (hts _ bw_488) dX6_rule_63 ?_
          refine tp_l (x' := (Int32.toInt64 1000000)) (by decide) ?_
          refine ca_SI (rest := []) (k_X6_in l D cI cJ cZ v 1 1000000 ) hx hb hml hown hts hN hK hA hP hD hS bw_483 bw_484 bw_7 bw_485 3 rfl (by decide +kernel) ⟨by decide, by decide⟩ hl.1 rfl (Nat.le_of_ble_eq_true rfl) dX6_rule_66 ⟨Nat.zero_le _, Nat.zero_le _⟩ (fun r_66 u_u H locs w_66 hP hD hS => ?_)
          have w_66 : r_66 = if 1 ≤ v ∧ v ≤ 1000000 then 1 else 0 := w_66
          by_cases h_66 : 1 ≤ v ∧ v ≤ 1000000
          · rw [if_pos h_66] at w_66; subst w_66
            refine lv_if_eq (tgt := 76) hx hb dX6_rule_69 (by decide) (fun h9 => absurd h9 (by decide)) (fun _ => ?_)
            refine lv_iconst (v := 1) hx hb dX6_rule_72 (by decide) ?_
            refine lv_goto (tgt := 77) hx hb dX6_rule_73 (by decide) ?_
            refine lv_istore_n (lv' := [(3, .int 1), (0, .ref y), (1, .int 3), (2, .int v)]) hx hb dX6_rule_77 rfl hl (by decide) rfl (fun ls hl => ?_)
            refine lv_iload_n hx hb dX6_rule_78 rfl (lv_at hl 0 rfl) ?_
            refine lv_if_ne (tgt := 84) hx hb dX6_rule_79 (by decide) (fun _ => ?_) (fun h9 => absurd h9 (by decide))
            refine lv_aload_n hx hb dX6_rule_84 rfl (lv_at hl 1 rfl) ?_
            refine va_get (ci := 6) (v := .int (nI hh)) (C := RX6) (T := TX6) (N := 24) hx hb hts bi_6 hown hK hP 0 rfl rfl 1 (by decide) (hts _ bw_406) (fun _ h9 => h9) rfl dX6_rule_85 ?_
            refine lv_if_le (tgt := 94) hx hb dX6_rule_88 (by decide) (fun c_88 => ?_) (fun c_88 => ?_)
            · have c_88 := qq_le (a := hh) (b := 0) c_88 (by omega) (by omega)
              have c_88 : hh = 0 := by omega
              refine lv_iload_n hx hb dX6_rule_94 rfl (lv_at hl 2 rfl) ?_
              refine lv_if_ne (tgt := 105) hx hb dX6_rule_95 (by decide) (fun _ => ?_) (fun h9 => absurd h9 (by decide))
              refine lv_iload_n hx hb dX6_rule_105 rfl (lv_at hl 2 rfl) ?_
              refine lv_iconst (v := 1) hx hb dX6_rule_106 (by decide) ?_
              refine lv_icmp_ne (tgt := 117) hx hb dX6_rule_107 (by decide) (fun _ => ?_) (fun h9 => absurd h9 (by decide))
              refine lv_iload_n hx hb dX6_rule_117 rfl (lv_at hl 2 rfl) ?_
              refine lv_iconst (v := 2) hx hb dX6_rule_118 (by decide) ?_
              refine lv_icmp_ne (tgt := 129) hx hb dX6_rule_119 (by decide) (fun _ => ?_) (fun h9 => absurd h9 (by decide))
              refine lv_aload_n hx hb dX6_rule_129 rfl (lv_at hl 1 rfl) ?_
              refine va_get (ci := 6) (v := .int r3) (C := RX6) (T := TX6) (N := 24) hx hb hts bi_6 hown hK hP 0 rfl rfl 5 (by decide) (hts _ bw_410) (fun _ h9 => h9) rfl dX6_rule_130 ?_
              refine lv_istore (lv' := [(4, .int r3), (3, .int 1), (0, .ref y), (1, .int 3), (2, .int v)]) hx hb dX6_rule_133 hl (by decide) rfl (fun ls hl => ?_)
              refine lv_aload_n hx hb dX6_rule_135 rfl (lv_at hl 2 rfl) ?_
              refine lv_iload_n hx hb dX6_rule_136 rfl (lv_at hl 3 rfl) ?_
              refine lv_if_ne (tgt := 144) hx hb dX6_rule_137 (by decide) (fun _ => ?_) (fun h9 => absurd h9 (by decide))
              refine lv_aload_n hx hb dX6_rule_144 rfl (lv_at hl 2 rfl) ?_
              refine va_get (ci := 6) (v := .int r0) (C := RX6) (T := TX6) (N := 24) hx hb hts bi_6 hown hK hP 0 rfl rfl 2 (by decide) (hts _ bw_407) (fun _ h9 => h9) rfl dX6_rule_145 ?_
              refine va_put (ci := 6) (v := .int r0) (ty := .int) (C := RX6) (T := TX6) (N := 24) hx hb hts bi_6 tyX6 tyX6_ok nmX6 hown hK hP hD hS 0 rfl rfl 2 (by decide) (hts _ bw_407) (fun _ h9 => h9) rfl (by decide +kernel) rfl rfl (Nat.le_of_ble_eq_true rfl) dX6_rule_148 (fun H locs hP hD hS => ?_)
              have hP : va_P D cl_A [ob_J y 6 [.int 0, .int (nI hh), .int r0, .int r1, .int r2, .int r3, .ref mb, .int given, .int mrew, .int (nI sz), .ref mk, .ref mc, .ref ms, .ref md, .ref mf, .ref mst, .ref mth, .ref mdr, .ref mw, .ref msh, .ref mpo, .ref mpa, .ref mde, .ref mj]] H := hP
              have hD : va_D A [ob_J y 6 [.int 0, .int (nI hh), .int r0, .int r1, .int r2, .int r3, .ref mb, .int given, .int mrew, .int (nI sz), .ref mk, .ref mc, .ref ms, .ref md, .ref mf, .ref mst, .ref mth, .ref mdr, .ref mw, .ref msh, .ref mpo, .ref mpa, .ref mde, .ref mj]] := hD
              refine lv_aload_n hx hb dX6_rule_151 rfl (lv_at hl 2 rfl) ?_
              refine lv_iload_n hx hb dX6_rule_152 rfl (lv_at hl 3 rfl) ?_
              refine lv_iconst (v := 1) hx hb dX6_rule_153 (by decide) ?_
              refine lv_icmp_ne (tgt := 161) hx hb dX6_rule_154 (by decide) (fun _ => ?_) (fun h9 => absurd h9 (by decide))
              refine lv_aload_n hx hb dX6_rule_161 rfl (lv_at hl 2 rfl) ?_
              refine va_get (ci := 6) (v := .int r1) (C := RX6) (T := TX6) (N := 24) hx hb hts bi_6 hown hK hP 0 rfl rfl 3 (by decide) (hts _ bw_408) (fun _ h9 => h9) rfl dX6_rule_162 ?_
              refine va_put (ci := 6) (v := .int r1) (ty := .int) (C := RX6) (T := TX6) (N := 24) hx hb hts bi_6 tyX6 tyX6_ok nmX6 hown hK hP hD hS 0 rfl rfl 3 (by decide) (hts _ bw_408) (fun _ h9 => h9) rfl (by decide +kernel) rfl rfl (Nat.le_of_ble_eq_true rfl) dX6_rule_165 (fun H locs hP hD hS => ?_)
              have hP : va_P D cl_A [ob_J y 6 [.int 0, .int (nI hh), .int r0, .int r1, .int r2, .int r3, .ref mb, .int given, .int mrew, .int (nI sz), .ref mk, .ref mc, .ref ms, .ref md, .ref mf, .ref mst, .ref mth, .ref mdr, .ref mw, .ref msh, .ref mpo, .ref mpa, .ref mde, .ref mj]] H := hP
              have hD : va_D A [ob_J y 6 [.int 0, .int (nI hh), .int r0, .int r1, .int r2, .int r3, .ref mb, .int given, .int mrew, .int (nI sz), .ref mk, .ref mc, .ref ms, .ref md, .ref mf, .ref mst, .ref mth, .ref mdr, .ref mw, .ref msh, .ref mpo, .ref mpa, .ref mde, .ref mj]] := hD
              refine lv_aload_n hx hb dX6_rule_168 rfl (lv_at hl 2 rfl) ?_
              refine lv_iload_n hx hb dX6_rule_169 rfl (lv_at hl 3 rfl) ?_
              refine lv_iconst (v := 2) hx hb dX6_rule_170 (by decide) ?_
              refine lv_icmp_ne (tgt := 178) hx hb dX6_rule_171 (by decide) (fun _ => ?_) (fun h9 => absurd h9 (by decide))
              refine lv_aload_n hx hb dX6_rule_178 rfl (lv_at hl 2 rfl) ?_
              refine va_get (ci := 6) (v := .int r2) (C := RX6) (T := TX6) (N := 24) hx hb hts bi_6 hown hK hP 0 rfl rfl 4 (by decide) (hts _ bw_409) (fun _ h9 => h9) rfl dX6_rule_179 ?_
              refine va_put (ci := 6) (v := .int r2) (ty := .int) (C := RX6) (T := TX6) (N := 24) hx hb hts bi_6 tyX6 tyX6_ok nmX6 hown hK hP hD hS 0 rfl rfl 4 (by decide) (hts _ bw_409) (fun _ h9 => h9) rfl (by decide +kernel) rfl rfl (Nat.le_of_ble_eq_true rfl) dX6_rule_182 (fun H locs hP hD hS => ?_)
              have hP : va_P D cl_A [ob_J y 6 [.int 0, .int (nI hh), .int r0, .int r1, .int r2, .int r3, .ref mb, .int given, .int mrew, .int (nI sz), .ref mk, .ref mc, .ref ms, .ref md, .ref mf, .ref mst, .ref mth, .ref mdr, .ref mw, .ref msh, .ref mpo, .ref mpa, .ref mde, .ref mj]] H := hP
              have hD : va_D A [ob_J y 6 [.int 0, .int (nI hh), .int r0, .int r1, .int r2, .int r3, .ref mb, .int given, .int mrew, .int (nI sz), .ref mk, .ref mc, .ref ms, .ref md, .ref mf, .ref mst, .ref mth, .ref mdr, .ref mw, .ref msh, .ref mpo, .ref mpa, .ref mde, .ref mj]] := hD
              refine lv_aload_n hx hb dX6_rule_185 rfl (lv_at hl 2 rfl) ?_
              refine lv_iload_n hx hb dX6_rule_186 rfl (lv_at hl 3 rfl) ?_
              refine lv_iconst (v := 3) hx hb dX6_rule_187 (by decide) ?_
              refine lv_icmp_ne (tgt := 195) hx hb dX6_rule_188 (by decide) (fun h9 => absurd (by decide) h9) (fun _ => ?_)
              refine lv_iload_n hx hb dX6_rule_191 rfl (lv_at hl 4 rfl) ?_
              refine lv_goto (tgt := 199) hx hb dX6_rule_192 (by decide) ?_
              refine va_put (ci := 6) (v := .int v) (ty := .int) (C := RX6) (T := TX6) (N := 24) hx hb hts bi_6 tyX6 tyX6_ok nmX6 hown hK hP hD hS 0 rfl rfl 5 (by decide) (hts _ bw_410) (fun _ h9 => h9) rfl (by decide +kernel) rfl rfl (Nat.le_of_ble_eq_true rfl) dX6_rule_199 (fun H locs hP hD hS => ?_)
              have hP : va_P D cl_A [ob_J y 6 [.int 0, .int (nI hh), .int r0, .int r1, .int r2, .int v, .ref mb, .int given, .int mrew, .int (nI sz), .ref mk, .ref mc, .ref ms, .ref md, .ref mf, .ref mst, .ref mth, .ref mdr, .ref mw, .ref msh, .ref mpo, .ref mpa, .ref mde, .ref mj]] H := hP
              have hD : va_D A [ob_J y 6 [.int 0, .int (nI hh), .int r0, .int r1, .int r2, .int v, .ref mb, .int given, .int mrew, .int (nI sz), .ref mk, .ref mc, .ref ms, .ref md, .ref mf, .ref mst, .ref mth, .ref mdr, .ref mw, .ref msh, .ref mpo, .ref mpa, .ref mde, .ref mj]] := hD
              refine lv_iload hx hb dX6_rule_202 (lv_at hl 0 rfl) ?_
              have q_5 : r0 = (rk_rule hh 0 r0 3 v) := by simp [rm_rule, rk_rule, gd_P, c_6, c_23, c_40, h_66, c_88]
              obtain ⟨hP, hD⟩ := cs_W (fun z_z => [ob_J y 6 [.int 0, .int (nI hh), .int z_z, .int r1, .int r2, .int v, .ref mb, .int given, .int mrew, .int (nI sz), .ref mk, .ref mc, .ref ms, .ref md, .ref mf, .ref mst, .ref mth, .ref mdr, .ref mw, .ref msh, .ref mpo, .ref mpa, .ref mde, .ref mj]]) q_5 hP hD
              have q_6 : r1 = (rk_rule hh 1 r1 3 v) := by simp [rm_rule, rk_rule, gd_P, c_6, c_23, c_40, h_66, c_88]
              obtain ⟨hP, hD⟩ := cs_W (fun z_z => [ob_J y 6 [.int 0, .int (nI hh), .int (rk_rule hh 0 r0 3 v), .int z_z, .int r2, .int v, .ref mb, .int given, .int mrew, .int (nI sz), .ref mk, .ref mc, .ref ms, .ref md, .ref mf, .ref mst, .ref mth, .ref mdr, .ref mw, .ref msh, .ref mpo, .ref mpa, .ref mde, .ref mj]]) q_6 hP hD
              have q_7 : r2 = (rk_rule hh 2 r2 3 v) := by simp [rm_rule, rk_rule, gd_P, c_6, c_23, c_40, h_66, c_88]
              obtain ⟨hP, hD⟩ := cs_W (fun z_z => [ob_J y 6 [.int 0, .int (nI hh), .int (rk_rule hh 0 r0 3 v), .int (rk_rule hh 1 r1 3 v), .int z_z, .int v, .ref mb, .int given, .int mrew, .int (nI sz), .ref mk, .ref mc, .ref ms, .ref md, .ref mf, .ref mst, .ref mth, .ref mdr, .ref mw, .ref msh, .ref mpo, .ref mpa, .ref mde, .ref mj]]) q_7 hP hD
              have q_8 : v = (rk_rule hh 3 r3 3 v) := by simp [rm_rule, rk_rule, gd_P, c_6, c_23, c_40, h_66, c_88]
              obtain ⟨hP, hD⟩ := cs_W (fun z_z => [ob_J y 6 [.int 0, .int (nI hh), .int (rk_rule hh 0 r0 3 v), .int (rk_rule hh 1 r1 3 v), .int (rk_rule hh 2 r2 3 v), .int z_z, .ref mb, .int given, .int mrew, .int (nI sz), .ref mk, .ref mc, .ref ms, .ref md, .ref mf, .ref mst, .ref mth, .ref mdr, .ref mw, .ref msh, .ref mpo, .ref mpa, .ref mde, .ref mj]]) q_8 hP hD
              exact re_I (w1 := fun u_u : Unit => [ob_J y 6 [.int 0, .int (nI hh), .int (rk_rule hh 0 r0 3 v), .int (rk_rule hh 1 r1 3 v), .int (rk_rule hh 2 r2 3 v), .int (rk_rule hh 3 r3 3 v), .ref mb, .int given, .int mrew, .int (nI sz), .ref mk, .ref mc, .ref ms, .ref md, .ref mf, .ref mst, .ref mth, .ref mdr, .ref mw, .ref msh, .ref mpo, .ref mpa, .ref mde, .ref mj]]) (v := r3) hx hb hr hlk hK hS rfl () hP hD (show r3 = rm_rule hh r0 r1 r2 r3 3 v from by simp [rm_rule, rk_rule, gd_P, c_6, c_23, c_40, h_66, c_88]) dX6_rule_204
            · have c_88 := qq_nle (a := hh) (b := 0) c_88 (by omega) (by omega)
              have n_88 : ¬ hh = 0 := by omega
              refine lv_bipush (v := (-4)) hx hb dX6_rule_91 (by decide) ?_
              have q_9 : r0 = (rk_rule hh 0 r0 3 v) := by simp [rm_rule, rk_rule, gd_P, c_6, c_23, c_40, h_66, c_88, n_88]
              obtain ⟨hP, hD⟩ := cs_W (fun z_z => [ob_J y 6 [.int 0, .int (nI hh), .int z_z, .int r1, .int r2, .int r3, .ref mb, .int given, .int mrew, .int (nI sz), .ref mk, .ref mc, .ref ms, .ref md, .ref mf, .ref mst, .ref mth, .ref mdr, .ref mw, .ref msh, .ref mpo, .ref mpa, .ref mde, .ref mj]]) q_9 hP hD
              have q_10 : r1 = (rk_rule hh 1 r1 3 v) := by simp [rm_rule, rk_rule, gd_P, c_6, c_23, c_40, h_66, c_88, n_88]
              obtain ⟨hP, hD⟩ := cs_W (fun z_z => [ob_J y 6 [.int 0, .int (nI hh), .int (rk_rule hh 0 r0 3 v), .int z_z, .int r2, .int r3, .ref mb, .int given, .int mrew, .int (nI sz), .ref mk, .ref mc, .ref ms, .ref md, .ref mf, .ref mst, .ref mth, .ref mdr, .ref mw, .ref msh, .ref mpo, .ref mpa, .ref mde, .ref mj]]) q_10 hP hD
              have q_11 : r2 = (rk_rule hh 2 r2 3 v) := by simp [rm_rule, rk_rule, gd_P, c_6, c_23, c_40, h_66, c_88, n_88]
              obtain ⟨hP, hD⟩ := cs_W (fun z_z => [ob_J y 6 [.int 0, .int (nI hh), .int (rk_rule hh 0 r0 3 v), .int (rk_rule hh 1 r1 3 v), .int z_z, .int r3, .ref mb, .int given, .int mrew, .int (nI sz), .ref mk, .ref mc, .ref ms, .ref md, .ref mf, .ref mst, .ref mth, .ref mdr, .ref mw, .ref msh, .ref mpo, .ref mpa, .ref mde, .ref mj]]) q_11 hP hD
              have q_12 : r3 = (rk_rule hh 3 r3 3 v) := by simp [rm_rule, rk_rule, gd_P, c_6, c_23, c_40, h_66, c_88, n_88]
              obtain ⟨hP, hD⟩ := cs_W (fun z_z => [ob_J y 6 [.int 0, .int (nI hh), .int (rk_rule hh 0 r0 3 v), .int (rk_rule hh 1 r1 3 v), .int (rk_rule hh 2 r2 3 v), .int z_z, .ref mb, .int given, .int mrew, .int (nI sz), .ref mk, .ref mc, .ref ms, .ref md, .ref mf, .ref mst, .ref mth, .ref mdr, .ref mw, .ref msh, .ref mpo, .ref mpa, .ref mde, .ref mj]]) q_12 hP hD
              exact re_I (w1 := fun u_u : Unit => [ob_J y 6 [.int 0, .int (nI hh), .int (rk_rule hh 0 r0 3 v), .int (rk_rule hh 1 r1 3 v), .int (rk_rule hh 2 r2 3 v), .int (rk_rule hh 3 r3 3 v), .ref mb, .int given, .int mrew, .int (nI sz), .ref mk, .ref mc, .ref ms, .ref md, .ref mf, .ref mst, .ref mth, .ref mdr, .ref mw, .ref msh, .ref mpo, .ref mpa, .ref mde, .ref mj]]) (v := (-4)) hx hb hr hlk hK hS rfl () hP hD (show (-4) = rm_rule hh r0 r1 r2 r3 3 v from by simp [rm_rule, rk_rule, gd_P, c_6, c_23, c_40, h_66, c_88, n_88]) dX6_rule_93
          · rw [if_neg h_66] at w_66; subst w_66
            refine lv_if_eq (tgt := 76) hx hb dX6_rule_69 (by decide) (fun _ => ?_) (fun h9 => absurd (by decide) h9)
            refine lv_iconst (v := 0) hx hb dX6_rule_76 (by decide) ?_
            refine lv_istore_n (lv' := [(3, .int 0), (0, .ref y), (1, .int 3), (2, .int v)]) hx hb dX6_rule_77 rfl hl (by decide) rfl (fun ls hl => ?_)
            refine lv_iload_n hx hb dX6_rule_78 rfl (lv_at hl 0 rfl) ?_
            refine lv_if_ne (tgt := 84) hx hb dX6_rule_79 (by decide) (fun h9 => absurd (by decide) h9) (fun _ => ?_)
            refine lv_iconst (v := (-1)) hx hb dX6_rule_82 (by decide) ?_
            have q_13 : r0 = (rk_rule hh 0 r0 3 v) := by simp [rm_rule, rk_rule, gd_P, c_6, c_23, c_40, h_66]
            obtain ⟨hP, hD⟩ := cs_W (fun z_z => [ob_J y 6 [.int 0, .int (nI hh), .int z_z, .int r1, .int r2, .int r3, .ref mb, .int given, .int mrew, .int (nI sz), .ref mk, .ref mc, .ref ms, .ref md, .ref mf, .ref mst, .ref mth, .ref mdr, .ref mw, .ref msh, .ref mpo, .ref mpa, .ref mde, .ref mj]]) q_13 hP hD
            have q_14 : r1 = (rk_rule hh 1 r1 3 v) := by simp [rm_rule, rk_rule, gd_P, c_6, c_23, c_40, h_66]
            obtain ⟨hP, hD⟩ := cs_W (fun z_z => [ob_J y 6 [.int 0, .int (nI hh), .int (rk_rule hh 0 r0 3 v), .int z_z, .int r2, .int r3, .ref mb, .int given, .int mrew, .int (nI sz), .ref mk, .ref mc, .ref ms, .ref md, .ref mf, .ref mst, .ref mth, .ref mdr, .ref mw, .ref msh, .ref mpo, .ref mpa, .ref mde, .ref mj]]) q_14 hP hD
            have q_15 : r2 = (rk_rule hh 2 r2 3 v) := by simp [rm_rule, rk_rule, gd_P, c_6, c_23, c_40, h_66]
            obtain ⟨hP, hD⟩ := cs_W (fun z_z => [ob_J y 6 [.int 0, .int (nI hh), .int (rk_rule hh 0 r0 3 v), .int (rk_rule hh 1 r1 3 v), .int z_z, .int r3, .ref mb, .int given, .int mrew, .int (nI sz), .ref mk, .ref mc, .ref ms, .ref md, .ref mf, .ref mst, .ref mth, .ref mdr, .ref mw, .ref msh, .ref mpo, .ref mpa, .ref mde, .ref mj]]) q_15 hP hD
            have q_16 : r3 = (rk_rule hh 3 r3 3 v) := by simp [rm_rule, rk_rule, gd_P, c_6, c_23, c_40, h_66]
            obtain ⟨hP, hD⟩ := cs_W (fun z_z => [ob_J y 6 [.int 0, .int (nI hh), .int (rk_rule hh 0 r0 3 v), .int (rk_rule hh 1 r1 3 v), .int (rk_rule hh 2 r2 3 v), .int z_z, .ref mb, .int given, .int mrew, .int (nI sz), .ref mk, .ref mc, .ref ms, .ref md, .ref mf, .ref mst, .ref mth, .ref mdr, .ref mw, .ref msh, .ref mpo, .ref mpa, .ref mde, .ref mj]]) q_16 hP hD
            exact re_I (w1 := fun u_u : Unit => [ob_J y 6 [.int 0, .int (nI hh), .int (rk_rule hh 0 r0 3 v), .int (rk_rule hh 1 r1 3 v), .int (rk_rule hh 2 r2 3 v), .int (rk_rule hh 3 r3 3 v), .ref mb, .int given, .int mrew, .int (nI sz), .ref mk, .ref mc, .ref ms, .ref md, .ref mf, .ref mst, .ref mth, .ref mdr, .ref mw, .ref msh, .ref mpo, .ref mpa, .ref mde, .ref mj]]) (v := (-1)) hx hb hr hlk hK hS rfl () hP hD (show (-1) = rm_rule hh r0 r1 r2 r3 3 v from by simp [rm_rule, rk_rule, gd_P, c_6, c_23, c_40, h_66]) dX6_rule_83
      · subst c_40
        refine lv_iload_n hx hb dX6_rule_43 rfl (lv_at hl 2 rfl) ?_
        refine lv_i2l (v := v.toInt64) hx hb dX6_rule_44 (rfl) ?_
        refine lv_lconst (v := (Int32.toInt64 1)) hx hb dX6_rule_45 (by decide) ?_
        refine lv_ldc2 hx hb hown (hts _ bw_487) dX6_rule_46 ?_
        refine tp_l (x' := (Int32.toInt64 50)) (by decide) ?_
        refine ca_SI (rest := []) (k_X6_in l D cI cJ cZ v 1 50 ) hx hb hml hown hts hN hK hA hP hD hS bw_483 bw_484 bw_7 bw_485 3 rfl (by decide +kernel) ⟨by decide, by decide⟩ hl.1 rfl (Nat.le_of_ble_eq_true rfl) dX6_rule_49 ⟨Nat.zero_le _, Nat.zero_le _⟩ (fun r_49 u_u H locs w_49 hP hD hS => ?_)
        have w_49 : r_49 = if 1 ≤ v ∧ v ≤ 50 then 1 else 0 := w_49
        by_cases h_49 : 1 ≤ v ∧ v ≤ 50
        · rw [if_pos h_49] at w_49; subst w_49
          refine lv_goto (tgt := 77) hx hb dX6_rule_52 (by decide) ?_
          refine lv_istore_n (lv' := [(3, .int 1), (0, .ref y), (1, .int 2), (2, .int v)]) hx hb dX6_rule_77 rfl hl (by decide) rfl (fun ls hl => ?_)
          refine lv_iload_n hx hb dX6_rule_78 rfl (lv_at hl 0 rfl) ?_
          refine lv_if_ne (tgt := 84) hx hb dX6_rule_79 (by decide) (fun _ => ?_) (fun h9 => absurd h9 (by decide))
          refine lv_aload_n hx hb dX6_rule_84 rfl (lv_at hl 1 rfl) ?_
          refine va_get (ci := 6) (v := .int (nI hh)) (C := RX6) (T := TX6) (N := 24) hx hb hts bi_6 hown hK hP 0 rfl rfl 1 (by decide) (hts _ bw_406) (fun _ h9 => h9) rfl dX6_rule_85 ?_
          refine lv_if_le (tgt := 94) hx hb dX6_rule_88 (by decide) (fun c_88 => ?_) (fun c_88 => ?_)
          · have c_88 := qq_le (a := hh) (b := 0) c_88 (by omega) (by omega)
            have c_88 : hh = 0 := by omega
            refine lv_iload_n hx hb dX6_rule_94 rfl (lv_at hl 2 rfl) ?_
            refine lv_if_ne (tgt := 105) hx hb dX6_rule_95 (by decide) (fun _ => ?_) (fun h9 => absurd h9 (by decide))
            refine lv_iload_n hx hb dX6_rule_105 rfl (lv_at hl 2 rfl) ?_
            refine lv_iconst (v := 1) hx hb dX6_rule_106 (by decide) ?_
            refine lv_icmp_ne (tgt := 117) hx hb dX6_rule_107 (by decide) (fun _ => ?_) (fun h9 => absurd h9 (by decide))
            refine lv_iload_n hx hb dX6_rule_117 rfl (lv_at hl 2 rfl) ?_
            refine lv_iconst (v := 2) hx hb dX6_rule_118 (by decide) ?_
            refine lv_icmp_ne (tgt := 129) hx hb dX6_rule_119 (by decide) (fun h9 => absurd (by decide) h9) (fun _ => ?_)
            refine lv_aload_n hx hb dX6_rule_122 rfl (lv_at hl 1 rfl) ?_
            refine va_get (ci := 6) (v := .int r2) (C := RX6) (T := TX6) (N := 24) hx hb hts bi_6 hown hK hP 0 rfl rfl 4 (by decide) (hts _ bw_409) (fun _ h9 => h9) rfl dX6_rule_123 ?_
            refine lv_goto (tgt := 133) hx hb dX6_rule_126 (by decide) ?_
            refine lv_istore (lv' := [(4, .int r2), (3, .int 1), (0, .ref y), (1, .int 2), (2, .int v)]) hx hb dX6_rule_133 hl (by decide) rfl (fun ls hl => ?_)
            refine lv_aload_n hx hb dX6_rule_135 rfl (lv_at hl 2 rfl) ?_
            refine lv_iload_n hx hb dX6_rule_136 rfl (lv_at hl 3 rfl) ?_
            refine lv_if_ne (tgt := 144) hx hb dX6_rule_137 (by decide) (fun _ => ?_) (fun h9 => absurd h9 (by decide))
            refine lv_aload_n hx hb dX6_rule_144 rfl (lv_at hl 2 rfl) ?_
            refine va_get (ci := 6) (v := .int r0) (C := RX6) (T := TX6) (N := 24) hx hb hts bi_6 hown hK hP 0 rfl rfl 2 (by decide) (hts _ bw_407) (fun _ h9 => h9) rfl dX6_rule_145 ?_
            refine va_put (ci := 6) (v := .int r0) (ty := .int) (C := RX6) (T := TX6) (N := 24) hx hb hts bi_6 tyX6 tyX6_ok nmX6 hown hK hP hD hS 0 rfl rfl 2 (by decide) (hts _ bw_407) (fun _ h9 => h9) rfl (by decide +kernel) rfl rfl (Nat.le_of_ble_eq_true rfl) dX6_rule_148 (fun H locs hP hD hS => ?_)
            have hP : va_P D cl_A [ob_J y 6 [.int 0, .int (nI hh), .int r0, .int r1, .int r2, .int r3, .ref mb, .int given, .int mrew, .int (nI sz), .ref mk, .ref mc, .ref ms, .ref md, .ref mf, .ref mst, .ref mth, .ref mdr, .ref mw, .ref msh, .ref mpo, .ref mpa, .ref mde, .ref mj]] H := hP
            have hD : va_D A [ob_J y 6 [.int 0, .int (nI hh), .int r0, .int r1, .int r2, .int r3, .ref mb, .int given, .int mrew, .int (nI sz), .ref mk, .ref mc, .ref ms, .ref md, .ref mf, .ref mst, .ref mth, .ref mdr, .ref mw, .ref msh, .ref mpo, .ref mpa, .ref mde, .ref mj]] := hD
            refine lv_aload_n hx hb dX6_rule_151 rfl (lv_at hl 2 rfl) ?_
            refine lv_iload_n hx hb dX6_rule_152 rfl (lv_at hl 3 rfl) ?_
            refine lv_iconst (v := 1) hx hb dX6_rule_153 (by decide) ?_
            refine lv_icmp_ne (tgt := 161) hx hb dX6_rule_154 (by decide) (fun _ => ?_) (fun h9 => absurd h9 (by decide))
            refine lv_aload_n hx hb dX6_rule_161 rfl (lv_at hl 2 rfl) ?_
            refine va_get (ci := 6) (v := .int r1) (C := RX6) (T := TX6) (N := 24) hx hb hts bi_6 hown hK hP 0 rfl rfl 3 (by decide) (hts _ bw_408) (fun _ h9 => h9) rfl dX6_rule_162 ?_
            refine va_put (ci := 6) (v := .int r1) (ty := .int) (C := RX6) (T := TX6) (N := 24) hx hb hts bi_6 tyX6 tyX6_ok nmX6 hown hK hP hD hS 0 rfl rfl 3 (by decide) (hts _ bw_408) (fun _ h9 => h9) rfl (by decide +kernel) rfl rfl (Nat.le_of_ble_eq_true rfl) dX6_rule_165 (fun H locs hP hD hS => ?_)
            have hP : va_P D cl_A [ob_J y 6 [.int 0, .int (nI hh), .int r0, .int r1, .int r2, .int r3, .ref mb, .int given, .int mrew, .int (nI sz), .ref mk, .ref mc, .ref ms, .ref md, .ref mf, .ref mst, .ref mth, .ref mdr, .ref mw, .ref msh, .ref mpo, .ref mpa, .ref mde, .ref mj]] H := hP
            have hD : va_D A [ob_J y 6 [.int 0, .int (nI hh), .int r0, .int r1, .int r2, .int r3, .ref mb, .int given, .int mrew, .int (nI sz), .ref mk, .ref mc, .ref ms, .ref md, .ref mf, .ref mst, .ref mth, .ref mdr, .ref mw, .ref msh, .ref mpo, .ref mpa, .ref mde, .ref mj]] := hD
            refine lv_aload_n hx hb dX6_rule_168 rfl (lv_at hl 2 rfl) ?_
            refine lv_iload_n hx hb dX6_rule_169 rfl (lv_at hl 3 rfl) ?_
            refine lv_iconst (v := 2) hx hb dX6_rule_170 (by decide) ?_
            refine lv_icmp_ne (tgt := 178) hx hb dX6_rule_171 (by decide) (fun h9 => absurd (by decide) h9) (fun _ => ?_)
            refine lv_iload_n hx hb dX6_rule_174 rfl (lv_at hl 4 rfl) ?_
            refine lv_goto (tgt := 182) hx hb dX6_rule_175 (by decide) ?_
            refine va_put (ci := 6) (v := .int v) (ty := .int) (C := RX6) (T := TX6) (N := 24) hx hb hts bi_6 tyX6 tyX6_ok nmX6 hown hK hP hD hS 0 rfl rfl 4 (by decide) (hts _ bw_409) (fun _ h9 => h9) rfl (by decide +kernel) rfl rfl (Nat.le_of_ble_eq_true rfl) dX6_rule_182 (fun H locs hP hD hS => ?_)
            have hP : va_P D cl_A [ob_J y 6 [.int 0, .int (nI hh), .int r0, .int r1, .int v, .int r3, .ref mb, .int given, .int mrew, .int (nI sz), .ref mk, .ref mc, .ref ms, .ref md, .ref mf, .ref mst, .ref mth, .ref mdr, .ref mw, .ref msh, .ref mpo, .ref mpa, .ref mde, .ref mj]] H := hP
            have hD : va_D A [ob_J y 6 [.int 0, .int (nI hh), .int r0, .int r1, .int v, .int r3, .ref mb, .int given, .int mrew, .int (nI sz), .ref mk, .ref mc, .ref ms, .ref md, .ref mf, .ref mst, .ref mth, .ref mdr, .ref mw, .ref msh, .ref mpo, .ref mpa, .ref mde, .ref mj]] := hD
            refine lv_aload_n hx hb dX6_rule_185 rfl (lv_at hl 2 rfl) ?_
            refine lv_iload_n hx hb dX6_rule_186 rfl (lv_at hl 3 rfl) ?_
            refine lv_iconst (v := 3) hx hb dX6_rule_187 (by decide) ?_
            refine lv_icmp_ne (tgt := 195) hx hb dX6_rule_188 (by decide) (fun _ => ?_) (fun h9 => absurd h9 (by decide))
            refine lv_aload_n hx hb dX6_rule_195 rfl (lv_at hl 2 rfl) ?_
            refine va_get (ci := 6) (v := .int r3) (C := RX6) (T := TX6) (N := 24) hx hb hts bi_6 hown hK hP 0 rfl rfl 5 (by decide) (hts _ bw_410) (fun _ h9 => h9) rfl dX6_rule_196 ?_
            refine va_put (ci := 6) (v := .int r3) (ty := .int) (C := RX6) (T := TX6) (N := 24) hx hb hts bi_6 tyX6 tyX6_ok nmX6 hown hK hP hD hS 0 rfl rfl 5 (by decide) (hts _ bw_410) (fun _ h9 => h9) rfl (by decide +kernel) rfl rfl (Nat.le_of_ble_eq_true rfl) dX6_rule_199 (fun H locs hP hD hS => ?_)
            have hP : va_P D cl_A [ob_J y 6 [.int 0, .int (nI hh), .int r0, .int r1, .int v, .int r3, .ref mb, .int given, .int mrew, .int (nI sz), .ref mk, .ref mc, .ref ms, .ref md, .ref mf, .ref mst, .ref mth, .ref mdr, .ref mw, .ref msh, .ref mpo, .ref mpa, .ref mde, .ref mj]] H := hP
            have hD : va_D A [ob_J y 6 [.int 0, .int (nI hh), .int r0, .int r1, .int v, .int r3, .ref mb, .int given, .int mrew, .int (nI sz), .ref mk, .ref mc, .ref ms, .ref md, .ref mf, .ref mst, .ref mth, .ref mdr, .ref mw, .ref msh, .ref mpo, .ref mpa, .ref mde, .ref mj]] := hD
            refine lv_iload hx hb dX6_rule_202 (lv_at hl 0 rfl) ?_
            have q_17 : r0 = (rk_rule hh 0 r0 2 v) := by simp [rm_rule, rk_rule, gd_P, c_6, c_23, h_49, c_88]
            obtain ⟨hP, hD⟩ := cs_W (fun z_z => [ob_J y 6 [.int 0, .int (nI hh), .int z_z, .int r1, .int v, .int r3, .ref mb, .int given, .int mrew, .int (nI sz), .ref mk, .ref mc, .ref ms, .ref md, .ref mf, .ref mst, .ref mth, .ref mdr, .ref mw, .ref msh, .ref mpo, .ref mpa, .ref mde, .ref mj]]) q_17 hP hD
            have q_18 : r1 = (rk_rule hh 1 r1 2 v) := by simp [rm_rule, rk_rule, gd_P, c_6, c_23, h_49, c_88]
            obtain ⟨hP, hD⟩ := cs_W (fun z_z => [ob_J y 6 [.int 0, .int (nI hh), .int (rk_rule hh 0 r0 2 v), .int z_z, .int v, .int r3, .ref mb, .int given, .int mrew, .int (nI sz), .ref mk, .ref mc, .ref ms, .ref md, .ref mf, .ref mst, .ref mth, .ref mdr, .ref mw, .ref msh, .ref mpo, .ref mpa, .ref mde, .ref mj]]) q_18 hP hD
            have q_19 : v = (rk_rule hh 2 r2 2 v) := by simp [rm_rule, rk_rule, gd_P, c_6, c_23, h_49, c_88]
            obtain ⟨hP, hD⟩ := cs_W (fun z_z => [ob_J y 6 [.int 0, .int (nI hh), .int (rk_rule hh 0 r0 2 v), .int (rk_rule hh 1 r1 2 v), .int z_z, .int r3, .ref mb, .int given, .int mrew, .int (nI sz), .ref mk, .ref mc, .ref ms, .ref md, .ref mf, .ref mst, .ref mth, .ref mdr, .ref mw, .ref msh, .ref mpo, .ref mpa, .ref mde, .ref mj]]) q_19 hP hD
            have q_20 : r3 = (rk_rule hh 3 r3 2 v) := by simp [rm_rule, rk_rule, gd_P, c_6, c_23, h_49, c_88]
            obtain ⟨hP, hD⟩ := cs_W (fun z_z => [ob_J y 6 [.int 0, .int (nI hh), .int (rk_rule hh 0 r0 2 v), .int (rk_rule hh 1 r1 2 v), .int (rk_rule hh 2 r2 2 v), .int z_z, .ref mb, .int given, .int mrew, .int (nI sz), .ref mk, .ref mc, .ref ms, .ref md, .ref mf, .ref mst, .ref mth, .ref mdr, .ref mw, .ref msh, .ref mpo, .ref mpa, .ref mde, .ref mj]]) q_20 hP hD
            exact re_I (w1 := fun u_u : Unit => [ob_J y 6 [.int 0, .int (nI hh), .int (rk_rule hh 0 r0 2 v), .int (rk_rule hh 1 r1 2 v), .int (rk_rule hh 2 r2 2 v), .int (rk_rule hh 3 r3 2 v), .ref mb, .int given, .int mrew, .int (nI sz), .ref mk, .ref mc, .ref ms, .ref md, .ref mf, .ref mst, .ref mth, .ref mdr, .ref mw, .ref msh, .ref mpo, .ref mpa, .ref mde, .ref mj]]) (v := r2) hx hb hr hlk hK hS rfl () hP hD (show r2 = rm_rule hh r0 r1 r2 r3 2 v from by simp [rm_rule, rk_rule, gd_P, c_6, c_23, h_49, c_88]) dX6_rule_204
          · have c_88 := qq_nle (a := hh) (b := 0) c_88 (by omega) (by omega)
            have n_88 : ¬ hh = 0 := by omega
            refine lv_bipush (v := (-4)) hx hb dX6_rule_91 (by decide) ?_
            have q_21 : r0 = (rk_rule hh 0 r0 2 v) := by simp [rm_rule, rk_rule, gd_P, c_6, c_23, h_49, c_88, n_88]
            obtain ⟨hP, hD⟩ := cs_W (fun z_z => [ob_J y 6 [.int 0, .int (nI hh), .int z_z, .int r1, .int r2, .int r3, .ref mb, .int given, .int mrew, .int (nI sz), .ref mk, .ref mc, .ref ms, .ref md, .ref mf, .ref mst, .ref mth, .ref mdr, .ref mw, .ref msh, .ref mpo, .ref mpa, .ref mde, .ref mj]]) q_21 hP hD
            have q_22 : r1 = (rk_rule hh 1 r1 2 v) := by simp [rm_rule, rk_rule, gd_P, c_6, c_23, h_49, c_88, n_88]
            obtain ⟨hP, hD⟩ := cs_W (fun z_z => [ob_J y 6 [.int 0, .int (nI hh), .int (rk_rule hh 0 r0 2 v), .int z_z, .int r2, .int r3, .ref mb, .int given, .int mrew, .int (nI sz), .ref mk, .ref mc, .ref ms, .ref md, .ref mf, .ref mst, .ref mth, .ref mdr, .ref mw, .ref msh, .ref mpo, .ref mpa, .ref mde, .ref mj]]) q_22 hP hD
            have q_23 : r2 = (rk_rule hh 2 r2 2 v) := by simp [rm_rule, rk_rule, gd_P, c_6, c_23, h_49, c_88, n_88]
            obtain ⟨hP, hD⟩ := cs_W (fun z_z => [ob_J y 6 [.int 0, .int (nI hh), .int (rk_rule hh 0 r0 2 v), .int (rk_rule hh 1 r1 2 v), .int z_z, .int r3, .ref mb, .int given, .int mrew, .int (nI sz), .ref mk, .ref mc, .ref ms, .ref md, .ref mf, .ref mst, .ref mth, .ref mdr, .ref mw, .ref msh, .ref mpo, .ref mpa, .ref mde, .ref mj]]) q_23 hP hD
            have q_24 : r3 = (rk_rule hh 3 r3 2 v) := by simp [rm_rule, rk_rule, gd_P, c_6, c_23, h_49, c_88, n_88]
            obtain ⟨hP, hD⟩ := cs_W (fun z_z => [ob_J y 6 [.int 0, .int (nI hh), .int (rk_rule hh 0 r0 2 v), .int (rk_rule hh 1 r1 2 v), .int (rk_rule hh 2 r2 2 v), .int z_z, .ref mb, .int given, .int mrew, .int (nI sz), .ref mk, .ref mc, .ref ms, .ref md, .ref mf, .ref mst, .ref mth, .ref mdr, .ref mw, .ref msh, .ref mpo, .ref mpa, .ref mde, .ref mj]]) q_24 hP hD
            exact re_I (w1 := fun u_u : Unit => [ob_J y 6 [.int 0, .int (nI hh), .int (rk_rule hh 0 r0 2 v), .int (rk_rule hh 1 r1 2 v), .int (rk_rule hh 2 r2 2 v), .int (rk_rule hh 3 r3 2 v), .ref mb, .int given, .int mrew, .int (nI sz), .ref mk, .ref mc, .ref ms, .ref md, .ref mf, .ref mst, .ref mth, .ref mdr, .ref mw, .ref msh, .ref mpo, .ref mpa, .ref mde, .ref mj]]) (v := (-4)) hx hb hr hlk hK hS rfl () hP hD (show (-4) = rm_rule hh r0 r1 r2 r3 2 v from by simp [rm_rule, rk_rule, gd_P, c_6, c_23, h_49, c_88, n_88]) dX6_rule_93
        · rw [if_neg h_49] at w_49; subst w_49
          refine lv_goto (tgt := 77) hx hb dX6_rule_52 (by decide) ?_
          refine lv_istore_n (lv' := [(3, .int 0), (0, .ref y), (1, .int 2), (2, .int v)]) hx hb dX6_rule_77 rfl hl (by decide) rfl (fun ls hl => ?_)
          refine lv_iload_n hx hb dX6_rule_78 rfl (lv_at hl 0 rfl) ?_
          refine lv_if_ne (tgt := 84) hx hb dX6_rule_79 (by decide) (fun h9 => absurd (by decide) h9) (fun _ => ?_)
          refine lv_iconst (v := (-1)) hx hb dX6_rule_82 (by decide) ?_
          have q_25 : r0 = (rk_rule hh 0 r0 2 v) := by simp [rm_rule, rk_rule, gd_P, c_6, c_23, h_49]
          obtain ⟨hP, hD⟩ := cs_W (fun z_z => [ob_J y 6 [.int 0, .int (nI hh), .int z_z, .int r1, .int r2, .int r3, .ref mb, .int given, .int mrew, .int (nI sz), .ref mk, .ref mc, .ref ms, .ref md, .ref mf, .ref mst, .ref mth, .ref mdr, .ref mw, .ref msh, .ref mpo, .ref mpa, .ref mde, .ref mj]]) q_25 hP hD
          have q_26 : r1 = (rk_rule hh 1 r1 2 v) := by simp [rm_rule, rk_rule, gd_P, c_6, c_23, h_49]
          obtain ⟨hP, hD⟩ := cs_W (fun z_z => [ob_J y 6 [.int 0, .int (nI hh), .int (rk_rule hh 0 r0 2 v), .int z_z, .int r2, .int r3, .ref mb, .int given, .int mrew, .int (nI sz), .ref mk, .ref mc, .ref ms, .ref md, .ref mf, .ref mst, .ref mth, .ref mdr, .ref mw, .ref msh, .ref mpo, .ref mpa, .ref mde, .ref mj]]) q_26 hP hD
          have q_27 : r2 = (rk_rule hh 2 r2 2 v) := by simp [rm_rule, rk_rule, gd_P, c_6, c_23, h_49]
          obtain ⟨hP, hD⟩ := cs_W (fun z_z => [ob_J y 6 [.int 0, .int (nI hh), .int (rk_rule hh 0 r0 2 v), .int (rk_rule hh 1 r1 2 v), .int z_z, .int r3, .ref mb, .int given, .int mrew, .int (nI sz), .ref mk, .ref mc, .ref ms, .ref md, .ref mf, .ref mst, .ref mth, .ref mdr, .ref mw, .ref msh, .ref mpo, .ref mpa, .ref mde, .ref mj]]) q_27 hP hD
          have q_28 : r3 = (rk_rule hh 3 r3 2 v) := by simp [rm_rule, rk_rule, gd_P, c_6, c_23, h_49]
          obtain ⟨hP, hD⟩ := cs_W (fun z_z => [ob_J y 6 [.int 0, .int (nI hh), .int (rk_rule hh 0 r0 2 v), .int (rk_rule hh 1 r1 2 v), .int (rk_rule hh 2 r2 2 v), .int z_z, .ref mb, .int given, .int mrew, .int (nI sz), .ref mk, .ref mc, .ref ms, .ref md, .ref mf, .ref mst, .ref mth, .ref mdr, .ref mw, .ref msh, .ref mpo, .ref mpa, .ref mde, .ref mj]]) q_28 hP hD
          exact re_I (w1 := fun u_u : Unit => [ob_J y 6 [.int 0, .int (nI hh), .int (rk_rule hh 0 r0 2 v), .int (rk_rule hh 1 r1 2 v), .int (rk_rule hh 2 r2 2 v), .int (rk_rule hh 3 r3 2 v), .ref mb, .int given, .int mrew, .int (nI sz), .ref mk, .ref mc, .ref ms, .ref md, .ref mf, .ref mst, .ref mth, .ref mdr, .ref mw, .ref msh, .ref mpo, .ref mpa, .ref mde, .ref mj]]) (v := (-1)) hx hb hr hlk hK hS rfl () hP hD (show (-1) = rm_rule hh r0 r1 r2 r3 2 v from by simp [rm_rule, rk_rule, gd_P, c_6, c_23, h_49]) dX6_rule_83
    · subst c_23
      refine lv_iload_n hx hb dX6_rule_26 rfl (lv_at hl 2 rfl) ?_
      refine lv_i2l (v := v.toInt64) hx hb dX6_rule_27 (rfl) ?_
      refine lv_lconst (v := (Int32.toInt64 0)) hx hb dX6_rule_28 (by decide) ?_
      refine lv_ldc2 hx hb hown (hts _ bw_486) dX6_rule_29 ?_
      refine tp_l (x' := (Int32.toInt64 10000)) (by decide) ?_
      refine ca_SI (rest := []) (k_X6_in l D cI cJ cZ v 0 10000 ) hx hb hml hown hts hN hK hA hP hD hS bw_483 bw_484 bw_7 bw_485 3 rfl (by decide +kernel) ⟨by decide, by decide⟩ hl.1 rfl (Nat.le_of_ble_eq_true rfl) dX6_rule_32 ⟨Nat.zero_le _, Nat.zero_le _⟩ (fun r_32 u_u H locs w_32 hP hD hS => ?_)
      have w_32 : r_32 = if 0 ≤ v ∧ v ≤ 10000 then 1 else 0 := w_32
      by_cases h_32 : 0 ≤ v ∧ v ≤ 10000
      · rw [if_pos h_32] at w_32; subst w_32
        refine lv_goto (tgt := 77) hx hb dX6_rule_35 (by decide) ?_
        refine lv_istore_n (lv' := [(3, .int 1), (0, .ref y), (1, .int 1), (2, .int v)]) hx hb dX6_rule_77 rfl hl (by decide) rfl (fun ls hl => ?_)
        refine lv_iload_n hx hb dX6_rule_78 rfl (lv_at hl 0 rfl) ?_
        refine lv_if_ne (tgt := 84) hx hb dX6_rule_79 (by decide) (fun _ => ?_) (fun h9 => absurd h9 (by decide))
        refine lv_aload_n hx hb dX6_rule_84 rfl (lv_at hl 1 rfl) ?_
        refine va_get (ci := 6) (v := .int (nI hh)) (C := RX6) (T := TX6) (N := 24) hx hb hts bi_6 hown hK hP 0 rfl rfl 1 (by decide) (hts _ bw_406) (fun _ h9 => h9) rfl dX6_rule_85 ?_
        refine lv_if_le (tgt := 94) hx hb dX6_rule_88 (by decide) (fun c_88 => ?_) (fun c_88 => ?_)
        · have c_88 := qq_le (a := hh) (b := 0) c_88 (by omega) (by omega)
          have c_88 : hh = 0 := by omega
          refine lv_iload_n hx hb dX6_rule_94 rfl (lv_at hl 2 rfl) ?_
          refine lv_if_ne (tgt := 105) hx hb dX6_rule_95 (by decide) (fun _ => ?_) (fun h9 => absurd h9 (by decide))
          refine lv_iload_n hx hb dX6_rule_105 rfl (lv_at hl 2 rfl) ?_
          refine lv_iconst (v := 1) hx hb dX6_rule_106 (by decide) ?_
          refine lv_icmp_ne (tgt := 117) hx hb dX6_rule_107 (by decide) (fun h9 => absurd (by decide) h9) (fun _ => ?_)
          refine lv_aload_n hx hb dX6_rule_110 rfl (lv_at hl 1 rfl) ?_
          refine va_get (ci := 6) (v := .int r1) (C := RX6) (T := TX6) (N := 24) hx hb hts bi_6 hown hK hP 0 rfl rfl 3 (by decide) (hts _ bw_408) (fun _ h9 => h9) rfl dX6_rule_111 ?_
          refine lv_goto (tgt := 133) hx hb dX6_rule_114 (by decide) ?_
          refine lv_istore (lv' := [(4, .int r1), (3, .int 1), (0, .ref y), (1, .int 1), (2, .int v)]) hx hb dX6_rule_133 hl (by decide) rfl (fun ls hl => ?_)
          refine lv_aload_n hx hb dX6_rule_135 rfl (lv_at hl 2 rfl) ?_
          refine lv_iload_n hx hb dX6_rule_136 rfl (lv_at hl 3 rfl) ?_
          refine lv_if_ne (tgt := 144) hx hb dX6_rule_137 (by decide) (fun _ => ?_) (fun h9 => absurd h9 (by decide))
          refine lv_aload_n hx hb dX6_rule_144 rfl (lv_at hl 2 rfl) ?_
          refine va_get (ci := 6) (v := .int r0) (C := RX6) (T := TX6) (N := 24) hx hb hts bi_6 hown hK hP 0 rfl rfl 2 (by decide) (hts _ bw_407) (fun _ h9 => h9) rfl dX6_rule_145 ?_
          refine va_put (ci := 6) (v := .int r0) (ty := .int) (C := RX6) (T := TX6) (N := 24) hx hb hts bi_6 tyX6 tyX6_ok nmX6 hown hK hP hD hS 0 rfl rfl 2 (by decide) (hts _ bw_407) (fun _ h9 => h9) rfl (by decide +kernel) rfl rfl (Nat.le_of_ble_eq_true rfl) dX6_rule_148 (fun H locs hP hD hS => ?_)
          have hP : va_P D cl_A [ob_J y 6 [.int 0, .int (nI hh), .int r0, .int r1, .int r2, .int r3, .ref mb, .int given, .int mrew, .int (nI sz), .ref mk, .ref mc, .ref ms, .ref md, .ref mf, .ref mst, .ref mth, .ref mdr, .ref mw, .ref msh, .ref mpo, .ref mpa, .ref mde, .ref mj]] H := hP
          have hD : va_D A [ob_J y 6 [.int 0, .int (nI hh), .int r0, .int r1, .int r2, .int r3, .ref mb, .int given, .int mrew, .int (nI sz), .ref mk, .ref mc, .ref ms, .ref md, .ref mf, .ref mst, .ref mth, .ref mdr, .ref mw, .ref msh, .ref mpo, .ref mpa, .ref mde, .ref mj]] := hD
          refine lv_aload_n hx hb dX6_rule_151 rfl (lv_at hl 2 rfl) ?_
          refine lv_iload_n hx hb dX6_rule_152 rfl (lv_at hl 3 rfl) ?_
          refine lv_iconst (v := 1) hx hb dX6_rule_153 (by decide) ?_
          refine lv_icmp_ne (tgt := 161) hx hb dX6_rule_154 (by decide) (fun h9 => absurd (by decide) h9) (fun _ => ?_)
          refine lv_iload_n hx hb dX6_rule_157 rfl (lv_at hl 4 rfl) ?_
          refine lv_goto (tgt := 165) hx hb dX6_rule_158 (by decide) ?_
          refine va_put (ci := 6) (v := .int v) (ty := .int) (C := RX6) (T := TX6) (N := 24) hx hb hts bi_6 tyX6 tyX6_ok nmX6 hown hK hP hD hS 0 rfl rfl 3 (by decide) (hts _ bw_408) (fun _ h9 => h9) rfl (by decide +kernel) rfl rfl (Nat.le_of_ble_eq_true rfl) dX6_rule_165 (fun H locs hP hD hS => ?_)
          have hP : va_P D cl_A [ob_J y 6 [.int 0, .int (nI hh), .int r0, .int v, .int r2, .int r3, .ref mb, .int given, .int mrew, .int (nI sz), .ref mk, .ref mc, .ref ms, .ref md, .ref mf, .ref mst, .ref mth, .ref mdr, .ref mw, .ref msh, .ref mpo, .ref mpa, .ref mde, .ref mj]] H := hP
          have hD : va_D A [ob_J y 6 [.int 0, .int (nI hh), .int r0, .int v, .int r2, .int r3, .ref mb, .int given, .int mrew, .int (nI sz), .ref mk, .ref mc, .ref ms, .ref md, .ref mf, .ref mst, .ref mth, .ref mdr, .ref mw, .ref msh, .ref mpo, .ref mpa, .ref mde, .ref mj]] := hD
          refine lv_aload_n hx hb dX6_rule_168 rfl (lv_at hl 2 rfl) ?_
          refine lv_iload_n hx hb dX6_rule_169 rfl (lv_at hl 3 rfl) ?_
          refine lv_iconst (v := 2) hx hb dX6_rule_170 (by decide) ?_
          refine lv_icmp_ne (tgt := 178) hx hb dX6_rule_171 (by decide) (fun _ => ?_) (fun h9 => absurd h9 (by decide))
          refine lv_aload_n hx hb dX6_rule_178 rfl (lv_at hl 2 rfl) ?_
          refine va_get (ci := 6) (v := .int r2) (C := RX6) (T := TX6) (N := 24) hx hb hts bi_6 hown hK hP 0 rfl rfl 4 (by decide) (hts _ bw_409) (fun _ h9 => h9) rfl dX6_rule_179 ?_
          refine va_put (ci := 6) (v := .int r2) (ty := .int) (C := RX6) (T := TX6) (N := 24) hx hb hts bi_6 tyX6 tyX6_ok nmX6 hown hK hP hD hS 0 rfl rfl 4 (by decide) (hts _ bw_409) (fun _ h9 => h9) rfl (by decide +kernel) rfl rfl (Nat.le_of_ble_eq_true rfl) dX6_rule_182 (fun H locs hP hD hS => ?_)
          have hP : va_P D cl_A [ob_J y 6 [.int 0, .int (nI hh), .int r0, .int v, .int r2, .int r3, .ref mb, .int given, .int mrew, .int (nI sz), .ref mk, .ref mc, .ref ms, .ref md, .ref mf, .ref mst, .ref mth, .ref mdr, .ref mw, .ref msh, .ref mpo, .ref mpa, .ref mde, .ref mj]] H := hP
          have hD : va_D A [ob_J y 6 [.int 0, .int (nI hh), .int r0, .int v, .int r2, .int r3, .ref mb, .int given, .int mrew, .int (nI sz), .ref mk, .ref mc, .ref ms, .ref md, .ref mf, .ref mst, .ref mth, .ref mdr, .ref mw, .ref msh, .ref mpo, .ref mpa, .ref mde, .ref mj]] := hD
          refine lv_aload_n hx hb dX6_rule_185 rfl (lv_at hl 2 rfl) ?_
          refine lv_iload_n hx hb dX6_rule_186 rfl (lv_at hl 3 rfl) ?_
          refine lv_iconst (v := 3) hx hb dX6_rule_187 (by decide) ?_
          refine lv_icmp_ne (tgt := 195) hx hb dX6_rule_188 (by decide) (fun _ => ?_) (fun h9 => absurd h9 (by decide))
          refine lv_aload_n hx hb dX6_rule_195 rfl (lv_at hl 2 rfl) ?_
          refine va_get (ci := 6) (v := .int r3) (C := RX6) (T := TX6) (N := 24) hx hb hts bi_6 hown hK hP 0 rfl rfl 5 (by decide) (hts _ bw_410) (fun _ h9 => h9) rfl dX6_rule_196 ?_
          refine va_put (ci := 6) (v := .int r3) (ty := .int) (C := RX6) (T := TX6) (N := 24) hx hb hts bi_6 tyX6 tyX6_ok nmX6 hown hK hP hD hS 0 rfl rfl 5 (by decide) (hts _ bw_410) (fun _ h9 => h9) rfl (by decide +kernel) rfl rfl (Nat.le_of_ble_eq_true rfl) dX6_rule_199 (fun H locs hP hD hS => ?_)
          have hP : va_P D cl_A [ob_J y 6 [.int 0, .int (nI hh), .int r0, .int v, .int r2, .int r3, .ref mb, .int given, .int mrew, .int (nI sz), .ref mk, .ref mc, .ref ms, .ref md, .ref mf, .ref mst, .ref mth, .ref mdr, .ref mw, .ref msh, .ref mpo, .ref mpa, .ref mde, .ref mj]] H := hP
          have hD : va_D A [ob_J y 6 [.int 0, .int (nI hh), .int r0, .int v, .int r2, .int r3, .ref mb, .int given, .int mrew, .int (nI sz), .ref mk, .ref mc, .ref ms, .ref md, .ref mf, .ref mst, .ref mth, .ref mdr, .ref mw, .ref msh, .ref mpo, .ref mpa, .ref mde, .ref mj]] := hD
          refine lv_iload hx hb dX6_rule_202 (lv_at hl 0 rfl) ?_
          have q_29 : r0 = (rk_rule hh 0 r0 1 v) := by simp [rm_rule, rk_rule, gd_P, c_6, h_32, c_88]
          obtain ⟨hP, hD⟩ := cs_W (fun z_z => [ob_J y 6 [.int 0, .int (nI hh), .int z_z, .int v, .int r2, .int r3, .ref mb, .int given, .int mrew, .int (nI sz), .ref mk, .ref mc, .ref ms, .ref md, .ref mf, .ref mst, .ref mth, .ref mdr, .ref mw, .ref msh, .ref mpo, .ref mpa, .ref mde, .ref mj]]) q_29 hP hD
          have q_30 : v = (rk_rule hh 1 r1 1 v) := by simp [rm_rule, rk_rule, gd_P, c_6, h_32, c_88]
          obtain ⟨hP, hD⟩ := cs_W (fun z_z => [ob_J y 6 [.int 0, .int (nI hh), .int (rk_rule hh 0 r0 1 v), .int z_z, .int r2, .int r3, .ref mb, .int given, .int mrew, .int (nI sz), .ref mk, .ref mc, .ref ms, .ref md, .ref mf, .ref mst, .ref mth, .ref mdr, .ref mw, .ref msh, .ref mpo, .ref mpa, .ref mde, .ref mj]]) q_30 hP hD
          have q_31 : r2 = (rk_rule hh 2 r2 1 v) := by simp [rm_rule, rk_rule, gd_P, c_6, h_32, c_88]
          obtain ⟨hP, hD⟩ := cs_W (fun z_z => [ob_J y 6 [.int 0, .int (nI hh), .int (rk_rule hh 0 r0 1 v), .int (rk_rule hh 1 r1 1 v), .int z_z, .int r3, .ref mb, .int given, .int mrew, .int (nI sz), .ref mk, .ref mc, .ref ms, .ref md, .ref mf, .ref mst, .ref mth, .ref mdr, .ref mw, .ref msh, .ref mpo, .ref mpa, .ref mde, .ref mj]]) q_31 hP hD
          have q_32 : r3 = (rk_rule hh 3 r3 1 v) := by simp [rm_rule, rk_rule, gd_P, c_6, h_32, c_88]
          obtain ⟨hP, hD⟩ := cs_W (fun z_z => [ob_J y 6 [.int 0, .int (nI hh), .int (rk_rule hh 0 r0 1 v), .int (rk_rule hh 1 r1 1 v), .int (rk_rule hh 2 r2 1 v), .int z_z, .ref mb, .int given, .int mrew, .int (nI sz), .ref mk, .ref mc, .ref ms, .ref md, .ref mf, .ref mst, .ref mth, .ref mdr, .ref mw, .ref msh, .ref mpo, .ref mpa, .ref mde, .ref mj]]) q_32 hP hD
          exact re_I (w1 := fun u_u : Unit => [ob_J y 6 [.int 0, .int (nI hh), .int (rk_rule hh 0 r0 1 v), .int (rk_rule hh 1 r1 1 v), .int (rk_rule hh 2 r2 1 v), .int (rk_rule hh 3 r3 1 v), .ref mb, .int given, .int mrew, .int (nI sz), .ref mk, .ref mc, .ref ms, .ref md, .ref mf, .ref mst, .ref mth, .ref mdr, .ref mw, .ref msh, .ref mpo, .ref mpa, .ref mde, .ref mj]]) (v := r1) hx hb hr hlk hK hS rfl () hP hD (show r1 = rm_rule hh r0 r1 r2 r3 1 v from by simp [rm_rule, rk_rule, gd_P, c_6, h_32, c_88]) dX6_rule_204
        · have c_88 := qq_nle (a := hh) (b := 0) c_88 (by omega) (by omega)
          have n_88 : ¬ hh = 0 := by omega
          refine lv_bipush (v := (-4)) hx hb dX6_rule_91 (by decide) ?_
          have q_33 : r0 = (rk_rule hh 0 r0 1 v) := by simp [rm_rule, rk_rule, gd_P, c_6, h_32, c_88, n_88]
          obtain ⟨hP, hD⟩ := cs_W (fun z_z => [ob_J y 6 [.int 0, .int (nI hh), .int z_z, .int r1, .int r2, .int r3, .ref mb, .int given, .int mrew, .int (nI sz), .ref mk, .ref mc, .ref ms, .ref md, .ref mf, .ref mst, .ref mth, .ref mdr, .ref mw, .ref msh, .ref mpo, .ref mpa, .ref mde, .ref mj]]) q_33 hP hD
          have q_34 : r1 = (rk_rule hh 1 r1 1 v) := by simp [rm_rule, rk_rule, gd_P, c_6, h_32, c_88, n_88]
          obtain ⟨hP, hD⟩ := cs_W (fun z_z => [ob_J y 6 [.int 0, .int (nI hh), .int (rk_rule hh 0 r0 1 v), .int z_z, .int r2, .int r3, .ref mb, .int given, .int mrew, .int (nI sz), .ref mk, .ref mc, .ref ms, .ref md, .ref mf, .ref mst, .ref mth, .ref mdr, .ref mw, .ref msh, .ref mpo, .ref mpa, .ref mde, .ref mj]]) q_34 hP hD
          have q_35 : r2 = (rk_rule hh 2 r2 1 v) := by simp [rm_rule, rk_rule, gd_P, c_6, h_32, c_88, n_88]
          obtain ⟨hP, hD⟩ := cs_W (fun z_z => [ob_J y 6 [.int 0, .int (nI hh), .int (rk_rule hh 0 r0 1 v), .int (rk_rule hh 1 r1 1 v), .int z_z, .int r3, .ref mb, .int given, .int mrew, .int (nI sz), .ref mk, .ref mc, .ref ms, .ref md, .ref mf, .ref mst, .ref mth, .ref mdr, .ref mw, .ref msh, .ref mpo, .ref mpa, .ref mde, .ref mj]]) q_35 hP hD
          have q_36 : r3 = (rk_rule hh 3 r3 1 v) := by simp [rm_rule, rk_rule, gd_P, c_6, h_32, c_88, n_88]
          obtain ⟨hP, hD⟩ := cs_W (fun z_z => [ob_J y 6 [.int 0, .int (nI hh), .int (rk_rule hh 0 r0 1 v), .int (rk_rule hh 1 r1 1 v), .int (rk_rule hh 2 r2 1 v), .int z_z, .ref mb, .int given, .int mrew, .int (nI sz), .ref mk, .ref mc, .ref ms, .ref md, .ref mf, .ref mst, .ref mth, .ref mdr, .ref mw, .ref msh, .ref mpo, .ref mpa, .ref mde, .ref mj]]) q_36 hP hD
          exact re_I (w1 := fun u_u : Unit => [ob_J y 6 [.int 0, .int (nI hh), .int (rk_rule hh 0 r0 1 v), .int (rk_rule hh 1 r1 1 v), .int (rk_rule hh 2 r2 1 v), .int (rk_rule hh 3 r3 1 v), .ref mb, .int given, .int mrew, .int (nI sz), .ref mk, .ref mc, .ref ms, .ref md, .ref mf, .ref mst, .ref mth, .ref mdr, .ref mw, .ref msh, .ref mpo, .ref mpa, .ref mde, .ref mj]]) (v := (-4)) hx hb hr hlk hK hS rfl () hP hD (show (-4) = rm_rule hh r0 r1 r2 r3 1 v from by simp [rm_rule, rk_rule, gd_P, c_6, h_32, c_88, n_88]) dX6_rule_93
      · rw [if_neg h_32] at w_32; subst w_32
        refine lv_goto (tgt := 77) hx hb dX6_rule_35 (by decide) ?_
        refine lv_istore_n (lv' := [(3, .int 0), (0, .ref y), (1, .int 1), (2, .int v)]) hx hb dX6_rule_77 rfl hl (by decide) rfl (fun ls hl => ?_)
        refine lv_iload_n hx hb dX6_rule_78 rfl (lv_at hl 0 rfl) ?_
        refine lv_if_ne (tgt := 84) hx hb dX6_rule_79 (by decide) (fun h9 => absurd (by decide) h9) (fun _ => ?_)
        refine lv_iconst (v := (-1)) hx hb dX6_rule_82 (by decide) ?_
        have q_37 : r0 = (rk_rule hh 0 r0 1 v) := by simp [rm_rule, rk_rule, gd_P, c_6, h_32]
        obtain ⟨hP, hD⟩ := cs_W (fun z_z => [ob_J y 6 [.int 0, .int (nI hh), .int z_z, .int r1, .int r2, .int r3, .ref mb, .int given, .int mrew, .int (nI sz), .ref mk, .ref mc, .ref ms, .ref md, .ref mf, .ref mst, .ref mth, .ref mdr, .ref mw, .ref msh, .ref mpo, .ref mpa, .ref mde, .ref mj]]) q_37 hP hD
        have q_38 : r1 = (rk_rule hh 1 r1 1 v) := by simp [rm_rule, rk_rule, gd_P, c_6, h_32]
        obtain ⟨hP, hD⟩ := cs_W (fun z_z => [ob_J y 6 [.int 0, .int (nI hh), .int (rk_rule hh 0 r0 1 v), .int z_z, .int r2, .int r3, .ref mb, .int given, .int mrew, .int (nI sz), .ref mk, .ref mc, .ref ms, .ref md, .ref mf, .ref mst, .ref mth, .ref mdr, .ref mw, .ref msh, .ref mpo, .ref mpa, .ref mde, .ref mj]]) q_38 hP hD
        have q_39 : r2 = (rk_rule hh 2 r2 1 v) := by simp [rm_rule, rk_rule, gd_P, c_6, h_32]
        obtain ⟨hP, hD⟩ := cs_W (fun z_z => [ob_J y 6 [.int 0, .int (nI hh), .int (rk_rule hh 0 r0 1 v), .int (rk_rule hh 1 r1 1 v), .int z_z, .int r3, .ref mb, .int given, .int mrew, .int (nI sz), .ref mk, .ref mc, .ref ms, .ref md, .ref mf, .ref mst, .ref mth, .ref mdr, .ref mw, .ref msh, .ref mpo, .ref mpa, .ref mde, .ref mj]]) q_39 hP hD
        have q_40 : r3 = (rk_rule hh 3 r3 1 v) := by simp [rm_rule, rk_rule, gd_P, c_6, h_32]
        obtain ⟨hP, hD⟩ := cs_W (fun z_z => [ob_J y 6 [.int 0, .int (nI hh), .int (rk_rule hh 0 r0 1 v), .int (rk_rule hh 1 r1 1 v), .int (rk_rule hh 2 r2 1 v), .int z_z, .ref mb, .int given, .int mrew, .int (nI sz), .ref mk, .ref mc, .ref ms, .ref md, .ref mf, .ref mst, .ref mth, .ref mdr, .ref mw, .ref msh, .ref mpo, .ref mpa, .ref mde, .ref mj]]) q_40 hP hD
        exact re_I (w1 := fun u_u : Unit => [ob_J y 6 [.int 0, .int (nI hh), .int (rk_rule hh 0 r0 1 v), .int (rk_rule hh 1 r1 1 v), .int (rk_rule hh 2 r2 1 v), .int (rk_rule hh 3 r3 1 v), .ref mb, .int given, .int mrew, .int (nI sz), .ref mk, .ref mc, .ref ms, .ref md, .ref mf, .ref mst, .ref mth, .ref mdr, .ref mw, .ref msh, .ref mpo, .ref mpa, .ref mde, .ref mj]]) (v := (-1)) hx hb hr hlk hK hS rfl () hP hD (show (-1) = rm_rule hh r0 r1 r2 r3 1 v from by simp [rm_rule, rk_rule, gd_P, c_6, h_32]) dX6_rule_83
  · subst c_6
    refine lv_iload_n hx hb dX6_rule_9 rfl (lv_at hl 2 rfl) ?_
    refine lv_i2l (v := v.toInt64) hx hb dX6_rule_10 (rfl) ?_
    refine lv_lconst (v := (Int32.toInt64 1)) hx hb dX6_rule_11 (by decide) ?_
    refine lv_ldc2 hx hb hown (hts _ bw_482) dX6_rule_12 ?_
    refine tp_l (x' := (Int32.toInt64 9)) (by decide) ?_
    refine ca_SI (rest := []) (k_X6_in l D cI cJ cZ v 1 9 ) hx hb hml hown hts hN hK hA hP hD hS bw_483 bw_484 bw_7 bw_485 3 rfl (by decide +kernel) ⟨by decide, by decide⟩ hl.1 rfl (Nat.le_of_ble_eq_true rfl) dX6_rule_15 ⟨Nat.zero_le _, Nat.zero_le _⟩ (fun r_15 u_u H locs w_15 hP hD hS => ?_)
    have w_15 : r_15 = if 1 ≤ v ∧ v ≤ 9 then 1 else 0 := w_15
    by_cases h_15 : 1 ≤ v ∧ v ≤ 9
    · rw [if_pos h_15] at w_15; subst w_15
      refine lv_goto (tgt := 77) hx hb dX6_rule_18 (by decide) ?_
      refine lv_istore_n (lv' := [(3, .int 1), (0, .ref y), (1, .int 0), (2, .int v)]) hx hb dX6_rule_77 rfl hl (by decide) rfl (fun ls hl => ?_)
      refine lv_iload_n hx hb dX6_rule_78 rfl (lv_at hl 0 rfl) ?_
      refine lv_if_ne (tgt := 84) hx hb dX6_rule_79 (by decide) (fun _ => ?_) (fun h9 => absurd h9 (by decide))
      refine lv_aload_n hx hb dX6_rule_84 rfl (lv_at hl 1 rfl) ?_
      refine va_get (ci := 6) (v := .int (nI hh)) (C := RX6) (T := TX6) (N := 24) hx hb hts bi_6 hown hK hP 0 rfl rfl 1 (by decide) (hts _ bw_406) (fun _ h9 => h9) rfl dX6_rule_85 ?_
      refine lv_if_le (tgt := 94) hx hb dX6_rule_88 (by decide) (fun c_88 => ?_) (fun c_88 => ?_)
      · have c_88 := qq_le (a := hh) (b := 0) c_88 (by omega) (by omega)
        have c_88 : hh = 0 := by omega
        refine lv_iload_n hx hb dX6_rule_94 rfl (lv_at hl 2 rfl) ?_
        refine lv_if_ne (tgt := 105) hx hb dX6_rule_95 (by decide) (fun h9 => absurd (by decide) h9) (fun _ => ?_)
        refine lv_aload_n hx hb dX6_rule_98 rfl (lv_at hl 1 rfl) ?_
        refine va_get (ci := 6) (v := .int r0) (C := RX6) (T := TX6) (N := 24) hx hb hts bi_6 hown hK hP 0 rfl rfl 2 (by decide) (hts _ bw_407) (fun _ h9 => h9) rfl dX6_rule_99 ?_
        refine lv_goto (tgt := 133) hx hb dX6_rule_102 (by decide) ?_
        refine lv_istore (lv' := [(4, .int r0), (3, .int 1), (0, .ref y), (1, .int 0), (2, .int v)]) hx hb dX6_rule_133 hl (by decide) rfl (fun ls hl => ?_)
        refine lv_aload_n hx hb dX6_rule_135 rfl (lv_at hl 2 rfl) ?_
        refine lv_iload_n hx hb dX6_rule_136 rfl (lv_at hl 3 rfl) ?_
        refine lv_if_ne (tgt := 144) hx hb dX6_rule_137 (by decide) (fun h9 => absurd (by decide) h9) (fun _ => ?_)
        refine lv_iload_n hx hb dX6_rule_140 rfl (lv_at hl 4 rfl) ?_
        refine lv_goto (tgt := 148) hx hb dX6_rule_141 (by decide) ?_
        refine va_put (ci := 6) (v := .int v) (ty := .int) (C := RX6) (T := TX6) (N := 24) hx hb hts bi_6 tyX6 tyX6_ok nmX6 hown hK hP hD hS 0 rfl rfl 2 (by decide) (hts _ bw_407) (fun _ h9 => h9) rfl (by decide +kernel) rfl rfl (Nat.le_of_ble_eq_true rfl) dX6_rule_148 (fun H locs hP hD hS => ?_)
        have hP : va_P D cl_A [ob_J y 6 [.int 0, .int (nI hh), .int v, .int r1, .int r2, .int r3, .ref mb, .int given, .int mrew, .int (nI sz), .ref mk, .ref mc, .ref ms, .ref md, .ref mf, .ref mst, .ref mth, .ref mdr, .ref mw, .ref msh, .ref mpo, .ref mpa, .ref mde, .ref mj]] H := hP
        have hD : va_D A [ob_J y 6 [.int 0, .int (nI hh), .int v, .int r1, .int r2, .int r3, .ref mb, .int given, .int mrew, .int (nI sz), .ref mk, .ref mc, .ref ms, .ref md, .ref mf, .ref mst, .ref mth, .ref mdr, .ref mw, .ref msh, .ref mpo, .ref mpa, .ref mde, .ref mj]] := hD
        refine lv_aload_n hx hb dX6_rule_151 rfl (lv_at hl 2 rfl) ?_
        refine lv_iload_n hx hb dX6_rule_152 rfl (lv_at hl 3 rfl) ?_
        refine lv_iconst (v := 1) hx hb dX6_rule_153 (by decide) ?_
        refine lv_icmp_ne (tgt := 161) hx hb dX6_rule_154 (by decide) (fun _ => ?_) (fun h9 => absurd h9 (by decide))
        refine lv_aload_n hx hb dX6_rule_161 rfl (lv_at hl 2 rfl) ?_
        refine va_get (ci := 6) (v := .int r1) (C := RX6) (T := TX6) (N := 24) hx hb hts bi_6 hown hK hP 0 rfl rfl 3 (by decide) (hts _ bw_408) (fun _ h9 => h9) rfl dX6_rule_162 ?_
        refine va_put (ci := 6) (v := .int r1) (ty := .int) (C := RX6) (T := TX6) (N := 24) hx hb hts bi_6 tyX6 tyX6_ok nmX6 hown hK hP hD hS 0 rfl rfl 3 (by decide) (hts _ bw_408) (fun _ h9 => h9) rfl (by decide +kernel) rfl rfl (Nat.le_of_ble_eq_true rfl) dX6_rule_165 (fun H locs hP hD hS => ?_)
        have hP : va_P D cl_A [ob_J y 6 [.int 0, .int (nI hh), .int v, .int r1, .int r2, .int r3, .ref mb, .int given, .int mrew, .int (nI sz), .ref mk, .ref mc, .ref ms, .ref md, .ref mf, .ref mst, .ref mth, .ref mdr, .ref mw, .ref msh, .ref mpo, .ref mpa, .ref mde, .ref mj]] H := hP
        have hD : va_D A [ob_J y 6 [.int 0, .int (nI hh), .int v, .int r1, .int r2, .int r3, .ref mb, .int given, .int mrew, .int (nI sz), .ref mk, .ref mc, .ref ms, .ref md, .ref mf, .ref mst, .ref mth, .ref mdr, .ref mw, .ref msh, .ref mpo, .ref mpa, .ref mde, .ref mj]] := hD
        refine lv_aload_n hx hb dX6_rule_168 rfl (lv_at hl 2 rfl) ?_
        refine lv_iload_n hx hb dX6_rule_169 rfl (lv_at hl 3 rfl) ?_
        refine lv_iconst (v := 2) hx hb dX6_rule_170 (by decide) ?_
        refine lv_icmp_ne (tgt := 178) hx hb dX6_rule_171 (by decide) (fun _ => ?_) (fun h9 => absurd h9 (by decide))
        refine lv_aload_n hx hb dX6_rule_178 rfl (lv_at hl 2 rfl) ?_
        refine va_get (ci := 6) (v := .int r2) (C := RX6) (T := TX6) (N := 24) hx hb hts bi_6 hown hK hP 0 rfl rfl 4 (by decide) (hts _ bw_409) (fun _ h9 => h9) rfl dX6_rule_179 ?_
        refine va_put (ci := 6) (v := .int r2) (ty := .int) (C := RX6) (T := TX6) (N := 24) hx hb hts bi_6 tyX6 tyX6_ok nmX6 hown hK hP hD hS 0 rfl rfl 4 (by decide) (hts _ bw_409) (fun _ h9 => h9) rfl (by decide +kernel) rfl rfl (Nat.le_of_ble_eq_true rfl) dX6_rule_182 (fun H locs hP hD hS => ?_)
        have hP : va_P D cl_A [ob_J y 6 [.int 0, .int (nI hh), .int v, .int r1, .int r2, .int r3, .ref mb, .int given, .int mrew, .int (nI sz), .ref mk, .ref mc, .ref ms, .ref md, .ref mf, .ref mst, .ref mth, .ref mdr, .ref mw, .ref msh, .ref mpo, .ref mpa, .ref mde, .ref mj]] H := hP
        have hD : va_D A [ob_J y 6 [.int 0, .int (nI hh), .int v, .int r1, .int r2, .int r3, .ref mb, .int given, .int mrew, .int (nI sz), .ref mk, .ref mc, .ref ms, .ref md, .ref mf, .ref mst, .ref mth, .ref mdr, .ref mw, .ref msh, .ref mpo, .ref mpa, .ref mde, .ref mj]] := hD
        refine lv_aload_n hx hb dX6_rule_185 rfl (lv_at hl 2 rfl) ?_
        refine lv_iload_n hx hb dX6_rule_186 rfl (lv_at hl 3 rfl) ?_
        refine lv_iconst (v := 3) hx hb dX6_rule_187 (by decide) ?_
        refine lv_icmp_ne (tgt := 195) hx hb dX6_rule_188 (by decide) (fun _ => ?_) (fun h9 => absurd h9 (by decide))
        refine lv_aload_n hx hb dX6_rule_195 rfl (lv_at hl 2 rfl) ?_
        refine va_get (ci := 6) (v := .int r3) (C := RX6) (T := TX6) (N := 24) hx hb hts bi_6 hown hK hP 0 rfl rfl 5 (by decide) (hts _ bw_410) (fun _ h9 => h9) rfl dX6_rule_196 ?_
        refine va_put (ci := 6) (v := .int r3) (ty := .int) (C := RX6) (T := TX6) (N := 24) hx hb hts bi_6 tyX6 tyX6_ok nmX6 hown hK hP hD hS 0 rfl rfl 5 (by decide) (hts _ bw_410) (fun _ h9 => h9) rfl (by decide +kernel) rfl rfl (Nat.le_of_ble_eq_true rfl) dX6_rule_199 (fun H locs hP hD hS => ?_)
        have hP : va_P D cl_A [ob_J y 6 [.int 0, .int (nI hh), .int v, .int r1, .int r2, .int r3, .ref mb, .int given, .int mrew, .int (nI sz), .ref mk, .ref mc, .ref ms, .ref md, .ref mf, .ref mst, .ref mth, .ref mdr, .ref mw, .ref msh, .ref mpo, .ref mpa, .ref mde, .ref mj]] H := hP
        have hD : va_D A [ob_J y 6 [.int 0, .int (nI hh), .int v, .int r1, .int r2, .int r3, .ref mb, .int given, .int mrew, .int (nI sz), .ref mk, .ref mc, .ref ms, .ref md, .ref mf, .ref mst, .ref mth, .ref mdr, .ref mw, .ref msh, .ref mpo, .ref mpa, .ref mde, .ref mj]] := hD
        refine lv_iload hx hb dX6_rule_202 (lv_at hl 0 rfl) ?_
        have q_41 : v = (rk_rule hh 0 r0 0 v) := by simp [rm_rule, rk_rule, gd_P, h_15, c_88]
        obtain ⟨hP, hD⟩ := cs_W (fun z_z => [ob_J y 6 [.int 0, .int (nI hh), .int z_z, .int r1, .int r2, .int r3, .ref mb, .int given, .int mrew, .int (nI sz), .ref mk, .ref mc, .ref ms, .ref md, .ref mf, .ref mst, .ref mth, .ref mdr, .ref mw, .ref msh, .ref mpo, .ref mpa, .ref mde, .ref mj]]) q_41 hP hD
        have q_42 : r1 = (rk_rule hh 1 r1 0 v) := by simp [rm_rule, rk_rule, gd_P, h_15, c_88]
        obtain ⟨hP, hD⟩ := cs_W (fun z_z => [ob_J y 6 [.int 0, .int (nI hh), .int (rk_rule hh 0 r0 0 v), .int z_z, .int r2, .int r3, .ref mb, .int given, .int mrew, .int (nI sz), .ref mk, .ref mc, .ref ms, .ref md, .ref mf, .ref mst, .ref mth, .ref mdr, .ref mw, .ref msh, .ref mpo, .ref mpa, .ref mde, .ref mj]]) q_42 hP hD
        have q_43 : r2 = (rk_rule hh 2 r2 0 v) := by simp [rm_rule, rk_rule, gd_P, h_15, c_88]
        obtain ⟨hP, hD⟩ := cs_W (fun z_z => [ob_J y 6 [.int 0, .int (nI hh), .int (rk_rule hh 0 r0 0 v), .int (rk_rule hh 1 r1 0 v), .int z_z, .int r3, .ref mb, .int given, .int mrew, .int (nI sz), .ref mk, .ref mc, .ref ms, .ref md, .ref mf, .ref mst, .ref mth, .ref mdr, .ref mw, .ref msh, .ref mpo, .ref mpa, .ref mde, .ref mj]]) q_43 hP hD
        have q_44 : r3 = (rk_rule hh 3 r3 0 v) := by simp [rm_rule, rk_rule, gd_P, h_15, c_88]
        obtain ⟨hP, hD⟩ := cs_W (fun z_z => [ob_J y 6 [.int 0, .int (nI hh), .int (rk_rule hh 0 r0 0 v), .int (rk_rule hh 1 r1 0 v), .int (rk_rule hh 2 r2 0 v), .int z_z, .ref mb, .int given, .int mrew, .int (nI sz), .ref mk, .ref mc, .ref ms, .ref md, .ref mf, .ref mst, .ref mth, .ref mdr, .ref mw, .ref msh, .ref mpo, .ref mpa, .ref mde, .ref mj]]) q_44 hP hD
        exact re_I (w1 := fun u_u : Unit => [ob_J y 6 [.int 0, .int (nI hh), .int (rk_rule hh 0 r0 0 v), .int (rk_rule hh 1 r1 0 v), .int (rk_rule hh 2 r2 0 v), .int (rk_rule hh 3 r3 0 v), .ref mb, .int given, .int mrew, .int (nI sz), .ref mk, .ref mc, .ref ms, .ref md, .ref mf, .ref mst, .ref mth, .ref mdr, .ref mw, .ref msh, .ref mpo, .ref mpa, .ref mde, .ref mj]]) (v := r0) hx hb hr hlk hK hS rfl () hP hD (show r0 = rm_rule hh r0 r1 r2 r3 0 v from by simp [rm_rule, rk_rule, gd_P, h_15, c_88]) dX6_rule_204
      · have c_88 := qq_nle (a := hh) (b := 0) c_88 (by omega) (by omega)
        have n_88 : ¬ hh = 0 := by omega
        refine lv_bipush (v := (-4)) hx hb dX6_rule_91 (by decide) ?_
        have q_45 : r0 = (rk_rule hh 0 r0 0 v) := by simp [rm_rule, rk_rule, gd_P, h_15, c_88, n_88]
        obtain ⟨hP, hD⟩ := cs_W (fun z_z => [ob_J y 6 [.int 0, .int (nI hh), .int z_z, .int r1, .int r2, .int r3, .ref mb, .int given, .int mrew, .int (nI sz), .ref mk, .ref mc, .ref ms, .ref md, .ref mf, .ref mst, .ref mth, .ref mdr, .ref mw, .ref msh, .ref mpo, .ref mpa, .ref mde, .ref mj]]) q_45 hP hD
        have q_46 : r1 = (rk_rule hh 1 r1 0 v) := by simp [rm_rule, rk_rule, gd_P, h_15, c_88, n_88]
        obtain ⟨hP, hD⟩ := cs_W (fun z_z => [ob_J y 6 [.int 0, .int (nI hh), .int (rk_rule hh 0 r0 0 v), .int z_z, .int r2, .int r3, .ref mb, .int given, .int mrew, .int (nI sz), .ref mk, .ref mc, .ref ms, .ref md, .ref mf, .ref mst, .ref mth, .ref mdr, .ref mw, .ref msh, .ref mpo, .ref mpa, .ref mde, .ref mj]]) q_46 hP hD
        have q_47 : r2 = (rk_rule hh 2 r2 0 v) := by simp [rm_rule, rk_rule, gd_P, h_15, c_88, n_88]
        obtain ⟨hP, hD⟩ := cs_W (fun z_z => [ob_J y 6 [.int 0, .int (nI hh), .int (rk_rule hh 0 r0 0 v), .int (rk_rule hh 1 r1 0 v), .int z_z, .int r3, .ref mb, .int given, .int mrew, .int (nI sz), .ref mk, .ref mc, .ref ms, .ref md, .ref mf, .ref mst, .ref mth, .ref mdr, .ref mw, .ref msh, .ref mpo, .ref mpa, .ref mde, .ref mj]]) q_47 hP hD
        have q_48 : r3 = (rk_rule hh 3 r3 0 v) := by simp [rm_rule, rk_rule, gd_P, h_15, c_88, n_88]
        obtain ⟨hP, hD⟩ := cs_W (fun z_z => [ob_J y 6 [.int 0, .int (nI hh), .int (rk_rule hh 0 r0 0 v), .int (rk_rule hh 1 r1 0 v), .int (rk_rule hh 2 r2 0 v), .int z_z, .ref mb, .int given, .int mrew, .int (nI sz), .ref mk, .ref mc, .ref ms, .ref md, .ref mf, .ref mst, .ref mth, .ref mdr, .ref mw, .ref msh, .ref mpo, .ref mpa, .ref mde, .ref mj]]) q_48 hP hD
        exact re_I (w1 := fun u_u : Unit => [ob_J y 6 [.int 0, .int (nI hh), .int (rk_rule hh 0 r0 0 v), .int (rk_rule hh 1 r1 0 v), .int (rk_rule hh 2 r2 0 v), .int (rk_rule hh 3 r3 0 v), .ref mb, .int given, .int mrew, .int (nI sz), .ref mk, .ref mc, .ref ms, .ref md, .ref mf, .ref mst, .ref mth, .ref mdr, .ref mw, .ref msh, .ref mpo, .ref mpa, .ref mde, .ref mj]]) (v := (-4)) hx hb hr hlk hK hS rfl () hP hD (show (-4) = rm_rule hh r0 r1 r2 r3 0 v from by simp [rm_rule, rk_rule, gd_P, h_15, c_88, n_88]) dX6_rule_93
    · rw [if_neg h_15] at w_15; subst w_15
      refine lv_goto (tgt := 77) hx hb dX6_rule_18 (by decide) ?_
      refine lv_istore_n (lv' := [(3, .int 0), (0, .ref y), (1, .int 0), (2, .int v)]) hx hb dX6_rule_77 rfl hl (by decide) rfl (fun ls hl => ?_)
      refine lv_iload_n hx hb dX6_rule_78 rfl (lv_at hl 0 rfl) ?_
      refine lv_if_ne (tgt := 84) hx hb dX6_rule_79 (by decide) (fun h9 => absurd (by decide) h9) (fun _ => ?_)
      refine lv_iconst (v := (-1)) hx hb dX6_rule_82 (by decide) ?_
      have q_49 : r0 = (rk_rule hh 0 r0 0 v) := by simp [rm_rule, rk_rule, gd_P, h_15]
      obtain ⟨hP, hD⟩ := cs_W (fun z_z => [ob_J y 6 [.int 0, .int (nI hh), .int z_z, .int r1, .int r2, .int r3, .ref mb, .int given, .int mrew, .int (nI sz), .ref mk, .ref mc, .ref ms, .ref md, .ref mf, .ref mst, .ref mth, .ref mdr, .ref mw, .ref msh, .ref mpo, .ref mpa, .ref mde, .ref mj]]) q_49 hP hD
      have q_50 : r1 = (rk_rule hh 1 r1 0 v) := by simp [rm_rule, rk_rule, gd_P, h_15]
      obtain ⟨hP, hD⟩ := cs_W (fun z_z => [ob_J y 6 [.int 0, .int (nI hh), .int (rk_rule hh 0 r0 0 v), .int z_z, .int r2, .int r3, .ref mb, .int given, .int mrew, .int (nI sz), .ref mk, .ref mc, .ref ms, .ref md, .ref mf, .ref mst, .ref mth, .ref mdr, .ref mw, .ref msh, .ref mpo, .ref mpa, .ref mde, .ref mj]]) q_50 hP hD
      have q_51 : r2 = (rk_rule hh 2 r2 0 v) := by simp [rm_rule, rk_rule, gd_P, h_15]
      obtain ⟨hP, hD⟩ := cs_W (fun z_z => [ob_J y 6 [.int 0, .int (nI hh), .int (rk_rule hh 0 r0 0 v), .int (rk_rule hh 1 r1 0 v), .int z_z, .int r3, .ref mb, .int given, .int mrew, .int (nI sz), .ref mk, .ref mc, .ref ms, .ref md, .ref mf, .ref mst, .ref mth, .ref mdr, .ref mw, .ref msh, .ref mpo, .ref mpa, .ref mde, .ref mj]]) q_51 hP hD
      have q_52 : r3 = (rk_rule hh 3 r3 0 v) := by simp [rm_rule, rk_rule, gd_P, h_15]
      obtain ⟨hP, hD⟩ := cs_W (fun z_z => [ob_J y 6 [.int 0, .int (nI hh), .int (rk_rule hh 0 r0 0 v), .int (rk_rule hh 1 r1 0 v), .int (rk_rule hh 2 r2 0 v), .int z_z, .ref mb, .int given, .int mrew, .int (nI sz), .ref mk, .ref mc, .ref ms, .ref md, .ref mf, .ref mst, .ref mth, .ref mdr, .ref mw, .ref msh, .ref mpo, .ref mpa, .ref mde, .ref mj]]) q_52 hP hD
      exact re_I (w1 := fun u_u : Unit => [ob_J y 6 [.int 0, .int (nI hh), .int (rk_rule hh 0 r0 0 v), .int (rk_rule hh 1 r1 0 v), .int (rk_rule hh 2 r2 0 v), .int (rk_rule hh 3 r3 0 v), .ref mb, .int given, .int mrew, .int (nI sz), .ref mk, .ref mc, .ref ms, .ref md, .ref mf, .ref mst, .ref mth, .ref mdr, .ref mw, .ref msh, .ref mpo, .ref mpa, .ref mde, .ref mj]]) (v := (-1)) hx hb hr hlk hK hS rfl () hP hD (show (-1) = rm_rule hh r0 r1 r2 r3 0 v from by simp [rm_rule, rk_rule, gd_P, h_15]) dX6_rule_83

set_option maxHeartbeats 4000000 in
set_option maxRecDepth 100000 in
theorem k_X6_fund (l : Launch) (D : va_G) (cI cJ cZ : ClassId) (y : Nat) (mb : Nat) (th : Int32) (hh : Nat) (r0 : Int32) (r1 : Int32) (r2 : Int32) (r3 : Int32) (given : Int32) (mrew : Int32) (sz : Nat) (mk : Nat) (mc : Nat) (ms : Nat) (md : Nat) (mf : Nat) (mst : Nat) (mth : Nat) (mdr : Nat) (mw : Nat) (msh : Nat) (mpo : Nat) (mpa : Nat) (mde : Nat) (mj : Nat) (fbal : Nat → Int32) (a : Int32) (v : Int32)  : mt_I l yX6_fund cX6_fund 3 .int 2 45 D cI cJ cZ [ob_J y 6 [.int th, .int (nI hh), .int r0, .int r1, .int r2, .int r3, .ref mb, .int given, .int mrew, .int (nI sz), .ref mk, .ref mc, .ref ms, .ref md, .ref mf, .ref mst, .ref mth, .ref mdr, .ref mw, .ref msh, .ref mpo, .ref mpa, .ref mde, .ref mj], ar_I mb cI 10 fbal] [.ref y, .int a, .int v] (fun r (u_u : Unit) => r = rr_fund given fbal a v) (fun u_u : Unit => [ob_J y 6 [.int 0, .int (nI hh), .int r0, .int r1, .int r2, .int r3, .ref mb, .int (fd_fund given a v), .int mrew, .int (nI sz), .ref mk, .ref mc, .ref ms, .ref md, .ref mf, .ref mst, .ref mth, .ref mdr, .ref mw, .ref msh, .ref mpo, .ref mpa, .ref mde, .ref mj], ar_I mb cI 10 (ba_fund given fbal a v)]) := by
  refine en_I (by decide) (Nat.le_of_ble_eq_true rfl) ?_
  intro p e s m below meth c A ls H locs hx hb hr hml hts hown hlk hN hK hA hP hD hS hl
  have hown : s.vm.findClass RX6 = some m.cls := hown
  have hl : lv_has ls 3 [(0, .ref y), (1, .int a), (2, .int v)] := hl
  refine lv_aload_n hx hb dX6_fund_0 rfl (lv_at hl 0 rfl) ?_
  refine lv_iconst (v := 0) hx hb dX6_fund_1 (by decide) ?_
  refine va_put (ci := 6) (v := .int 0) (ty := .int) (C := RX6) (T := TX6) (N := 24) hx hb hts bi_6 tyX6 tyX6_ok nmX6 hown hK hP hD hS 0 rfl rfl 0 (by decide) (hts _ bw_405) (fun _ h9 => h9) rfl (by decide +kernel) rfl rfl (Nat.le_of_ble_eq_true rfl) dX6_fund_2 (fun H locs hP hD hS => ?_)
  have hP : va_P D cl_A [ob_J y 6 [.int 0, .int (nI hh), .int r0, .int r1, .int r2, .int r3, .ref mb, .int given, .int mrew, .int (nI sz), .ref mk, .ref mc, .ref ms, .ref md, .ref mf, .ref mst, .ref mth, .ref mdr, .ref mw, .ref msh, .ref mpo, .ref mpa, .ref mde, .ref mj], ar_I mb cI 10 fbal] H := hP
  have hD : va_D A [ob_J y 6 [.int 0, .int (nI hh), .int r0, .int r1, .int r2, .int r3, .ref mb, .int given, .int mrew, .int (nI sz), .ref mk, .ref mc, .ref ms, .ref md, .ref mf, .ref mst, .ref mth, .ref mdr, .ref mw, .ref msh, .ref mpo, .ref mpa, .ref mde, .ref mj], ar_I mb cI 10 fbal] := hD
  refine lv_iload_n hx hb dX6_fund_5 rfl (lv_at hl 1 rfl) ?_
  refine ca_SI (rest := []) (k_X6_noAccount l D cI cJ cZ a ) hx hb hml hown hts hN hK hA hP hD hS bw_493 bw_494 bw_7 bw_495 1 rfl (by decide +kernel) ⟨by decide, by decide⟩ hl.1 rfl (Nat.le_of_ble_eq_true rfl) dX6_fund_6 ⟨Nat.zero_le _, Nat.zero_le _⟩ (fun r_6 u_u H locs w_6 hP hD hS => ?_)
  have w_6 : r_6 = if ¬ (0 ≤ a ∧ a ≤ 9) then 1 else 0 := w_6
  by_cases h_6 : ¬ (0 ≤ a ∧ a ≤ 9)
  · rw [if_pos h_6] at w_6; subst w_6
    refine lv_if_ne (tgt := 24) hx hb dX6_fund_9 (by decide) (fun _ => ?_) (fun h9 => absurd h9 (by decide))
    refine lv_iconst (v := (-1)) hx hb dX6_fund_24 (by decide) ?_
    have q_1 : given = (fd_fund given a v) := by simp [rr_fund, fd_fund, ba_fund, fu_P, up_i, h_6]
    obtain ⟨hP, hD⟩ := cs_W (fun z_z => [ob_J y 6 [.int 0, .int (nI hh), .int r0, .int r1, .int r2, .int r3, .ref mb, .int z_z, .int mrew, .int (nI sz), .ref mk, .ref mc, .ref ms, .ref md, .ref mf, .ref mst, .ref mth, .ref mdr, .ref mw, .ref msh, .ref mpo, .ref mpa, .ref mde, .ref mj], ar_I mb cI 10 fbal]) q_1 hP hD
    have q_2 : fbal = (ba_fund given fbal a v) := by simp [rr_fund, fd_fund, ba_fund, fu_P, up_i, h_6]
    obtain ⟨hP, hD⟩ := cs_W (fun z_z => [ob_J y 6 [.int 0, .int (nI hh), .int r0, .int r1, .int r2, .int r3, .ref mb, .int (fd_fund given a v), .int mrew, .int (nI sz), .ref mk, .ref mc, .ref ms, .ref md, .ref mf, .ref mst, .ref mth, .ref mdr, .ref mw, .ref msh, .ref mpo, .ref mpa, .ref mde, .ref mj], ar_I mb cI 10 z_z]) q_2 hP hD
    exact re_I (w1 := fun u_u : Unit => [ob_J y 6 [.int 0, .int (nI hh), .int r0, .int r1, .int r2, .int r3, .ref mb, .int (fd_fund given a v), .int mrew, .int (nI sz), .ref mk, .ref mc, .ref ms, .ref md, .ref mf, .ref mst, .ref mth, .ref mdr, .ref mw, .ref msh, .ref mpo, .ref mpa, .ref mde, .ref mj], ar_I mb cI 10 (ba_fund given fbal a v)]) (v := (-1)) hx hb hr hlk hK hS rfl () hP hD (show (-1) = rr_fund given fbal a v from by simp [rr_fund, fd_fund, ba_fund, fu_P, up_i, h_6]) dX6_fund_25
  · rw [if_neg h_6] at w_6; subst w_6
    have h_6 := Decidable.not_not.mp h_6
    obtain ⟨ia, h_ia, rfl⟩ : ∃ z : Nat, z < 10 ∧ a = nI z := ix_le (by decide) h_6
    have t_ia := tn_nI (n := ia) (by omega)
    refine lv_if_ne (tgt := 24) hx hb dX6_fund_9 (by decide) (fun h9 => absurd (by decide) h9) (fun _ => ?_)
    refine lv_iload_n hx hb dX6_fund_12 rfl (lv_at hl 2 rfl) ?_
    refine lv_i2l (v := v.toInt64) hx hb dX6_fund_13 (rfl) ?_
    refine lv_lconst (v := (Int32.toInt64 1)) hx hb dX6_fund_14 (by decide) ?_
    refine lv_ldc2 hx hb hown (hts _ bw_496) dX6_fund_15 ?_
    refine tp_l (x' := (Int32.toInt64 100000)) (by decide) ?_
    refine ca_SI (rest := []) (k_X6_in l D cI cJ cZ v 1 100000 ) hx hb hml hown hts hN hK hA hP hD hS bw_483 bw_484 bw_7 bw_485 3 rfl (by decide +kernel) ⟨by decide, by decide⟩ hl.1 rfl (Nat.le_of_ble_eq_true rfl) dX6_fund_18 ⟨Nat.zero_le _, Nat.zero_le _⟩ (fun r_18 u_u H locs w_18 hP hD hS => ?_)
    have w_18 : r_18 = if 1 ≤ v ∧ v ≤ 100000 then 1 else 0 := w_18
    by_cases h_18 : 1 ≤ v ∧ v ≤ 100000
    · rw [if_pos h_18] at w_18; subst w_18
      refine lv_if_ne (tgt := 26) hx hb dX6_fund_21 (by decide) (fun _ => ?_) (fun h9 => absurd h9 (by decide))
      refine lv_aload_n hx hb dX6_fund_26 rfl (lv_at hl 0 rfl) ?_
      refine va_get (ci := 6) (v := .int given) (C := RX6) (T := TX6) (N := 24) hx hb hts bi_6 hown hK hP 0 rfl rfl 7 (by decide) (hts _ bw_412) (fun _ h9 => h9) rfl dX6_fund_27 ?_
      refine lv_iload_n hx hb dX6_fund_30 rfl (lv_at hl 2 rfl) ?_
      refine lv_iadd hx hb dX6_fund_31 ?_
      refine lv_ldc (v := 1000000) hx hb hown (hts _ bw_404) dX6_fund_32 ?_
      refine lv_icmp_le (tgt := 40) hx hb dX6_fund_34 (by decide) (fun c_34 => ?_) (fun c_34 => ?_)
      · refine lv_aload_n hx hb dX6_fund_40 rfl (lv_at hl 0 rfl) ?_
        refine lv_aload_n hx hb dX6_fund_41 rfl (lv_at hl 0 rfl) ?_
        refine va_get (ci := 6) (v := .int given) (C := RX6) (T := TX6) (N := 24) hx hb hts bi_6 hown hK hP 0 rfl rfl 7 (by decide) (hts _ bw_412) (fun _ h9 => h9) rfl dX6_fund_42 ?_
        refine lv_iload_n hx hb dX6_fund_45 rfl (lv_at hl 2 rfl) ?_
        refine lv_iadd hx hb dX6_fund_46 ?_
        refine va_put (ci := 6) (v := .int (given + v)) (ty := .int) (C := RX6) (T := TX6) (N := 24) hx hb hts bi_6 tyX6 tyX6_ok nmX6 hown hK hP hD hS 0 rfl rfl 7 (by decide) (hts _ bw_412) (fun _ h9 => h9) rfl (by decide +kernel) rfl rfl (Nat.le_of_ble_eq_true rfl) dX6_fund_47 (fun H locs hP hD hS => ?_)
        have hP : va_P D cl_A [ob_J y 6 [.int 0, .int (nI hh), .int r0, .int r1, .int r2, .int r3, .ref mb, .int (given + v), .int mrew, .int (nI sz), .ref mk, .ref mc, .ref ms, .ref md, .ref mf, .ref mst, .ref mth, .ref mdr, .ref mw, .ref msh, .ref mpo, .ref mpa, .ref mde, .ref mj], ar_I mb cI 10 fbal] H := hP
        have hD : va_D A [ob_J y 6 [.int 0, .int (nI hh), .int r0, .int r1, .int r2, .int r3, .ref mb, .int (given + v), .int mrew, .int (nI sz), .ref mk, .ref mc, .ref ms, .ref md, .ref mf, .ref mst, .ref mth, .ref mdr, .ref mw, .ref msh, .ref mpo, .ref mpa, .ref mde, .ref mj], ar_I mb cI 10 fbal] := hD
        refine lv_aload_n hx hb dX6_fund_50 rfl (lv_at hl 0 rfl) ?_
        refine va_get (ci := 6) (v := .ref mb) (C := RX6) (T := TX6) (N := 24) hx hb hts bi_6 hown hK hP 0 rfl rfl 6 (by decide) (hts _ bw_411) (fun _ h9 => h9) rfl dX6_fund_51 ?_
        refine lv_iload_n hx hb dX6_fund_54 rfl (lv_at hl 1 rfl) ?_
        refine lv_aload_n hx hb dX6_fund_55 rfl (lv_at hl 0 rfl) ?_
        refine va_get (ci := 6) (v := .ref mb) (C := RX6) (T := TX6) (N := 24) hx hb hts bi_6 hown hK hP 0 rfl rfl 6 (by decide) (hts _ bw_411) (fun _ h9 => h9) rfl dX6_fund_56 ?_
        refine lv_iload_n hx hb dX6_fund_59 rfl (lv_at hl 1 rfl) ?_
        refine ar_ld hx hb hK hP 1 (k := ia) rfl rfl (by omega) (by decide) dX6_fund_60 ?_
        refine lv_iload_n hx hb dX6_fund_61 rfl (lv_at hl 2 rfl) ?_
        refine lv_iadd hx hb dX6_fund_62 ?_
        refine ar_st hx hb hK hP hD hS 1 (k := ia) rfl rfl (by omega) (by decide) dX6_fund_63 _ rfl (fun H locs hP hD hS => ?_)
        have hP : va_P D cl_A [ob_J y 6 [.int 0, .int (nI hh), .int r0, .int r1, .int r2, .int r3, .ref mb, .int (given + v), .int mrew, .int (nI sz), .ref mk, .ref mc, .ref ms, .ref md, .ref mf, .ref mst, .ref mth, .ref mdr, .ref mw, .ref msh, .ref mpo, .ref mpa, .ref mde, .ref mj], ar_I mb cI 10 (upd fbal ia ((fbal ia) + v))] H := hP
        have hD : va_D A [ob_J y 6 [.int 0, .int (nI hh), .int r0, .int r1, .int r2, .int r3, .ref mb, .int (given + v), .int mrew, .int (nI sz), .ref mk, .ref mc, .ref ms, .ref md, .ref mf, .ref mst, .ref mth, .ref mdr, .ref mw, .ref msh, .ref mpo, .ref mpa, .ref mde, .ref mj], ar_I mb cI 10 (upd fbal ia ((fbal ia) + v))] := hD
        refine lv_aload_n hx hb dX6_fund_64 rfl (lv_at hl 0 rfl) ?_
        refine va_get (ci := 6) (v := .ref mb) (C := RX6) (T := TX6) (N := 24) hx hb hts bi_6 hown hK hP 0 rfl rfl 6 (by decide) (hts _ bw_411) (fun _ h9 => h9) rfl dX6_fund_65 ?_
        refine lv_iload_n hx hb dX6_fund_68 rfl (lv_at hl 1 rfl) ?_
        refine ar_ld hx hb hK hP 1 (k := ia) rfl rfl (by omega) (by decide) dX6_fund_69 ?_
        have q_3 : (given + v) = (fd_fund given (nI ia) v) := by simp [rr_fund, fd_fund, ba_fund, fu_P, up_i, h_6, t_ia, h_18, c_34]
        obtain ⟨hP, hD⟩ := cs_W (fun z_z => [ob_J y 6 [.int 0, .int (nI hh), .int r0, .int r1, .int r2, .int r3, .ref mb, .int z_z, .int mrew, .int (nI sz), .ref mk, .ref mc, .ref ms, .ref md, .ref mf, .ref mst, .ref mth, .ref mdr, .ref mw, .ref msh, .ref mpo, .ref mpa, .ref mde, .ref mj], ar_I mb cI 10 (upd fbal ia ((fbal ia) + v))]) q_3 hP hD
        have q_4 : (upd fbal ia ((fbal ia) + v)) = (ba_fund given fbal (nI ia) v) := by simp [rr_fund, fd_fund, ba_fund, fu_P, up_i, h_6, t_ia, h_18, c_34]
        obtain ⟨hP, hD⟩ := cs_W (fun z_z => [ob_J y 6 [.int 0, .int (nI hh), .int r0, .int r1, .int r2, .int r3, .ref mb, .int (fd_fund given (nI ia) v), .int mrew, .int (nI sz), .ref mk, .ref mc, .ref ms, .ref md, .ref mf, .ref mst, .ref mth, .ref mdr, .ref mw, .ref msh, .ref mpo, .ref mpa, .ref mde, .ref mj], ar_I mb cI 10 z_z]) q_4 hP hD
        exact re_I (w1 := fun u_u : Unit => [ob_J y 6 [.int 0, .int (nI hh), .int r0, .int r1, .int r2, .int r3, .ref mb, .int (fd_fund given (nI ia) v), .int mrew, .int (nI sz), .ref mk, .ref mc, .ref ms, .ref md, .ref mf, .ref mst, .ref mth, .ref mdr, .ref mw, .ref msh, .ref mpo, .ref mpa, .ref mde, .ref mj], ar_I mb cI 10 (ba_fund given fbal (nI ia) v)]) (v := (upd fbal ia ((fbal ia) + v)) ia) hx hb hr hlk hK hS rfl () hP hD (show ((upd fbal ia ((fbal ia) + v)) ia) = rr_fund given fbal (nI ia) v from by simp [rr_fund, fd_fund, ba_fund, fu_P, up_i, h_6, t_ia, h_18, c_34]) dX6_fund_70
      · refine lv_bipush (v := (-3)) hx hb dX6_fund_37 (by decide) ?_
        have q_5 : given = (fd_fund given (nI ia) v) := by simp [rr_fund, fd_fund, ba_fund, fu_P, up_i, h_6, t_ia, h_18, c_34]
        obtain ⟨hP, hD⟩ := cs_W (fun z_z => [ob_J y 6 [.int 0, .int (nI hh), .int r0, .int r1, .int r2, .int r3, .ref mb, .int z_z, .int mrew, .int (nI sz), .ref mk, .ref mc, .ref ms, .ref md, .ref mf, .ref mst, .ref mth, .ref mdr, .ref mw, .ref msh, .ref mpo, .ref mpa, .ref mde, .ref mj], ar_I mb cI 10 fbal]) q_5 hP hD
        have q_6 : fbal = (ba_fund given fbal (nI ia) v) := by simp [rr_fund, fd_fund, ba_fund, fu_P, up_i, h_6, t_ia, h_18, c_34]
        obtain ⟨hP, hD⟩ := cs_W (fun z_z => [ob_J y 6 [.int 0, .int (nI hh), .int r0, .int r1, .int r2, .int r3, .ref mb, .int (fd_fund given (nI ia) v), .int mrew, .int (nI sz), .ref mk, .ref mc, .ref ms, .ref md, .ref mf, .ref mst, .ref mth, .ref mdr, .ref mw, .ref msh, .ref mpo, .ref mpa, .ref mde, .ref mj], ar_I mb cI 10 z_z]) q_6 hP hD
        exact re_I (w1 := fun u_u : Unit => [ob_J y 6 [.int 0, .int (nI hh), .int r0, .int r1, .int r2, .int r3, .ref mb, .int (fd_fund given (nI ia) v), .int mrew, .int (nI sz), .ref mk, .ref mc, .ref ms, .ref md, .ref mf, .ref mst, .ref mth, .ref mdr, .ref mw, .ref msh, .ref mpo, .ref mpa, .ref mde, .ref mj], ar_I mb cI 10 (ba_fund given fbal (nI ia) v)]) (v := (-3)) hx hb hr hlk hK hS rfl () hP hD (show (-3) = rr_fund given fbal (nI ia) v from by simp [rr_fund, fd_fund, ba_fund, fu_P, up_i, h_6, t_ia, h_18, c_34]) dX6_fund_39
    · rw [if_neg h_18] at w_18; subst w_18
      refine lv_if_ne (tgt := 26) hx hb dX6_fund_21 (by decide) (fun h9 => absurd (by decide) h9) (fun _ => ?_)
      refine lv_iconst (v := (-1)) hx hb dX6_fund_24 (by decide) ?_
      have q_7 : given = (fd_fund given (nI ia) v) := by simp [rr_fund, fd_fund, ba_fund, fu_P, up_i, h_6, t_ia, h_18]
      obtain ⟨hP, hD⟩ := cs_W (fun z_z => [ob_J y 6 [.int 0, .int (nI hh), .int r0, .int r1, .int r2, .int r3, .ref mb, .int z_z, .int mrew, .int (nI sz), .ref mk, .ref mc, .ref ms, .ref md, .ref mf, .ref mst, .ref mth, .ref mdr, .ref mw, .ref msh, .ref mpo, .ref mpa, .ref mde, .ref mj], ar_I mb cI 10 fbal]) q_7 hP hD
      have q_8 : fbal = (ba_fund given fbal (nI ia) v) := by simp [rr_fund, fd_fund, ba_fund, fu_P, up_i, h_6, t_ia, h_18]
      obtain ⟨hP, hD⟩ := cs_W (fun z_z => [ob_J y 6 [.int 0, .int (nI hh), .int r0, .int r1, .int r2, .int r3, .ref mb, .int (fd_fund given (nI ia) v), .int mrew, .int (nI sz), .ref mk, .ref mc, .ref ms, .ref md, .ref mf, .ref mst, .ref mth, .ref mdr, .ref mw, .ref msh, .ref mpo, .ref mpa, .ref mde, .ref mj], ar_I mb cI 10 z_z]) q_8 hP hD
      exact re_I (w1 := fun u_u : Unit => [ob_J y 6 [.int 0, .int (nI hh), .int r0, .int r1, .int r2, .int r3, .ref mb, .int (fd_fund given (nI ia) v), .int mrew, .int (nI sz), .ref mk, .ref mc, .ref ms, .ref md, .ref mf, .ref mst, .ref mth, .ref mdr, .ref mw, .ref msh, .ref mpo, .ref mpa, .ref mde, .ref mj], ar_I mb cI 10 (ba_fund given fbal (nI ia) v)]) (v := (-1)) hx hb hr hlk hK hS rfl () hP hD (show (-1) = rr_fund given fbal (nI ia) v from by simp [rr_fund, fd_fund, ba_fund, fu_P, up_i, h_6, t_ia, h_18]) dX6_fund_25

set_option maxHeartbeats 4000000 in
set_option maxRecDepth 100000 in
theorem k_X6_node (l : Launch) (D : va_G) (cI cJ cZ : ClassId) (y : Nat) (mk : Nat) (mc : Nat) (ms : Nat) (th : Int32) (hh : Nat) (r0 : Int32) (r1 : Int32) (r2 : Int32) (r3 : Int32) (mb : Nat) (given : Int32) (mrew : Int32) (sz : Nat) (md : Nat) (mf : Nat) (mst : Nat) (mth : Nat) (mdr : Nat) (mw : Nat) (msh : Nat) (mpo : Nat) (mpa : Nat) (mde : Nat) (mj : Nat) (fkp : Nat → Int32) (fct : Nat → Int32) (fsa : Nat → Int32) (k : Int32) (c_ : Int32) (hsz : sz ≤ 8) : mt_I l yX6_node cX6_node 3 .int 2 45 D cI cJ cZ [ob_J y 6 [.int th, .int (nI hh), .int r0, .int r1, .int r2, .int r3, .ref mb, .int given, .int mrew, .int (nI sz), .ref mk, .ref mc, .ref ms, .ref md, .ref mf, .ref mst, .ref mth, .ref mdr, .ref mw, .ref msh, .ref mpo, .ref mpa, .ref mde, .ref mj], ar_I mk cI 8 fkp, ar_I mc cI 8 fct, ar_I ms cI 8 fsa] [.ref y, .int k, .int c_] (fun r (u_u : Unit) => r = rr_node sz k c_) (fun u_u : Unit => [ob_J y 6 [.int 0, .int (nI hh), .int r0, .int r1, .int r2, .int r3, .ref mb, .int given, .int mrew, .int (nI (sz_node sz k c_)), .ref mk, .ref mc, .ref ms, .ref md, .ref mf, .ref mst, .ref mth, .ref mdr, .ref mw, .ref msh, .ref mpo, .ref mpa, .ref mde, .ref mj], ar_I mk cI 8 (up_node sz k c_ fkp k), ar_I mc cI 8 (up_node sz k c_ fct c_), ar_I ms cI 8 (up_node sz k c_ fsa 0)]) := by
  refine en_I (by decide) (Nat.le_of_ble_eq_true rfl) ?_
  intro p e s m below meth c A ls H locs hx hb hr hml hts hown hlk hN hK hA hP hD hS hl
  have hown : s.vm.findClass RX6 = some m.cls := hown
  have hl : lv_has ls 3 [(0, .ref y), (1, .int k), (2, .int c_)] := hl
  refine lv_aload_n hx hb dX6_node_0 rfl (lv_at hl 0 rfl) ?_
  refine lv_iconst (v := 0) hx hb dX6_node_1 (by decide) ?_
  refine va_put (ci := 6) (v := .int 0) (ty := .int) (C := RX6) (T := TX6) (N := 24) hx hb hts bi_6 tyX6 tyX6_ok nmX6 hown hK hP hD hS 0 rfl rfl 0 (by decide) (hts _ bw_405) (fun _ h9 => h9) rfl (by decide +kernel) rfl rfl (Nat.le_of_ble_eq_true rfl) dX6_node_2 (fun H locs hP hD hS => ?_)
  have hP : va_P D cl_A [ob_J y 6 [.int 0, .int (nI hh), .int r0, .int r1, .int r2, .int r3, .ref mb, .int given, .int mrew, .int (nI sz), .ref mk, .ref mc, .ref ms, .ref md, .ref mf, .ref mst, .ref mth, .ref mdr, .ref mw, .ref msh, .ref mpo, .ref mpa, .ref mde, .ref mj], ar_I mk cI 8 fkp, ar_I mc cI 8 fct, ar_I ms cI 8 fsa] H := hP
  have hD : va_D A [ob_J y 6 [.int 0, .int (nI hh), .int r0, .int r1, .int r2, .int r3, .ref mb, .int given, .int mrew, .int (nI sz), .ref mk, .ref mc, .ref ms, .ref md, .ref mf, .ref mst, .ref mth, .ref mdr, .ref mw, .ref msh, .ref mpo, .ref mpa, .ref mde, .ref mj], ar_I mk cI 8 fkp, ar_I mc cI 8 fct, ar_I ms cI 8 fsa] := hD
  refine lv_iload_n hx hb dX6_node_5 rfl (lv_at hl 1 rfl) ?_
  refine ca_SI (rest := []) (k_X6_noAccount l D cI cJ cZ k ) hx hb hml hown hts hN hK hA hP hD hS bw_493 bw_494 bw_7 bw_495 1 rfl (by decide +kernel) ⟨by decide, by decide⟩ hl.1 rfl (Nat.le_of_ble_eq_true rfl) dX6_node_6 ⟨Nat.zero_le _, Nat.zero_le _⟩ (fun r_6 u_u H locs w_6 hP hD hS => ?_)
  have w_6 : r_6 = if ¬ (0 ≤ k ∧ k ≤ 9) then 1 else 0 := w_6
  by_cases h_6 : ¬ (0 ≤ k ∧ k ≤ 9)
  · rw [if_pos h_6] at w_6; subst w_6
    refine lv_if_ne (tgt := 24) hx hb dX6_node_9 (by decide) (fun _ => ?_) (fun h9 => absurd h9 (by decide))
    refine lv_iconst (v := (-1)) hx hb dX6_node_24 (by decide) ?_
    have q_1 : (nI sz) = (nI (sz_node sz k c_)) := by simp [rr_node, sz_node, up_node, no_P, h_6]
    obtain ⟨hP, hD⟩ := cs_W (fun z_z => [ob_J y 6 [.int 0, .int (nI hh), .int r0, .int r1, .int r2, .int r3, .ref mb, .int given, .int mrew, .int z_z, .ref mk, .ref mc, .ref ms, .ref md, .ref mf, .ref mst, .ref mth, .ref mdr, .ref mw, .ref msh, .ref mpo, .ref mpa, .ref mde, .ref mj], ar_I mk cI 8 fkp, ar_I mc cI 8 fct, ar_I ms cI 8 fsa]) q_1 hP hD
    have q_2 : fkp = (up_node sz k c_ fkp k) := by simp [rr_node, sz_node, up_node, no_P, h_6]
    obtain ⟨hP, hD⟩ := cs_W (fun z_z => [ob_J y 6 [.int 0, .int (nI hh), .int r0, .int r1, .int r2, .int r3, .ref mb, .int given, .int mrew, .int (nI (sz_node sz k c_)), .ref mk, .ref mc, .ref ms, .ref md, .ref mf, .ref mst, .ref mth, .ref mdr, .ref mw, .ref msh, .ref mpo, .ref mpa, .ref mde, .ref mj], ar_I mk cI 8 z_z, ar_I mc cI 8 fct, ar_I ms cI 8 fsa]) q_2 hP hD
    have q_3 : fct = (up_node sz k c_ fct c_) := by simp [rr_node, sz_node, up_node, no_P, h_6]
    obtain ⟨hP, hD⟩ := cs_W (fun z_z => [ob_J y 6 [.int 0, .int (nI hh), .int r0, .int r1, .int r2, .int r3, .ref mb, .int given, .int mrew, .int (nI (sz_node sz k c_)), .ref mk, .ref mc, .ref ms, .ref md, .ref mf, .ref mst, .ref mth, .ref mdr, .ref mw, .ref msh, .ref mpo, .ref mpa, .ref mde, .ref mj], ar_I mk cI 8 (up_node sz k c_ fkp k), ar_I mc cI 8 z_z, ar_I ms cI 8 fsa]) q_3 hP hD
    have q_4 : fsa = (up_node sz k c_ fsa 0) := by simp [rr_node, sz_node, up_node, no_P, h_6]
    obtain ⟨hP, hD⟩ := cs_W (fun z_z => [ob_J y 6 [.int 0, .int (nI hh), .int r0, .int r1, .int r2, .int r3, .ref mb, .int given, .int mrew, .int (nI (sz_node sz k c_)), .ref mk, .ref mc, .ref ms, .ref md, .ref mf, .ref mst, .ref mth, .ref mdr, .ref mw, .ref msh, .ref mpo, .ref mpa, .ref mde, .ref mj], ar_I mk cI 8 (up_node sz k c_ fkp k), ar_I mc cI 8 (up_node sz k c_ fct c_), ar_I ms cI 8 z_z]) q_4 hP hD
    exact re_I (w1 := fun u_u : Unit => [ob_J y 6 [.int 0, .int (nI hh), .int r0, .int r1, .int r2, .int r3, .ref mb, .int given, .int mrew, .int (nI (sz_node sz k c_)), .ref mk, .ref mc, .ref ms, .ref md, .ref mf, .ref mst, .ref mth, .ref mdr, .ref mw, .ref msh, .ref mpo, .ref mpa, .ref mde, .ref mj], ar_I mk cI 8 (up_node sz k c_ fkp k), ar_I mc cI 8 (up_node sz k c_ fct c_), ar_I ms cI 8 (up_node sz k c_ fsa 0)]) (v := (-1)) hx hb hr hlk hK hS rfl () hP hD (show (-1) = rr_node sz k c_ from by simp [rr_node, sz_node, up_node, no_P, h_6]) dX6_node_25
  · rw [if_neg h_6] at w_6; subst w_6
    have h_6 := Decidable.not_not.mp h_6
    refine lv_if_ne (tgt := 24) hx hb dX6_node_9 (by decide) (fun h9 => absurd (by decide) h9) (fun _ => ?_)
    refine lv_iload_n hx hb dX6_node_12 rfl (lv_at hl 2 rfl) ?_
    refine lv_i2l (v := c_.toInt64) hx hb dX6_node_13 (rfl) ?_
    refine lv_lconst (v := (Int32.toInt64 0)) hx hb dX6_node_14 (by decide) ?_
    refine lv_ldc2 hx hb hown (hts _ bw_501) dX6_node_15 ?_
    refine tp_l (x' := (Int32.toInt64 100)) (by decide) ?_
    refine ca_SI (rest := []) (k_X6_in l D cI cJ cZ c_ 0 100 ) hx hb hml hown hts hN hK hA hP hD hS bw_483 bw_484 bw_7 bw_485 3 rfl (by decide +kernel) ⟨by decide, by decide⟩ hl.1 rfl (Nat.le_of_ble_eq_true rfl) dX6_node_18 ⟨Nat.zero_le _, Nat.zero_le _⟩ (fun r_18 u_u H locs w_18 hP hD hS => ?_)
    have w_18 : r_18 = if 0 ≤ c_ ∧ c_ ≤ 100 then 1 else 0 := w_18
    by_cases h_18 : 0 ≤ c_ ∧ c_ ≤ 100
    · rw [if_pos h_18] at w_18; subst w_18
      refine lv_if_ne (tgt := 26) hx hb dX6_node_21 (by decide) (fun _ => ?_) (fun h9 => absurd h9 (by decide))
      refine lv_aload_n hx hb dX6_node_26 rfl (lv_at hl 0 rfl) ?_
      refine va_get (ci := 6) (v := .int (nI sz)) (C := RX6) (T := TX6) (N := 24) hx hb hts bi_6 hown hK hP 0 rfl rfl 9 (by decide) (hts _ bw_414) (fun _ h9 => h9) rfl dX6_node_27 ?_
      refine lv_bipush (v := 8) hx hb dX6_node_30 (by decide) ?_
      refine lv_icmp_ne (tgt := 38) hx hb dX6_node_32 (by decide) (fun c_32 => ?_) (fun c_32 => ?_)
      · have c_32 := qq_ne (a := sz) (b := 8) c_32 (by omega) (by omega)
        have c_32 : sz < 8 := by omega
        refine lv_aload_n hx hb dX6_node_38 rfl (lv_at hl 0 rfl) ?_
        refine va_get (ci := 6) (v := .ref mk) (C := RX6) (T := TX6) (N := 24) hx hb hts bi_6 hown hK hP 0 rfl rfl 10 (by decide) (hts _ bw_415) (fun _ h9 => h9) rfl dX6_node_39 ?_
        refine lv_aload_n hx hb dX6_node_42 rfl (lv_at hl 0 rfl) ?_
        refine va_get (ci := 6) (v := .int (nI sz)) (C := RX6) (T := TX6) (N := 24) hx hb hts bi_6 hown hK hP 0 rfl rfl 9 (by decide) (hts _ bw_414) (fun _ h9 => h9) rfl dX6_node_43 ?_
        refine lv_iload_n hx hb dX6_node_46 rfl (lv_at hl 1 rfl) ?_
        refine ar_st hx hb hK hP hD hS 1 (k := sz) rfl rfl (by omega) (by decide) dX6_node_47 _ rfl (fun H locs hP hD hS => ?_)
        have hP : va_P D cl_A [ob_J y 6 [.int 0, .int (nI hh), .int r0, .int r1, .int r2, .int r3, .ref mb, .int given, .int mrew, .int (nI sz), .ref mk, .ref mc, .ref ms, .ref md, .ref mf, .ref mst, .ref mth, .ref mdr, .ref mw, .ref msh, .ref mpo, .ref mpa, .ref mde, .ref mj], ar_I mk cI 8 (upd fkp sz k), ar_I mc cI 8 fct, ar_I ms cI 8 fsa] H := hP
        have hD : va_D A [ob_J y 6 [.int 0, .int (nI hh), .int r0, .int r1, .int r2, .int r3, .ref mb, .int given, .int mrew, .int (nI sz), .ref mk, .ref mc, .ref ms, .ref md, .ref mf, .ref mst, .ref mth, .ref mdr, .ref mw, .ref msh, .ref mpo, .ref mpa, .ref mde, .ref mj], ar_I mk cI 8 (upd fkp sz k), ar_I mc cI 8 fct, ar_I ms cI 8 fsa] := hD
        refine lv_aload_n hx hb dX6_node_48 rfl (lv_at hl 0 rfl) ?_
        refine va_get (ci := 6) (v := .ref mc) (C := RX6) (T := TX6) (N := 24) hx hb hts bi_6 hown hK hP 0 rfl rfl 11 (by decide) (hts _ bw_416) (fun _ h9 => h9) rfl dX6_node_49 ?_
        refine lv_aload_n hx hb dX6_node_52 rfl (lv_at hl 0 rfl) ?_
        refine va_get (ci := 6) (v := .int (nI sz)) (C := RX6) (T := TX6) (N := 24) hx hb hts bi_6 hown hK hP 0 rfl rfl 9 (by decide) (hts _ bw_414) (fun _ h9 => h9) rfl dX6_node_53 ?_
        refine lv_iload_n hx hb dX6_node_56 rfl (lv_at hl 2 rfl) ?_
        refine ar_st hx hb hK hP hD hS 2 (k := sz) rfl rfl (by omega) (by decide) dX6_node_57 _ rfl (fun H locs hP hD hS => ?_)
        have hP : va_P D cl_A [ob_J y 6 [.int 0, .int (nI hh), .int r0, .int r1, .int r2, .int r3, .ref mb, .int given, .int mrew, .int (nI sz), .ref mk, .ref mc, .ref ms, .ref md, .ref mf, .ref mst, .ref mth, .ref mdr, .ref mw, .ref msh, .ref mpo, .ref mpa, .ref mde, .ref mj], ar_I mk cI 8 (upd fkp sz k), ar_I mc cI 8 (upd fct sz c_), ar_I ms cI 8 fsa] H := hP
        have hD : va_D A [ob_J y 6 [.int 0, .int (nI hh), .int r0, .int r1, .int r2, .int r3, .ref mb, .int given, .int mrew, .int (nI sz), .ref mk, .ref mc, .ref ms, .ref md, .ref mf, .ref mst, .ref mth, .ref mdr, .ref mw, .ref msh, .ref mpo, .ref mpa, .ref mde, .ref mj], ar_I mk cI 8 (upd fkp sz k), ar_I mc cI 8 (upd fct sz c_), ar_I ms cI 8 fsa] := hD
        refine lv_aload_n hx hb dX6_node_58 rfl (lv_at hl 0 rfl) ?_
        refine va_get (ci := 6) (v := .ref ms) (C := RX6) (T := TX6) (N := 24) hx hb hts bi_6 hown hK hP 0 rfl rfl 12 (by decide) (hts _ bw_417) (fun _ h9 => h9) rfl dX6_node_59 ?_
        refine lv_aload_n hx hb dX6_node_62 rfl (lv_at hl 0 rfl) ?_
        refine va_get (ci := 6) (v := .int (nI sz)) (C := RX6) (T := TX6) (N := 24) hx hb hts bi_6 hown hK hP 0 rfl rfl 9 (by decide) (hts _ bw_414) (fun _ h9 => h9) rfl dX6_node_63 ?_
        refine lv_iconst (v := 0) hx hb dX6_node_66 (by decide) ?_
        refine ar_st hx hb hK hP hD hS 3 (k := sz) rfl rfl (by omega) (by decide) dX6_node_67 _ rfl (fun H locs hP hD hS => ?_)
        have hP : va_P D cl_A [ob_J y 6 [.int 0, .int (nI hh), .int r0, .int r1, .int r2, .int r3, .ref mb, .int given, .int mrew, .int (nI sz), .ref mk, .ref mc, .ref ms, .ref md, .ref mf, .ref mst, .ref mth, .ref mdr, .ref mw, .ref msh, .ref mpo, .ref mpa, .ref mde, .ref mj], ar_I mk cI 8 (upd fkp sz k), ar_I mc cI 8 (upd fct sz c_), ar_I ms cI 8 (upd fsa sz 0)] H := hP
        have hD : va_D A [ob_J y 6 [.int 0, .int (nI hh), .int r0, .int r1, .int r2, .int r3, .ref mb, .int given, .int mrew, .int (nI sz), .ref mk, .ref mc, .ref ms, .ref md, .ref mf, .ref mst, .ref mth, .ref mdr, .ref mw, .ref msh, .ref mpo, .ref mpa, .ref mde, .ref mj], ar_I mk cI 8 (upd fkp sz k), ar_I mc cI 8 (upd fct sz c_), ar_I ms cI 8 (upd fsa sz 0)] := hD
        refine lv_aload_n hx hb dX6_node_68 rfl (lv_at hl 0 rfl) ?_
        refine lv_dup hx hb dX6_node_69 rfl ?_
        refine va_get (ci := 6) (v := .int (nI sz)) (C := RX6) (T := TX6) (N := 24) hx hb hts bi_6 hown hK hP 0 rfl rfl 9 (by decide) (hts _ bw_414) (fun _ h9 => h9) rfl dX6_node_70 ?_
        refine lv_iconst (v := 1) hx hb dX6_node_73 (by decide) ?_
        refine lv_iadd hx hb dX6_node_74 ?_
        refine tp_i (x' := nI (sz + 1)) (nn_add rfl rfl) ?_
        refine va_put (ci := 6) (v := .int (nI (sz + 1))) (ty := .int) (C := RX6) (T := TX6) (N := 24) hx hb hts bi_6 tyX6 tyX6_ok nmX6 hown hK hP hD hS 0 rfl rfl 9 (by decide) (hts _ bw_414) (fun _ h9 => h9) rfl (by decide +kernel) rfl rfl (Nat.le_of_ble_eq_true rfl) dX6_node_75 (fun H locs hP hD hS => ?_)
        have hP : va_P D cl_A [ob_J y 6 [.int 0, .int (nI hh), .int r0, .int r1, .int r2, .int r3, .ref mb, .int given, .int mrew, .int (nI (sz + 1)), .ref mk, .ref mc, .ref ms, .ref md, .ref mf, .ref mst, .ref mth, .ref mdr, .ref mw, .ref msh, .ref mpo, .ref mpa, .ref mde, .ref mj], ar_I mk cI 8 (upd fkp sz k), ar_I mc cI 8 (upd fct sz c_), ar_I ms cI 8 (upd fsa sz 0)] H := hP
        have hD : va_D A [ob_J y 6 [.int 0, .int (nI hh), .int r0, .int r1, .int r2, .int r3, .ref mb, .int given, .int mrew, .int (nI (sz + 1)), .ref mk, .ref mc, .ref ms, .ref md, .ref mf, .ref mst, .ref mth, .ref mdr, .ref mw, .ref msh, .ref mpo, .ref mpa, .ref mde, .ref mj], ar_I mk cI 8 (upd fkp sz k), ar_I mc cI 8 (upd fct sz c_), ar_I ms cI 8 (upd fsa sz 0)] := hD
        refine lv_aload_n hx hb dX6_node_78 rfl (lv_at hl 0 rfl) ?_
        refine va_get (ci := 6) (v := .int (nI (sz + 1))) (C := RX6) (T := TX6) (N := 24) hx hb hts bi_6 hown hK hP 0 rfl rfl 9 (by decide) (hts _ bw_414) (fun _ h9 => h9) rfl dX6_node_79 ?_
        refine lv_iconst (v := 1) hx hb dX6_node_82 (by decide) ?_
        refine lv_isub hx hb dX6_node_83 ?_
        refine tp_i (x' := nI ((sz + 1) - 1)) (nn_sub rfl rfl (by omega)) ?_
        refine tp_i (x' := nI sz) (congrArg nI (Nat.add_sub_cancel _ _)) ?_
        have q_5 : (nI (sz + 1)) = (nI (sz_node sz k c_)) := by simp [rr_node, sz_node, up_node, no_P, h_6, h_18, c_32]
        obtain ⟨hP, hD⟩ := cs_W (fun z_z => [ob_J y 6 [.int 0, .int (nI hh), .int r0, .int r1, .int r2, .int r3, .ref mb, .int given, .int mrew, .int z_z, .ref mk, .ref mc, .ref ms, .ref md, .ref mf, .ref mst, .ref mth, .ref mdr, .ref mw, .ref msh, .ref mpo, .ref mpa, .ref mde, .ref mj], ar_I mk cI 8 (upd fkp sz k), ar_I mc cI 8 (upd fct sz c_), ar_I ms cI 8 (upd fsa sz 0)]) q_5 hP hD
        have q_6 : (upd fkp sz k) = (up_node sz k c_ fkp k) := by simp [rr_node, sz_node, up_node, no_P, h_6, h_18, c_32]
        obtain ⟨hP, hD⟩ := cs_W (fun z_z => [ob_J y 6 [.int 0, .int (nI hh), .int r0, .int r1, .int r2, .int r3, .ref mb, .int given, .int mrew, .int (nI (sz_node sz k c_)), .ref mk, .ref mc, .ref ms, .ref md, .ref mf, .ref mst, .ref mth, .ref mdr, .ref mw, .ref msh, .ref mpo, .ref mpa, .ref mde, .ref mj], ar_I mk cI 8 z_z, ar_I mc cI 8 (upd fct sz c_), ar_I ms cI 8 (upd fsa sz 0)]) q_6 hP hD
        have q_7 : (upd fct sz c_) = (up_node sz k c_ fct c_) := by simp [rr_node, sz_node, up_node, no_P, h_6, h_18, c_32]
        obtain ⟨hP, hD⟩ := cs_W (fun z_z => [ob_J y 6 [.int 0, .int (nI hh), .int r0, .int r1, .int r2, .int r3, .ref mb, .int given, .int mrew, .int (nI (sz_node sz k c_)), .ref mk, .ref mc, .ref ms, .ref md, .ref mf, .ref mst, .ref mth, .ref mdr, .ref mw, .ref msh, .ref mpo, .ref mpa, .ref mde, .ref mj], ar_I mk cI 8 (up_node sz k c_ fkp k), ar_I mc cI 8 z_z, ar_I ms cI 8 (upd fsa sz 0)]) q_7 hP hD
        have q_8 : (upd fsa sz 0) = (up_node sz k c_ fsa 0) := by simp [rr_node, sz_node, up_node, no_P, h_6, h_18, c_32]
        obtain ⟨hP, hD⟩ := cs_W (fun z_z => [ob_J y 6 [.int 0, .int (nI hh), .int r0, .int r1, .int r2, .int r3, .ref mb, .int given, .int mrew, .int (nI (sz_node sz k c_)), .ref mk, .ref mc, .ref ms, .ref md, .ref mf, .ref mst, .ref mth, .ref mdr, .ref mw, .ref msh, .ref mpo, .ref mpa, .ref mde, .ref mj], ar_I mk cI 8 (up_node sz k c_ fkp k), ar_I mc cI 8 (up_node sz k c_ fct c_), ar_I ms cI 8 z_z]) q_8 hP hD
        exact re_I (w1 := fun u_u : Unit => [ob_J y 6 [.int 0, .int (nI hh), .int r0, .int r1, .int r2, .int r3, .ref mb, .int given, .int mrew, .int (nI (sz_node sz k c_)), .ref mk, .ref mc, .ref ms, .ref md, .ref mf, .ref mst, .ref mth, .ref mdr, .ref mw, .ref msh, .ref mpo, .ref mpa, .ref mde, .ref mj], ar_I mk cI 8 (up_node sz k c_ fkp k), ar_I mc cI 8 (up_node sz k c_ fct c_), ar_I ms cI 8 (up_node sz k c_ fsa 0)]) (v := nI sz) hx hb hr hlk hK hS rfl () hP hD (show (nI sz) = rr_node sz k c_ from by simp [rr_node, sz_node, up_node, no_P, h_6, h_18, c_32]) dX6_node_84
      · have c_32 := qq_eq (a := sz) (b := 8) c_32 (by omega) (by omega)
        have c_32 := Nat.not_lt.mpr (Nat.le_of_eq c_32.symm)
        refine lv_bipush (v := (-3)) hx hb dX6_node_35 (by decide) ?_
        have q_9 : (nI sz) = (nI (sz_node sz k c_)) := by simp [rr_node, sz_node, up_node, no_P, h_6, h_18, c_32]
        obtain ⟨hP, hD⟩ := cs_W (fun z_z => [ob_J y 6 [.int 0, .int (nI hh), .int r0, .int r1, .int r2, .int r3, .ref mb, .int given, .int mrew, .int z_z, .ref mk, .ref mc, .ref ms, .ref md, .ref mf, .ref mst, .ref mth, .ref mdr, .ref mw, .ref msh, .ref mpo, .ref mpa, .ref mde, .ref mj], ar_I mk cI 8 fkp, ar_I mc cI 8 fct, ar_I ms cI 8 fsa]) q_9 hP hD
        have q_10 : fkp = (up_node sz k c_ fkp k) := by simp [rr_node, sz_node, up_node, no_P, h_6, h_18, c_32]
        obtain ⟨hP, hD⟩ := cs_W (fun z_z => [ob_J y 6 [.int 0, .int (nI hh), .int r0, .int r1, .int r2, .int r3, .ref mb, .int given, .int mrew, .int (nI (sz_node sz k c_)), .ref mk, .ref mc, .ref ms, .ref md, .ref mf, .ref mst, .ref mth, .ref mdr, .ref mw, .ref msh, .ref mpo, .ref mpa, .ref mde, .ref mj], ar_I mk cI 8 z_z, ar_I mc cI 8 fct, ar_I ms cI 8 fsa]) q_10 hP hD
        have q_11 : fct = (up_node sz k c_ fct c_) := by simp [rr_node, sz_node, up_node, no_P, h_6, h_18, c_32]
        obtain ⟨hP, hD⟩ := cs_W (fun z_z => [ob_J y 6 [.int 0, .int (nI hh), .int r0, .int r1, .int r2, .int r3, .ref mb, .int given, .int mrew, .int (nI (sz_node sz k c_)), .ref mk, .ref mc, .ref ms, .ref md, .ref mf, .ref mst, .ref mth, .ref mdr, .ref mw, .ref msh, .ref mpo, .ref mpa, .ref mde, .ref mj], ar_I mk cI 8 (up_node sz k c_ fkp k), ar_I mc cI 8 z_z, ar_I ms cI 8 fsa]) q_11 hP hD
        have q_12 : fsa = (up_node sz k c_ fsa 0) := by simp [rr_node, sz_node, up_node, no_P, h_6, h_18, c_32]
        obtain ⟨hP, hD⟩ := cs_W (fun z_z => [ob_J y 6 [.int 0, .int (nI hh), .int r0, .int r1, .int r2, .int r3, .ref mb, .int given, .int mrew, .int (nI (sz_node sz k c_)), .ref mk, .ref mc, .ref ms, .ref md, .ref mf, .ref mst, .ref mth, .ref mdr, .ref mw, .ref msh, .ref mpo, .ref mpa, .ref mde, .ref mj], ar_I mk cI 8 (up_node sz k c_ fkp k), ar_I mc cI 8 (up_node sz k c_ fct c_), ar_I ms cI 8 z_z]) q_12 hP hD
        exact re_I (w1 := fun u_u : Unit => [ob_J y 6 [.int 0, .int (nI hh), .int r0, .int r1, .int r2, .int r3, .ref mb, .int given, .int mrew, .int (nI (sz_node sz k c_)), .ref mk, .ref mc, .ref ms, .ref md, .ref mf, .ref mst, .ref mth, .ref mdr, .ref mw, .ref msh, .ref mpo, .ref mpa, .ref mde, .ref mj], ar_I mk cI 8 (up_node sz k c_ fkp k), ar_I mc cI 8 (up_node sz k c_ fct c_), ar_I ms cI 8 (up_node sz k c_ fsa 0)]) (v := (-3)) hx hb hr hlk hK hS rfl () hP hD (show (-3) = rr_node sz k c_ from by simp [rr_node, sz_node, up_node, no_P, h_6, h_18, c_32]) dX6_node_37
    · rw [if_neg h_18] at w_18; subst w_18
      refine lv_if_ne (tgt := 26) hx hb dX6_node_21 (by decide) (fun h9 => absurd (by decide) h9) (fun _ => ?_)
      refine lv_iconst (v := (-1)) hx hb dX6_node_24 (by decide) ?_
      have q_13 : (nI sz) = (nI (sz_node sz k c_)) := by simp [rr_node, sz_node, up_node, no_P, h_6, h_18]
      obtain ⟨hP, hD⟩ := cs_W (fun z_z => [ob_J y 6 [.int 0, .int (nI hh), .int r0, .int r1, .int r2, .int r3, .ref mb, .int given, .int mrew, .int z_z, .ref mk, .ref mc, .ref ms, .ref md, .ref mf, .ref mst, .ref mth, .ref mdr, .ref mw, .ref msh, .ref mpo, .ref mpa, .ref mde, .ref mj], ar_I mk cI 8 fkp, ar_I mc cI 8 fct, ar_I ms cI 8 fsa]) q_13 hP hD
      have q_14 : fkp = (up_node sz k c_ fkp k) := by simp [rr_node, sz_node, up_node, no_P, h_6, h_18]
      obtain ⟨hP, hD⟩ := cs_W (fun z_z => [ob_J y 6 [.int 0, .int (nI hh), .int r0, .int r1, .int r2, .int r3, .ref mb, .int given, .int mrew, .int (nI (sz_node sz k c_)), .ref mk, .ref mc, .ref ms, .ref md, .ref mf, .ref mst, .ref mth, .ref mdr, .ref mw, .ref msh, .ref mpo, .ref mpa, .ref mde, .ref mj], ar_I mk cI 8 z_z, ar_I mc cI 8 fct, ar_I ms cI 8 fsa]) q_14 hP hD
      have q_15 : fct = (up_node sz k c_ fct c_) := by simp [rr_node, sz_node, up_node, no_P, h_6, h_18]
      obtain ⟨hP, hD⟩ := cs_W (fun z_z => [ob_J y 6 [.int 0, .int (nI hh), .int r0, .int r1, .int r2, .int r3, .ref mb, .int given, .int mrew, .int (nI (sz_node sz k c_)), .ref mk, .ref mc, .ref ms, .ref md, .ref mf, .ref mst, .ref mth, .ref mdr, .ref mw, .ref msh, .ref mpo, .ref mpa, .ref mde, .ref mj], ar_I mk cI 8 (up_node sz k c_ fkp k), ar_I mc cI 8 z_z, ar_I ms cI 8 fsa]) q_15 hP hD
      have q_16 : fsa = (up_node sz k c_ fsa 0) := by simp [rr_node, sz_node, up_node, no_P, h_6, h_18]
      obtain ⟨hP, hD⟩ := cs_W (fun z_z => [ob_J y 6 [.int 0, .int (nI hh), .int r0, .int r1, .int r2, .int r3, .ref mb, .int given, .int mrew, .int (nI (sz_node sz k c_)), .ref mk, .ref mc, .ref ms, .ref md, .ref mf, .ref mst, .ref mth, .ref mdr, .ref mw, .ref msh, .ref mpo, .ref mpa, .ref mde, .ref mj], ar_I mk cI 8 (up_node sz k c_ fkp k), ar_I mc cI 8 (up_node sz k c_ fct c_), ar_I ms cI 8 z_z]) q_16 hP hD
      exact re_I (w1 := fun u_u : Unit => [ob_J y 6 [.int 0, .int (nI hh), .int r0, .int r1, .int r2, .int r3, .ref mb, .int given, .int mrew, .int (nI (sz_node sz k c_)), .ref mk, .ref mc, .ref ms, .ref md, .ref mf, .ref mst, .ref mth, .ref mdr, .ref mw, .ref msh, .ref mpo, .ref mpa, .ref mde, .ref mj], ar_I mk cI 8 (up_node sz k c_ fkp k), ar_I mc cI 8 (up_node sz k c_ fct c_), ar_I ms cI 8 (up_node sz k c_ fsa 0)]) (v := (-1)) hx hb hr hlk hK hS rfl () hP hD (show (-1) = rr_node sz k c_ from by simp [rr_node, sz_node, up_node, no_P, h_6, h_18]) dX6_node_25

set_option maxHeartbeats 4000000 in
set_option maxRecDepth 100000 in
theorem k_X6_stake (l : Launch) (D : va_G) (cI cJ cZ : ClassId) (y : Nat) (mb : Nat) (mst : Nat) (th : Int32) (hh : Nat) (r0 : Int32) (r1 : Int32) (r2 : Int32) (r3 : Int32) (given : Int32) (mrew : Int32) (sz : Nat) (mk : Nat) (mc : Nat) (ms : Nat) (md : Nat) (mf : Nat) (mth : Nat) (mdr : Nat) (mw : Nat) (msh : Nat) (mpo : Nat) (mpa : Nat) (mde : Nat) (mj : Nat) (fbal : Nat → Int32) (fstk : Nat → Int32) (a : Int32) (n : Int32) (v : Int32) (hsz : sz ≤ 8) : mt_I l yX6_stake cX6_stake 4 .int 2 46 D cI cJ cZ [ob_J y 6 [.int th, .int (nI hh), .int r0, .int r1, .int r2, .int r3, .ref mb, .int given, .int mrew, .int (nI sz), .ref mk, .ref mc, .ref ms, .ref md, .ref mf, .ref mst, .ref mth, .ref mdr, .ref mw, .ref msh, .ref mpo, .ref mpa, .ref mde, .ref mj], ar_I mb cI 10 fbal, ar_I mst cI 80 fstk] [.ref y, .int a, .int n, .int v] (fun r (u_u : Unit) => r = rr_stake sz fbal fstk a n v) (fun u_u : Unit => [ob_J y 6 [.int 0, .int (nI hh), .int r0, .int r1, .int r2, .int r3, .ref mb, .int given, .int mrew, .int (nI sz), .ref mk, .ref mc, .ref ms, .ref md, .ref mf, .ref mst, .ref mth, .ref mdr, .ref mw, .ref msh, .ref mpo, .ref mpa, .ref mde, .ref mj], ar_I mb cI 10 (ba_stake sz fbal a n v), ar_I mst cI 80 (sk_stake sz fbal fstk a n v)]) := by
  refine en_I (by decide) (Nat.le_of_ble_eq_true rfl) ?_
  intro p e s m below meth c A ls H locs hx hb hr hml hts hown hlk hN hK hA hP hD hS hl
  have hown : s.vm.findClass RX6 = some m.cls := hown
  have hl : lv_has ls 4 [(0, .ref y), (1, .int a), (2, .int n), (3, .int v)] := hl
  refine lv_aload_n hx hb dX6_stake_0 rfl (lv_at hl 0 rfl) ?_
  refine lv_iconst (v := 0) hx hb dX6_stake_1 (by decide) ?_
  refine va_put (ci := 6) (v := .int 0) (ty := .int) (C := RX6) (T := TX6) (N := 24) hx hb hts bi_6 tyX6 tyX6_ok nmX6 hown hK hP hD hS 0 rfl rfl 0 (by decide) (hts _ bw_405) (fun _ h9 => h9) rfl (by decide +kernel) rfl rfl (Nat.le_of_ble_eq_true rfl) dX6_stake_2 (fun H locs hP hD hS => ?_)
  have hP : va_P D cl_A [ob_J y 6 [.int 0, .int (nI hh), .int r0, .int r1, .int r2, .int r3, .ref mb, .int given, .int mrew, .int (nI sz), .ref mk, .ref mc, .ref ms, .ref md, .ref mf, .ref mst, .ref mth, .ref mdr, .ref mw, .ref msh, .ref mpo, .ref mpa, .ref mde, .ref mj], ar_I mb cI 10 fbal, ar_I mst cI 80 fstk] H := hP
  have hD : va_D A [ob_J y 6 [.int 0, .int (nI hh), .int r0, .int r1, .int r2, .int r3, .ref mb, .int given, .int mrew, .int (nI sz), .ref mk, .ref mc, .ref ms, .ref md, .ref mf, .ref mst, .ref mth, .ref mdr, .ref mw, .ref msh, .ref mpo, .ref mpa, .ref mde, .ref mj], ar_I mb cI 10 fbal, ar_I mst cI 80 fstk] := hD
  refine lv_iload_n hx hb dX6_stake_5 rfl (lv_at hl 1 rfl) ?_
  refine ca_SI (rest := []) (k_X6_noAccount l D cI cJ cZ a ) hx hb hml hown hts hN hK hA hP hD hS bw_493 bw_494 bw_7 bw_495 1 rfl (by decide +kernel) ⟨by decide, by decide⟩ hl.1 rfl (Nat.le_of_ble_eq_true rfl) dX6_stake_6 ⟨Nat.zero_le _, Nat.zero_le _⟩ (fun r_6 u_u H locs w_6 hP hD hS => ?_)
  have w_6 : r_6 = if ¬ (0 ≤ a ∧ a ≤ 9) then 1 else 0 := w_6
  by_cases h_6 : ¬ (0 ≤ a ∧ a ≤ 9)
  · rw [if_pos h_6] at w_6; subst w_6
    refine lv_if_ne (tgt := 32) hx hb dX6_stake_9 (by decide) (fun _ => ?_) (fun h9 => absurd h9 (by decide))
    refine lv_iconst (v := (-1)) hx hb dX6_stake_32 (by decide) ?_
    have q_1 : fbal = (ba_stake sz fbal a n v) := by simp [rr_stake, ba_stake, sk_stake, mv_P, up_i, h_6]
    obtain ⟨hP, hD⟩ := cs_W (fun z_z => [ob_J y 6 [.int 0, .int (nI hh), .int r0, .int r1, .int r2, .int r3, .ref mb, .int given, .int mrew, .int (nI sz), .ref mk, .ref mc, .ref ms, .ref md, .ref mf, .ref mst, .ref mth, .ref mdr, .ref mw, .ref msh, .ref mpo, .ref mpa, .ref mde, .ref mj], ar_I mb cI 10 z_z, ar_I mst cI 80 fstk]) q_1 hP hD
    have q_2 : fstk = (sk_stake sz fbal fstk a n v) := by simp [rr_stake, ba_stake, sk_stake, mv_P, up_i, h_6]
    obtain ⟨hP, hD⟩ := cs_W (fun z_z => [ob_J y 6 [.int 0, .int (nI hh), .int r0, .int r1, .int r2, .int r3, .ref mb, .int given, .int mrew, .int (nI sz), .ref mk, .ref mc, .ref ms, .ref md, .ref mf, .ref mst, .ref mth, .ref mdr, .ref mw, .ref msh, .ref mpo, .ref mpa, .ref mde, .ref mj], ar_I mb cI 10 (ba_stake sz fbal a n v), ar_I mst cI 80 z_z]) q_2 hP hD
    exact re_I (w1 := fun u_u : Unit => [ob_J y 6 [.int 0, .int (nI hh), .int r0, .int r1, .int r2, .int r3, .ref mb, .int given, .int mrew, .int (nI sz), .ref mk, .ref mc, .ref ms, .ref md, .ref mf, .ref mst, .ref mth, .ref mdr, .ref mw, .ref msh, .ref mpo, .ref mpa, .ref mde, .ref mj], ar_I mb cI 10 (ba_stake sz fbal a n v), ar_I mst cI 80 (sk_stake sz fbal fstk a n v)]) (v := (-1)) hx hb hr hlk hK hS rfl () hP hD (show (-1) = rr_stake sz fbal fstk a n v from by simp [rr_stake, ba_stake, sk_stake, mv_P, up_i, h_6]) dX6_stake_33
  · rw [if_neg h_6] at w_6; subst w_6
    have h_6 := Decidable.not_not.mp h_6
    obtain ⟨ia, h_ia, rfl⟩ : ∃ z : Nat, z < 10 ∧ a = nI z := ix_le (by decide) h_6
    have t_ia := tn_nI (n := ia) (by omega)
    refine lv_if_ne (tgt := 32) hx hb dX6_stake_9 (by decide) (fun h9 => absurd (by decide) h9) (fun _ => ?_)
    refine lv_aload_n hx hb dX6_stake_12 rfl (lv_at hl 0 rfl) ?_
    refine lv_iload_n hx hb dX6_stake_13 rfl (lv_at hl 2 rfl) ?_
    refine ca_VI (rest := []) (wr := [ar_I mb cI 10 fbal, ar_I mst cI 80 fstk]) (w2 := fun u_u => [ob_J y 6 [.int 0, .int (nI hh), .int r0, .int r1, .int r2, .int r3, .ref mb, .int given, .int mrew, .int (nI sz), .ref mk, .ref mc, .ref ms, .ref md, .ref mf, .ref mst, .ref mth, .ref mdr, .ref mw, .ref msh, .ref mpo, .ref mpa, .ref mde, .ref mj], ar_I mb cI 10 fbal, ar_I mst cI 80 fstk]) (k_X6_noNode l D cI cJ cZ y 0 hh r0 r1 r2 r3 mb given mrew sz mk mc ms md mf mst mth mdr mw msh mpo mpa mde mj n (by first | assumption | omega)) hx hb hml hown hts hN hK hA hP hD hS 6 0 rfl rfl bw_506 bw_508 bs_8 bw_7 bw_509 1 rfl (by decide +kernel) ⟨by decide, by decide⟩ [0] [1, 2] [2, 0, 1] rfl rfl (by decide) (fun _ => rfl) hl.1 rfl (Nat.le_of_ble_eq_true rfl) dX6_stake_14 ⟨Nat.zero_le _, Nat.zero_le _⟩ (fun r_14 u_u H locs w_14 hP hD hS => ?_)
    have hP : va_P D cl_A [ob_J y 6 [.int 0, .int (nI hh), .int r0, .int r1, .int r2, .int r3, .ref mb, .int given, .int mrew, .int (nI sz), .ref mk, .ref mc, .ref ms, .ref md, .ref mf, .ref mst, .ref mth, .ref mdr, .ref mw, .ref msh, .ref mpo, .ref mpa, .ref mde, .ref mj], ar_I mb cI 10 fbal, ar_I mst cI 80 fstk] H := hP
    have hD : va_D A [ob_J y 6 [.int 0, .int (nI hh), .int r0, .int r1, .int r2, .int r3, .ref mb, .int given, .int mrew, .int (nI sz), .ref mk, .ref mc, .ref ms, .ref md, .ref mf, .ref mst, .ref mth, .ref mdr, .ref mw, .ref msh, .ref mpo, .ref mpa, .ref mde, .ref mj], ar_I mb cI 10 fbal, ar_I mst cI 80 fstk] := hD
    have w_14 : r_14 = if ¬ (0 ≤ n ∧ n < nI sz) then 1 else 0 := w_14
    by_cases h_14 : ¬ (0 ≤ n ∧ n < nI sz)
    · rw [if_pos h_14] at w_14; subst w_14
      refine lv_if_ne (tgt := 32) hx hb dX6_stake_17 (by decide) (fun _ => ?_) (fun h9 => absurd h9 (by decide))
      refine lv_iconst (v := (-1)) hx hb dX6_stake_32 (by decide) ?_
      have q_3 : fbal = (ba_stake sz fbal (nI ia) n v) := by simp [rr_stake, ba_stake, sk_stake, mv_P, up_i, h_6, t_ia, h_14]
      obtain ⟨hP, hD⟩ := cs_W (fun z_z => [ob_J y 6 [.int 0, .int (nI hh), .int r0, .int r1, .int r2, .int r3, .ref mb, .int given, .int mrew, .int (nI sz), .ref mk, .ref mc, .ref ms, .ref md, .ref mf, .ref mst, .ref mth, .ref mdr, .ref mw, .ref msh, .ref mpo, .ref mpa, .ref mde, .ref mj], ar_I mb cI 10 z_z, ar_I mst cI 80 fstk]) q_3 hP hD
      have q_4 : fstk = (sk_stake sz fbal fstk (nI ia) n v) := by simp [rr_stake, ba_stake, sk_stake, mv_P, up_i, h_6, t_ia, h_14]
      obtain ⟨hP, hD⟩ := cs_W (fun z_z => [ob_J y 6 [.int 0, .int (nI hh), .int r0, .int r1, .int r2, .int r3, .ref mb, .int given, .int mrew, .int (nI sz), .ref mk, .ref mc, .ref ms, .ref md, .ref mf, .ref mst, .ref mth, .ref mdr, .ref mw, .ref msh, .ref mpo, .ref mpa, .ref mde, .ref mj], ar_I mb cI 10 (ba_stake sz fbal (nI ia) n v), ar_I mst cI 80 z_z]) q_4 hP hD
      exact re_I (w1 := fun u_u : Unit => [ob_J y 6 [.int 0, .int (nI hh), .int r0, .int r1, .int r2, .int r3, .ref mb, .int given, .int mrew, .int (nI sz), .ref mk, .ref mc, .ref ms, .ref md, .ref mf, .ref mst, .ref mth, .ref mdr, .ref mw, .ref msh, .ref mpo, .ref mpa, .ref mde, .ref mj], ar_I mb cI 10 (ba_stake sz fbal (nI ia) n v), ar_I mst cI 80 (sk_stake sz fbal fstk (nI ia) n v)]) (v := (-1)) hx hb hr hlk hK hS rfl () hP hD (show (-1) = rr_stake sz fbal fstk (nI ia) n v from by simp [rr_stake, ba_stake, sk_stake, mv_P, up_i, h_6, t_ia, h_14]) dX6_stake_33
    · rw [if_neg h_14] at w_14; subst w_14
      have h_14 := Decidable.not_not.mp h_14
      obtain ⟨jn, h_jn, rfl⟩ : ∃ z : Nat, z < sz ∧ n = nI z := ix_lt (by omega) h_14
      have t_jn := tn_nI (n := jn) (by omega)
      refine lv_if_ne (tgt := 32) hx hb dX6_stake_17 (by decide) (fun h9 => absurd (by decide) h9) (fun _ => ?_)
      refine lv_iload_n hx hb dX6_stake_20 rfl (lv_at hl 3 rfl) ?_
      refine lv_i2l (v := v.toInt64) hx hb dX6_stake_21 (rfl) ?_
      refine lv_lconst (v := (Int32.toInt64 1)) hx hb dX6_stake_22 (by decide) ?_
      refine lv_ldc2 hx hb hown (hts _ bw_488) dX6_stake_23 ?_
      refine tp_l (x' := (Int32.toInt64 1000000)) (by decide) ?_
      refine ca_SI (rest := []) (k_X6_in l D cI cJ cZ v 1 1000000 ) hx hb hml hown hts hN hK hA hP hD hS bw_483 bw_484 bw_7 bw_485 3 rfl (by decide +kernel) ⟨by decide, by decide⟩ hl.1 rfl (Nat.le_of_ble_eq_true rfl) dX6_stake_26 ⟨Nat.zero_le _, Nat.zero_le _⟩ (fun r_26 u_u H locs w_26 hP hD hS => ?_)
      have w_26 : r_26 = if 1 ≤ v ∧ v ≤ 1000000 then 1 else 0 := w_26
      by_cases h_26 : 1 ≤ v ∧ v ≤ 1000000
      · rw [if_pos h_26] at w_26; subst w_26
        refine lv_if_ne (tgt := 34) hx hb dX6_stake_29 (by decide) (fun _ => ?_) (fun h9 => absurd h9 (by decide))
        refine lv_aload_n hx hb dX6_stake_34 rfl (lv_at hl 0 rfl) ?_
        refine va_get (ci := 6) (v := .ref mb) (C := RX6) (T := TX6) (N := 24) hx hb hts bi_6 hown hK hP 0 rfl rfl 6 (by decide) (hts _ bw_411) (fun _ h9 => h9) rfl dX6_stake_35 ?_
        refine lv_iload_n hx hb dX6_stake_38 rfl (lv_at hl 1 rfl) ?_
        refine ar_ld hx hb hK hP 1 (k := ia) rfl rfl (by omega) (by decide) dX6_stake_39 ?_
        refine lv_iload_n hx hb dX6_stake_40 rfl (lv_at hl 3 rfl) ?_
        refine lv_icmp_ge (tgt := 47) hx hb dX6_stake_41 (by decide) (fun c_41 => ?_) (fun c_41 => ?_)
        · refine lv_aload_n hx hb dX6_stake_47 rfl (lv_at hl 0 rfl) ?_
          refine va_get (ci := 6) (v := .ref mb) (C := RX6) (T := TX6) (N := 24) hx hb hts bi_6 hown hK hP 0 rfl rfl 6 (by decide) (hts _ bw_411) (fun _ h9 => h9) rfl dX6_stake_48 ?_
          refine lv_iload_n hx hb dX6_stake_51 rfl (lv_at hl 1 rfl) ?_
          refine lv_aload_n hx hb dX6_stake_52 rfl (lv_at hl 0 rfl) ?_
          refine va_get (ci := 6) (v := .ref mb) (C := RX6) (T := TX6) (N := 24) hx hb hts bi_6 hown hK hP 0 rfl rfl 6 (by decide) (hts _ bw_411) (fun _ h9 => h9) rfl dX6_stake_53 ?_
          refine lv_iload_n hx hb dX6_stake_56 rfl (lv_at hl 1 rfl) ?_
          refine ar_ld hx hb hK hP 1 (k := ia) rfl rfl (by omega) (by decide) dX6_stake_57 ?_
          refine lv_iload_n hx hb dX6_stake_58 rfl (lv_at hl 3 rfl) ?_
          refine lv_isub hx hb dX6_stake_59 ?_
          refine ar_st hx hb hK hP hD hS 1 (k := ia) rfl rfl (by omega) (by decide) dX6_stake_60 _ rfl (fun H locs hP hD hS => ?_)
          have hP : va_P D cl_A [ob_J y 6 [.int 0, .int (nI hh), .int r0, .int r1, .int r2, .int r3, .ref mb, .int given, .int mrew, .int (nI sz), .ref mk, .ref mc, .ref ms, .ref md, .ref mf, .ref mst, .ref mth, .ref mdr, .ref mw, .ref msh, .ref mpo, .ref mpa, .ref mde, .ref mj], ar_I mb cI 10 (upd fbal ia ((fbal ia) - v)), ar_I mst cI 80 fstk] H := hP
          have hD : va_D A [ob_J y 6 [.int 0, .int (nI hh), .int r0, .int r1, .int r2, .int r3, .ref mb, .int given, .int mrew, .int (nI sz), .ref mk, .ref mc, .ref ms, .ref md, .ref mf, .ref mst, .ref mth, .ref mdr, .ref mw, .ref msh, .ref mpo, .ref mpa, .ref mde, .ref mj], ar_I mb cI 10 (upd fbal ia ((fbal ia) - v)), ar_I mst cI 80 fstk] := hD
          refine lv_aload_n hx hb dX6_stake_61 rfl (lv_at hl 0 rfl) ?_
          refine va_get (ci := 6) (v := .ref mst) (C := RX6) (T := TX6) (N := 24) hx hb hts bi_6 hown hK hP 0 rfl rfl 15 (by decide) (hts _ bw_420) (fun _ h9 => h9) rfl dX6_stake_62 ?_
          refine lv_bipush (v := 10) hx hb dX6_stake_65 (by decide) ?_
          refine lv_iload_n hx hb dX6_stake_67 rfl (lv_at hl 2 rfl) ?_
          refine lv_imul hx hb dX6_stake_68 ?_
          refine tp_i (x' := nI (jn * 10)) (nn_mulc rfl rfl) ?_
          refine lv_iload_n hx hb dX6_stake_69 rfl (lv_at hl 1 rfl) ?_
          refine lv_iadd hx hb dX6_stake_70 ?_
          refine tp_i (x' := nI ((jn * 10) + ia)) (nn_add rfl rfl) ?_
          refine lv_aload_n hx hb dX6_stake_71 rfl (lv_at hl 0 rfl) ?_
          refine va_get (ci := 6) (v := .ref mst) (C := RX6) (T := TX6) (N := 24) hx hb hts bi_6 hown hK hP 0 rfl rfl 15 (by decide) (hts _ bw_420) (fun _ h9 => h9) rfl dX6_stake_72 ?_
          refine lv_bipush (v := 10) hx hb dX6_stake_75 (by decide) ?_
          refine lv_iload_n hx hb dX6_stake_77 rfl (lv_at hl 2 rfl) ?_
          refine lv_imul hx hb dX6_stake_78 ?_
          refine tp_i (x' := nI (jn * 10)) (nn_mulc rfl rfl) ?_
          refine lv_iload_n hx hb dX6_stake_79 rfl (lv_at hl 1 rfl) ?_
          refine lv_iadd hx hb dX6_stake_80 ?_
          refine tp_i (x' := nI ((jn * 10) + ia)) (nn_add rfl rfl) ?_
          refine ar_ld hx hb hK hP 2 (k := (jn * 10) + ia) rfl rfl (by omega) (by decide) dX6_stake_81 ?_
          refine lv_iload_n hx hb dX6_stake_82 rfl (lv_at hl 3 rfl) ?_
          refine lv_iadd hx hb dX6_stake_83 ?_
          refine ar_st hx hb hK hP hD hS 2 (k := (jn * 10) + ia) rfl rfl (by omega) (by decide) dX6_stake_84 _ rfl (fun H locs hP hD hS => ?_)
          have hP : va_P D cl_A [ob_J y 6 [.int 0, .int (nI hh), .int r0, .int r1, .int r2, .int r3, .ref mb, .int given, .int mrew, .int (nI sz), .ref mk, .ref mc, .ref ms, .ref md, .ref mf, .ref mst, .ref mth, .ref mdr, .ref mw, .ref msh, .ref mpo, .ref mpa, .ref mde, .ref mj], ar_I mb cI 10 (upd fbal ia ((fbal ia) - v)), ar_I mst cI 80 (upd fstk ((jn * 10) + ia) ((fstk ((jn * 10) + ia)) + v))] H := hP
          have hD : va_D A [ob_J y 6 [.int 0, .int (nI hh), .int r0, .int r1, .int r2, .int r3, .ref mb, .int given, .int mrew, .int (nI sz), .ref mk, .ref mc, .ref ms, .ref md, .ref mf, .ref mst, .ref mth, .ref mdr, .ref mw, .ref msh, .ref mpo, .ref mpa, .ref mde, .ref mj], ar_I mb cI 10 (upd fbal ia ((fbal ia) - v)), ar_I mst cI 80 (upd fstk ((jn * 10) + ia) ((fstk ((jn * 10) + ia)) + v))] := hD
          refine lv_aload_n hx hb dX6_stake_85 rfl (lv_at hl 0 rfl) ?_
          refine va_get (ci := 6) (v := .ref mst) (C := RX6) (T := TX6) (N := 24) hx hb hts bi_6 hown hK hP 0 rfl rfl 15 (by decide) (hts _ bw_420) (fun _ h9 => h9) rfl dX6_stake_86 ?_
          refine lv_bipush (v := 10) hx hb dX6_stake_89 (by decide) ?_
          refine lv_iload_n hx hb dX6_stake_91 rfl (lv_at hl 2 rfl) ?_
          refine lv_imul hx hb dX6_stake_92 ?_
          refine tp_i (x' := nI (jn * 10)) (nn_mulc rfl rfl) ?_
          refine lv_iload_n hx hb dX6_stake_93 rfl (lv_at hl 1 rfl) ?_
          refine lv_iadd hx hb dX6_stake_94 ?_
          refine tp_i (x' := nI ((jn * 10) + ia)) (nn_add rfl rfl) ?_
          refine ar_ld hx hb hK hP 2 (k := (jn * 10) + ia) rfl rfl (by omega) (by decide) dX6_stake_95 ?_
          have q_5 : (upd fbal ia ((fbal ia) - v)) = (ba_stake sz fbal (nI ia) (nI jn) v) := by simp [rr_stake, ba_stake, sk_stake, mv_P, up_i, h_6, t_ia, h_14, t_jn, h_26, c_41]
          obtain ⟨hP, hD⟩ := cs_W (fun z_z => [ob_J y 6 [.int 0, .int (nI hh), .int r0, .int r1, .int r2, .int r3, .ref mb, .int given, .int mrew, .int (nI sz), .ref mk, .ref mc, .ref ms, .ref md, .ref mf, .ref mst, .ref mth, .ref mdr, .ref mw, .ref msh, .ref mpo, .ref mpa, .ref mde, .ref mj], ar_I mb cI 10 z_z, ar_I mst cI 80 (upd fstk ((jn * 10) + ia) ((fstk ((jn * 10) + ia)) + v))]) q_5 hP hD
          have q_6 : (upd fstk ((jn * 10) + ia) ((fstk ((jn * 10) + ia)) + v)) = (sk_stake sz fbal fstk (nI ia) (nI jn) v) := by simp [rr_stake, ba_stake, sk_stake, mv_P, up_i, h_6, t_ia, h_14, t_jn, h_26, c_41]
          obtain ⟨hP, hD⟩ := cs_W (fun z_z => [ob_J y 6 [.int 0, .int (nI hh), .int r0, .int r1, .int r2, .int r3, .ref mb, .int given, .int mrew, .int (nI sz), .ref mk, .ref mc, .ref ms, .ref md, .ref mf, .ref mst, .ref mth, .ref mdr, .ref mw, .ref msh, .ref mpo, .ref mpa, .ref mde, .ref mj], ar_I mb cI 10 (ba_stake sz fbal (nI ia) (nI jn) v), ar_I mst cI 80 z_z]) q_6 hP hD
          exact re_I (w1 := fun u_u : Unit => [ob_J y 6 [.int 0, .int (nI hh), .int r0, .int r1, .int r2, .int r3, .ref mb, .int given, .int mrew, .int (nI sz), .ref mk, .ref mc, .ref ms, .ref md, .ref mf, .ref mst, .ref mth, .ref mdr, .ref mw, .ref msh, .ref mpo, .ref mpa, .ref mde, .ref mj], ar_I mb cI 10 (ba_stake sz fbal (nI ia) (nI jn) v), ar_I mst cI 80 (sk_stake sz fbal fstk (nI ia) (nI jn) v)]) (v := (upd fstk ((jn * 10) + ia) ((fstk ((jn * 10) + ia)) + v)) ((jn * 10) + ia)) hx hb hr hlk hK hS rfl () hP hD (show ((upd fstk ((jn * 10) + ia) ((fstk ((jn * 10) + ia)) + v)) ((jn * 10) + ia)) = rr_stake sz fbal fstk (nI ia) (nI jn) v from by simp [rr_stake, ba_stake, sk_stake, mv_P, up_i, h_6, t_ia, h_14, t_jn, h_26, c_41]) dX6_stake_96
        · refine lv_bipush (v := (-3)) hx hb dX6_stake_44 (by decide) ?_
          have q_7 : fbal = (ba_stake sz fbal (nI ia) (nI jn) v) := by simp [rr_stake, ba_stake, sk_stake, mv_P, up_i, h_6, t_ia, h_14, t_jn, h_26, c_41]
          obtain ⟨hP, hD⟩ := cs_W (fun z_z => [ob_J y 6 [.int 0, .int (nI hh), .int r0, .int r1, .int r2, .int r3, .ref mb, .int given, .int mrew, .int (nI sz), .ref mk, .ref mc, .ref ms, .ref md, .ref mf, .ref mst, .ref mth, .ref mdr, .ref mw, .ref msh, .ref mpo, .ref mpa, .ref mde, .ref mj], ar_I mb cI 10 z_z, ar_I mst cI 80 fstk]) q_7 hP hD
          have q_8 : fstk = (sk_stake sz fbal fstk (nI ia) (nI jn) v) := by simp [rr_stake, ba_stake, sk_stake, mv_P, up_i, h_6, t_ia, h_14, t_jn, h_26, c_41]
          obtain ⟨hP, hD⟩ := cs_W (fun z_z => [ob_J y 6 [.int 0, .int (nI hh), .int r0, .int r1, .int r2, .int r3, .ref mb, .int given, .int mrew, .int (nI sz), .ref mk, .ref mc, .ref ms, .ref md, .ref mf, .ref mst, .ref mth, .ref mdr, .ref mw, .ref msh, .ref mpo, .ref mpa, .ref mde, .ref mj], ar_I mb cI 10 (ba_stake sz fbal (nI ia) (nI jn) v), ar_I mst cI 80 z_z]) q_8 hP hD
          exact re_I (w1 := fun u_u : Unit => [ob_J y 6 [.int 0, .int (nI hh), .int r0, .int r1, .int r2, .int r3, .ref mb, .int given, .int mrew, .int (nI sz), .ref mk, .ref mc, .ref ms, .ref md, .ref mf, .ref mst, .ref mth, .ref mdr, .ref mw, .ref msh, .ref mpo, .ref mpa, .ref mde, .ref mj], ar_I mb cI 10 (ba_stake sz fbal (nI ia) (nI jn) v), ar_I mst cI 80 (sk_stake sz fbal fstk (nI ia) (nI jn) v)]) (v := (-3)) hx hb hr hlk hK hS rfl () hP hD (show (-3) = rr_stake sz fbal fstk (nI ia) (nI jn) v from by simp [rr_stake, ba_stake, sk_stake, mv_P, up_i, h_6, t_ia, h_14, t_jn, h_26, c_41]) dX6_stake_46
      · rw [if_neg h_26] at w_26; subst w_26
        refine lv_if_ne (tgt := 34) hx hb dX6_stake_29 (by decide) (fun h9 => absurd (by decide) h9) (fun _ => ?_)
        refine lv_iconst (v := (-1)) hx hb dX6_stake_32 (by decide) ?_
        have q_9 : fbal = (ba_stake sz fbal (nI ia) (nI jn) v) := by simp [rr_stake, ba_stake, sk_stake, mv_P, up_i, h_6, t_ia, h_14, t_jn, h_26]
        obtain ⟨hP, hD⟩ := cs_W (fun z_z => [ob_J y 6 [.int 0, .int (nI hh), .int r0, .int r1, .int r2, .int r3, .ref mb, .int given, .int mrew, .int (nI sz), .ref mk, .ref mc, .ref ms, .ref md, .ref mf, .ref mst, .ref mth, .ref mdr, .ref mw, .ref msh, .ref mpo, .ref mpa, .ref mde, .ref mj], ar_I mb cI 10 z_z, ar_I mst cI 80 fstk]) q_9 hP hD
        have q_10 : fstk = (sk_stake sz fbal fstk (nI ia) (nI jn) v) := by simp [rr_stake, ba_stake, sk_stake, mv_P, up_i, h_6, t_ia, h_14, t_jn, h_26]
        obtain ⟨hP, hD⟩ := cs_W (fun z_z => [ob_J y 6 [.int 0, .int (nI hh), .int r0, .int r1, .int r2, .int r3, .ref mb, .int given, .int mrew, .int (nI sz), .ref mk, .ref mc, .ref ms, .ref md, .ref mf, .ref mst, .ref mth, .ref mdr, .ref mw, .ref msh, .ref mpo, .ref mpa, .ref mde, .ref mj], ar_I mb cI 10 (ba_stake sz fbal (nI ia) (nI jn) v), ar_I mst cI 80 z_z]) q_10 hP hD
        exact re_I (w1 := fun u_u : Unit => [ob_J y 6 [.int 0, .int (nI hh), .int r0, .int r1, .int r2, .int r3, .ref mb, .int given, .int mrew, .int (nI sz), .ref mk, .ref mc, .ref ms, .ref md, .ref mf, .ref mst, .ref mth, .ref mdr, .ref mw, .ref msh, .ref mpo, .ref mpa, .ref mde, .ref mj], ar_I mb cI 10 (ba_stake sz fbal (nI ia) (nI jn) v), ar_I mst cI 80 (sk_stake sz fbal fstk (nI ia) (nI jn) v)]) (v := (-1)) hx hb hr hlk hK hS rfl () hP hD (show (-1) = rr_stake sz fbal fstk (nI ia) (nI jn) v from by simp [rr_stake, ba_stake, sk_stake, mv_P, up_i, h_6, t_ia, h_14, t_jn, h_26]) dX6_stake_33

set_option maxHeartbeats 4000000 in
set_option maxRecDepth 100000 in
theorem k_X6_draw (l : Launch) (D : va_G) (cI cJ cZ : ClassId) (y : Nat) (mst : Nat) (mdr : Nat) (mf : Nat) (th : Int32) (hh : Nat) (r0 : Int32) (r1 : Int32) (r2 : Int32) (r3 : Int32) (mb : Nat) (given : Int32) (mrew : Int32) (sz : Nat) (mk : Nat) (mc : Nat) (ms : Nat) (md : Nat) (mth : Nat) (mw : Nat) (msh : Nat) (mpo : Nat) (mpa : Nat) (mde : Nat) (mj : Nat) (fstk : Nat → Int32) (fdue : Nat → Int32) (ffz : Nat → Int32) (a : Int32) (n : Int32) (v : Int32) (w_ : Nat) (hsz : sz ≤ 8) (hhh : hh ≤ 100) (hw : r0 = nI w_) (hw9 : w_ ≤ 9) : mt_I l yX6_draw cX6_draw 4 .int 2 46 D cI cJ cZ [ob_J y 6 [.int th, .int (nI hh), .int r0, .int r1, .int r2, .int r3, .ref mb, .int given, .int mrew, .int (nI sz), .ref mk, .ref mc, .ref ms, .ref md, .ref mf, .ref mst, .ref mth, .ref mdr, .ref mw, .ref msh, .ref mpo, .ref mpa, .ref mde, .ref mj], ar_I mst cI 80 fstk, ar_I mdr cI 1100 fdue, ar_I mf cZ 8 ffz] [.ref y, .int a, .int n, .int v] (fun r (u_u : Unit) => r = rr_draw sz fstk ffz a n v) (fun u_u : Unit => [ob_J y 6 [.int 0, .int (nI hh), .int r0, .int r1, .int r2, .int r3, .ref mb, .int given, .int mrew, .int (nI sz), .ref mk, .ref mc, .ref ms, .ref md, .ref mf, .ref mst, .ref mth, .ref mdr, .ref mw, .ref msh, .ref mpo, .ref mpa, .ref mde, .ref mj], ar_I mst cI 80 (sk_draw sz fstk ffz a n v), ar_I mdr cI 1100 (du_draw hh w_ sz fstk ffz fdue a n v), ar_I mf cZ 8 ffz]) := by
  refine en_I (by decide) (Nat.le_of_ble_eq_true rfl) ?_
  intro p e s m below meth c A ls H locs hx hb hr hml hts hown hlk hN hK hA hP hD hS hl
  have hown : s.vm.findClass RX6 = some m.cls := hown
  have hl : lv_has ls 4 [(0, .ref y), (1, .int a), (2, .int n), (3, .int v)] := hl
  refine lv_aload_n hx hb dX6_draw_0 rfl (lv_at hl 0 rfl) ?_
  refine lv_iconst (v := 0) hx hb dX6_draw_1 (by decide) ?_
  refine va_put (ci := 6) (v := .int 0) (ty := .int) (C := RX6) (T := TX6) (N := 24) hx hb hts bi_6 tyX6 tyX6_ok nmX6 hown hK hP hD hS 0 rfl rfl 0 (by decide) (hts _ bw_405) (fun _ h9 => h9) rfl (by decide +kernel) rfl rfl (Nat.le_of_ble_eq_true rfl) dX6_draw_2 (fun H locs hP hD hS => ?_)
  have hP : va_P D cl_A [ob_J y 6 [.int 0, .int (nI hh), .int r0, .int r1, .int r2, .int r3, .ref mb, .int given, .int mrew, .int (nI sz), .ref mk, .ref mc, .ref ms, .ref md, .ref mf, .ref mst, .ref mth, .ref mdr, .ref mw, .ref msh, .ref mpo, .ref mpa, .ref mde, .ref mj], ar_I mst cI 80 fstk, ar_I mdr cI 1100 fdue, ar_I mf cZ 8 ffz] H := hP
  have hD : va_D A [ob_J y 6 [.int 0, .int (nI hh), .int r0, .int r1, .int r2, .int r3, .ref mb, .int given, .int mrew, .int (nI sz), .ref mk, .ref mc, .ref ms, .ref md, .ref mf, .ref mst, .ref mth, .ref mdr, .ref mw, .ref msh, .ref mpo, .ref mpa, .ref mde, .ref mj], ar_I mst cI 80 fstk, ar_I mdr cI 1100 fdue, ar_I mf cZ 8 ffz] := hD
  refine lv_iload_n hx hb dX6_draw_5 rfl (lv_at hl 1 rfl) ?_
  refine ca_SI (rest := []) (k_X6_noAccount l D cI cJ cZ a ) hx hb hml hown hts hN hK hA hP hD hS bw_493 bw_494 bw_7 bw_495 1 rfl (by decide +kernel) ⟨by decide, by decide⟩ hl.1 rfl (Nat.le_of_ble_eq_true rfl) dX6_draw_6 ⟨Nat.zero_le _, Nat.zero_le _⟩ (fun r_6 u_u H locs w_6 hP hD hS => ?_)
  have w_6 : r_6 = if ¬ (0 ≤ a ∧ a ≤ 9) then 1 else 0 := w_6
  by_cases h_6 : ¬ (0 ≤ a ∧ a ≤ 9)
  · rw [if_pos h_6] at w_6; subst w_6
    refine lv_if_ne (tgt := 32) hx hb dX6_draw_9 (by decide) (fun _ => ?_) (fun h9 => absurd h9 (by decide))
    refine lv_iconst (v := (-1)) hx hb dX6_draw_32 (by decide) ?_
    have q_1 : fstk = (sk_draw sz fstk ffz a n v) := by simp [rr_draw, sk_draw, du_draw, dr_P, mv_P, up_i, h_6]
    obtain ⟨hP, hD⟩ := cs_W (fun z_z => [ob_J y 6 [.int 0, .int (nI hh), .int r0, .int r1, .int r2, .int r3, .ref mb, .int given, .int mrew, .int (nI sz), .ref mk, .ref mc, .ref ms, .ref md, .ref mf, .ref mst, .ref mth, .ref mdr, .ref mw, .ref msh, .ref mpo, .ref mpa, .ref mde, .ref mj], ar_I mst cI 80 z_z, ar_I mdr cI 1100 fdue, ar_I mf cZ 8 ffz]) q_1 hP hD
    have q_2 : fdue = (du_draw hh w_ sz fstk ffz fdue a n v) := by simp [rr_draw, sk_draw, du_draw, dr_P, mv_P, up_i, h_6]
    obtain ⟨hP, hD⟩ := cs_W (fun z_z => [ob_J y 6 [.int 0, .int (nI hh), .int r0, .int r1, .int r2, .int r3, .ref mb, .int given, .int mrew, .int (nI sz), .ref mk, .ref mc, .ref ms, .ref md, .ref mf, .ref mst, .ref mth, .ref mdr, .ref mw, .ref msh, .ref mpo, .ref mpa, .ref mde, .ref mj], ar_I mst cI 80 (sk_draw sz fstk ffz a n v), ar_I mdr cI 1100 z_z, ar_I mf cZ 8 ffz]) q_2 hP hD
    exact re_I (w1 := fun u_u : Unit => [ob_J y 6 [.int 0, .int (nI hh), .int r0, .int r1, .int r2, .int r3, .ref mb, .int given, .int mrew, .int (nI sz), .ref mk, .ref mc, .ref ms, .ref md, .ref mf, .ref mst, .ref mth, .ref mdr, .ref mw, .ref msh, .ref mpo, .ref mpa, .ref mde, .ref mj], ar_I mst cI 80 (sk_draw sz fstk ffz a n v), ar_I mdr cI 1100 (du_draw hh w_ sz fstk ffz fdue a n v), ar_I mf cZ 8 ffz]) (v := (-1)) hx hb hr hlk hK hS rfl () hP hD (show (-1) = rr_draw sz fstk ffz a n v from by simp [rr_draw, sk_draw, du_draw, dr_P, mv_P, up_i, h_6]) dX6_draw_33
  · rw [if_neg h_6] at w_6; subst w_6
    have h_6 := Decidable.not_not.mp h_6
    obtain ⟨ia, h_ia, rfl⟩ : ∃ z : Nat, z < 10 ∧ a = nI z := ix_le (by decide) h_6
    have t_ia := tn_nI (n := ia) (by omega)
    refine lv_if_ne (tgt := 32) hx hb dX6_draw_9 (by decide) (fun h9 => absurd (by decide) h9) (fun _ => ?_)
    refine lv_aload_n hx hb dX6_draw_12 rfl (lv_at hl 0 rfl) ?_
    refine lv_iload_n hx hb dX6_draw_13 rfl (lv_at hl 2 rfl) ?_
    refine ca_VI (rest := []) (wr := [ar_I mst cI 80 fstk, ar_I mdr cI 1100 fdue, ar_I mf cZ 8 ffz]) (w2 := fun u_u => [ob_J y 6 [.int 0, .int (nI hh), .int r0, .int r1, .int r2, .int r3, .ref mb, .int given, .int mrew, .int (nI sz), .ref mk, .ref mc, .ref ms, .ref md, .ref mf, .ref mst, .ref mth, .ref mdr, .ref mw, .ref msh, .ref mpo, .ref mpa, .ref mde, .ref mj], ar_I mst cI 80 fstk, ar_I mdr cI 1100 fdue, ar_I mf cZ 8 ffz]) (k_X6_noNode l D cI cJ cZ y 0 hh r0 r1 r2 r3 mb given mrew sz mk mc ms md mf mst mth mdr mw msh mpo mpa mde mj n (by first | assumption | omega)) hx hb hml hown hts hN hK hA hP hD hS 6 0 rfl rfl bw_506 bw_508 bs_8 bw_7 bw_509 1 rfl (by decide +kernel) ⟨by decide, by decide⟩ [0] [1, 2, 3] [3, 0, 1, 2] rfl rfl (by decide) (fun _ => rfl) hl.1 rfl (Nat.le_of_ble_eq_true rfl) dX6_draw_14 ⟨Nat.zero_le _, Nat.zero_le _⟩ (fun r_14 u_u H locs w_14 hP hD hS => ?_)
    have hP : va_P D cl_A [ob_J y 6 [.int 0, .int (nI hh), .int r0, .int r1, .int r2, .int r3, .ref mb, .int given, .int mrew, .int (nI sz), .ref mk, .ref mc, .ref ms, .ref md, .ref mf, .ref mst, .ref mth, .ref mdr, .ref mw, .ref msh, .ref mpo, .ref mpa, .ref mde, .ref mj], ar_I mst cI 80 fstk, ar_I mdr cI 1100 fdue, ar_I mf cZ 8 ffz] H := hP
    have hD : va_D A [ob_J y 6 [.int 0, .int (nI hh), .int r0, .int r1, .int r2, .int r3, .ref mb, .int given, .int mrew, .int (nI sz), .ref mk, .ref mc, .ref ms, .ref md, .ref mf, .ref mst, .ref mth, .ref mdr, .ref mw, .ref msh, .ref mpo, .ref mpa, .ref mde, .ref mj], ar_I mst cI 80 fstk, ar_I mdr cI 1100 fdue, ar_I mf cZ 8 ffz] := hD
    have w_14 : r_14 = if ¬ (0 ≤ n ∧ n < nI sz) then 1 else 0 := w_14
    by_cases h_14 : ¬ (0 ≤ n ∧ n < nI sz)
    · rw [if_pos h_14] at w_14; subst w_14
      refine lv_if_ne (tgt := 32) hx hb dX6_draw_17 (by decide) (fun _ => ?_) (fun h9 => absurd h9 (by decide))
      refine lv_iconst (v := (-1)) hx hb dX6_draw_32 (by decide) ?_
      have q_3 : fstk = (sk_draw sz fstk ffz (nI ia) n v) := by simp [rr_draw, sk_draw, du_draw, dr_P, mv_P, up_i, h_6, t_ia, h_14]
      obtain ⟨hP, hD⟩ := cs_W (fun z_z => [ob_J y 6 [.int 0, .int (nI hh), .int r0, .int r1, .int r2, .int r3, .ref mb, .int given, .int mrew, .int (nI sz), .ref mk, .ref mc, .ref ms, .ref md, .ref mf, .ref mst, .ref mth, .ref mdr, .ref mw, .ref msh, .ref mpo, .ref mpa, .ref mde, .ref mj], ar_I mst cI 80 z_z, ar_I mdr cI 1100 fdue, ar_I mf cZ 8 ffz]) q_3 hP hD
      have q_4 : fdue = (du_draw hh w_ sz fstk ffz fdue (nI ia) n v) := by simp [rr_draw, sk_draw, du_draw, dr_P, mv_P, up_i, h_6, t_ia, h_14]
      obtain ⟨hP, hD⟩ := cs_W (fun z_z => [ob_J y 6 [.int 0, .int (nI hh), .int r0, .int r1, .int r2, .int r3, .ref mb, .int given, .int mrew, .int (nI sz), .ref mk, .ref mc, .ref ms, .ref md, .ref mf, .ref mst, .ref mth, .ref mdr, .ref mw, .ref msh, .ref mpo, .ref mpa, .ref mde, .ref mj], ar_I mst cI 80 (sk_draw sz fstk ffz (nI ia) n v), ar_I mdr cI 1100 z_z, ar_I mf cZ 8 ffz]) q_4 hP hD
      exact re_I (w1 := fun u_u : Unit => [ob_J y 6 [.int 0, .int (nI hh), .int r0, .int r1, .int r2, .int r3, .ref mb, .int given, .int mrew, .int (nI sz), .ref mk, .ref mc, .ref ms, .ref md, .ref mf, .ref mst, .ref mth, .ref mdr, .ref mw, .ref msh, .ref mpo, .ref mpa, .ref mde, .ref mj], ar_I mst cI 80 (sk_draw sz fstk ffz (nI ia) n v), ar_I mdr cI 1100 (du_draw hh w_ sz fstk ffz fdue (nI ia) n v), ar_I mf cZ 8 ffz]) (v := (-1)) hx hb hr hlk hK hS rfl () hP hD (show (-1) = rr_draw sz fstk ffz (nI ia) n v from by simp [rr_draw, sk_draw, du_draw, dr_P, mv_P, up_i, h_6, t_ia, h_14]) dX6_draw_33
    · rw [if_neg h_14] at w_14; subst w_14
      have h_14 := Decidable.not_not.mp h_14
      obtain ⟨jn, h_jn, rfl⟩ : ∃ z : Nat, z < sz ∧ n = nI z := ix_lt (by omega) h_14
      have t_jn := tn_nI (n := jn) (by omega)
      refine lv_if_ne (tgt := 32) hx hb dX6_draw_17 (by decide) (fun h9 => absurd (by decide) h9) (fun _ => ?_)
      refine lv_iload_n hx hb dX6_draw_20 rfl (lv_at hl 3 rfl) ?_
      refine lv_i2l (v := v.toInt64) hx hb dX6_draw_21 (rfl) ?_
      refine lv_lconst (v := (Int32.toInt64 1)) hx hb dX6_draw_22 (by decide) ?_
      refine lv_ldc2 hx hb hown (hts _ bw_488) dX6_draw_23 ?_
      refine tp_l (x' := (Int32.toInt64 1000000)) (by decide) ?_
      refine ca_SI (rest := []) (k_X6_in l D cI cJ cZ v 1 1000000 ) hx hb hml hown hts hN hK hA hP hD hS bw_483 bw_484 bw_7 bw_485 3 rfl (by decide +kernel) ⟨by decide, by decide⟩ hl.1 rfl (Nat.le_of_ble_eq_true rfl) dX6_draw_26 ⟨Nat.zero_le _, Nat.zero_le _⟩ (fun r_26 u_u H locs w_26 hP hD hS => ?_)
      have w_26 : r_26 = if 1 ≤ v ∧ v ≤ 1000000 then 1 else 0 := w_26
      by_cases h_26 : 1 ≤ v ∧ v ≤ 1000000
      · rw [if_pos h_26] at w_26; subst w_26
        refine lv_if_ne (tgt := 34) hx hb dX6_draw_29 (by decide) (fun _ => ?_) (fun h9 => absurd h9 (by decide))
        refine lv_aload_n hx hb dX6_draw_34 rfl (lv_at hl 0 rfl) ?_
        refine va_get (ci := 6) (v := .ref mst) (C := RX6) (T := TX6) (N := 24) hx hb hts bi_6 hown hK hP 0 rfl rfl 15 (by decide) (hts _ bw_420) (fun _ h9 => h9) rfl dX6_draw_35 ?_
        refine lv_bipush (v := 10) hx hb dX6_draw_38 (by decide) ?_
        refine lv_iload_n hx hb dX6_draw_40 rfl (lv_at hl 2 rfl) ?_
        refine lv_imul hx hb dX6_draw_41 ?_
        refine tp_i (x' := nI (jn * 10)) (nn_mulc rfl rfl) ?_
        refine lv_iload_n hx hb dX6_draw_42 rfl (lv_at hl 1 rfl) ?_
        refine lv_iadd hx hb dX6_draw_43 ?_
        refine tp_i (x' := nI ((jn * 10) + ia)) (nn_add rfl rfl) ?_
        refine ar_ld hx hb hK hP 1 (k := (jn * 10) + ia) rfl rfl (by omega) (by decide) dX6_draw_44 ?_
        refine lv_iload_n hx hb dX6_draw_45 rfl (lv_at hl 3 rfl) ?_
        refine lv_icmp_ge (tgt := 52) hx hb dX6_draw_46 (by decide) (fun c_46 => ?_) (fun c_46 => ?_)
        · refine lv_aload_n hx hb dX6_draw_52 rfl (lv_at hl 0 rfl) ?_
          refine va_get (ci := 6) (v := .ref mf) (C := RX6) (T := TX6) (N := 24) hx hb hts bi_6 hown hK hP 0 rfl rfl 14 (by decide) (hts _ bw_419) (fun _ h9 => h9) rfl dX6_draw_53 ?_
          refine lv_iload_n hx hb dX6_draw_56 rfl (lv_at hl 2 rfl) ?_
          refine ar_zd hx hb hK hP 3 (k := jn) rfl rfl (by omega) (by decide) dX6_draw_57 ?_
          refine lv_if_eq (tgt := 64) hx hb dX6_draw_58 (by decide) (fun c_58 => ?_) (fun c_58 => ?_)
          · refine lv_aload_n hx hb dX6_draw_64 rfl (lv_at hl 0 rfl) ?_
            refine va_get (ci := 6) (v := .ref mst) (C := RX6) (T := TX6) (N := 24) hx hb hts bi_6 hown hK hP 0 rfl rfl 15 (by decide) (hts _ bw_420) (fun _ h9 => h9) rfl dX6_draw_65 ?_
            refine lv_bipush (v := 10) hx hb dX6_draw_68 (by decide) ?_
            refine lv_iload_n hx hb dX6_draw_70 rfl (lv_at hl 2 rfl) ?_
            refine lv_imul hx hb dX6_draw_71 ?_
            refine tp_i (x' := nI (jn * 10)) (nn_mulc rfl rfl) ?_
            refine lv_iload_n hx hb dX6_draw_72 rfl (lv_at hl 1 rfl) ?_
            refine lv_iadd hx hb dX6_draw_73 ?_
            refine tp_i (x' := nI ((jn * 10) + ia)) (nn_add rfl rfl) ?_
            refine lv_aload_n hx hb dX6_draw_74 rfl (lv_at hl 0 rfl) ?_
            refine va_get (ci := 6) (v := .ref mst) (C := RX6) (T := TX6) (N := 24) hx hb hts bi_6 hown hK hP 0 rfl rfl 15 (by decide) (hts _ bw_420) (fun _ h9 => h9) rfl dX6_draw_75 ?_
            refine lv_bipush (v := 10) hx hb dX6_draw_78 (by decide) ?_
            refine lv_iload_n hx hb dX6_draw_80 rfl (lv_at hl 2 rfl) ?_
            refine lv_imul hx hb dX6_draw_81 ?_
            refine tp_i (x' := nI (jn * 10)) (nn_mulc rfl rfl) ?_
            refine lv_iload_n hx hb dX6_draw_82 rfl (lv_at hl 1 rfl) ?_
            refine lv_iadd hx hb dX6_draw_83 ?_
            refine tp_i (x' := nI ((jn * 10) + ia)) (nn_add rfl rfl) ?_
            refine ar_ld hx hb hK hP 1 (k := (jn * 10) + ia) rfl rfl (by omega) (by decide) dX6_draw_84 ?_
            refine lv_iload_n hx hb dX6_draw_85 rfl (lv_at hl 3 rfl) ?_
            refine lv_isub hx hb dX6_draw_86 ?_
            refine ar_st hx hb hK hP hD hS 1 (k := (jn * 10) + ia) rfl rfl (by omega) (by decide) dX6_draw_87 _ rfl (fun H locs hP hD hS => ?_)
            have hP : va_P D cl_A [ob_J y 6 [.int 0, .int (nI hh), .int r0, .int r1, .int r2, .int r3, .ref mb, .int given, .int mrew, .int (nI sz), .ref mk, .ref mc, .ref ms, .ref md, .ref mf, .ref mst, .ref mth, .ref mdr, .ref mw, .ref msh, .ref mpo, .ref mpa, .ref mde, .ref mj], ar_I mst cI 80 (upd fstk ((jn * 10) + ia) ((fstk ((jn * 10) + ia)) - v)), ar_I mdr cI 1100 fdue, ar_I mf cZ 8 ffz] H := hP
            have hD : va_D A [ob_J y 6 [.int 0, .int (nI hh), .int r0, .int r1, .int r2, .int r3, .ref mb, .int given, .int mrew, .int (nI sz), .ref mk, .ref mc, .ref ms, .ref md, .ref mf, .ref mst, .ref mth, .ref mdr, .ref mw, .ref msh, .ref mpo, .ref mpa, .ref mde, .ref mj], ar_I mst cI 80 (upd fstk ((jn * 10) + ia) ((fstk ((jn * 10) + ia)) - v)), ar_I mdr cI 1100 fdue, ar_I mf cZ 8 ffz] := hD
            refine lv_aload_n hx hb dX6_draw_88 rfl (lv_at hl 0 rfl) ?_
            refine va_get (ci := 6) (v := .ref mdr) (C := RX6) (T := TX6) (N := 24) hx hb hts bi_6 hown hK hP 0 rfl rfl 17 (by decide) (hts _ bw_422) (fun _ h9 => h9) rfl dX6_draw_89 ?_
            refine lv_bipush (v := 110) hx hb dX6_draw_92 (by decide) ?_
            refine lv_iload_n hx hb dX6_draw_94 rfl (lv_at hl 1 rfl) ?_
            refine lv_imul hx hb dX6_draw_95 ?_
            refine tp_i (x' := nI (ia * 110)) (nn_mulc rfl rfl) ?_
            refine lv_aload_n hx hb dX6_draw_96 rfl (lv_at hl 0 rfl) ?_
            refine va_get (ci := 6) (v := .int (nI hh)) (C := RX6) (T := TX6) (N := 24) hx hb hts bi_6 hown hK hP 0 rfl rfl 1 (by decide) (hts _ bw_406) (fun _ h9 => h9) rfl dX6_draw_97 ?_
            refine lv_iadd hx hb dX6_draw_100 ?_
            refine tp_i (x' := nI ((ia * 110) + hh)) (nn_add rfl rfl) ?_
            refine lv_aload_n hx hb dX6_draw_101 rfl (lv_at hl 0 rfl) ?_
            refine va_get (ci := 6) (v := .int r0) (C := RX6) (T := TX6) (N := 24) hx hb hts bi_6 hown hK hP 0 rfl rfl 2 (by decide) (hts _ bw_407) (fun _ h9 => h9) rfl dX6_draw_102 ?_
            refine tp_i (x' := nI w_) (hw) ?_
            refine lv_iadd hx hb dX6_draw_105 ?_
            refine tp_i (x' := nI (((ia * 110) + hh) + w_)) (nn_add rfl rfl) ?_
            refine tp_i (x' := nI (ia * 110 + (hh + w_))) (congrArg nI (Nat.add_assoc _ _ _)) ?_
            refine lv_aload_n hx hb dX6_draw_106 rfl (lv_at hl 0 rfl) ?_
            refine va_get (ci := 6) (v := .ref mdr) (C := RX6) (T := TX6) (N := 24) hx hb hts bi_6 hown hK hP 0 rfl rfl 17 (by decide) (hts _ bw_422) (fun _ h9 => h9) rfl dX6_draw_107 ?_
            refine lv_bipush (v := 110) hx hb dX6_draw_110 (by decide) ?_
            refine lv_iload_n hx hb dX6_draw_112 rfl (lv_at hl 1 rfl) ?_
            refine lv_imul hx hb dX6_draw_113 ?_
            refine tp_i (x' := nI (ia * 110)) (nn_mulc rfl rfl) ?_
            refine lv_aload_n hx hb dX6_draw_114 rfl (lv_at hl 0 rfl) ?_
            refine va_get (ci := 6) (v := .int (nI hh)) (C := RX6) (T := TX6) (N := 24) hx hb hts bi_6 hown hK hP 0 rfl rfl 1 (by decide) (hts _ bw_406) (fun _ h9 => h9) rfl dX6_draw_115 ?_
            refine lv_iadd hx hb dX6_draw_118 ?_
            refine tp_i (x' := nI ((ia * 110) + hh)) (nn_add rfl rfl) ?_
            refine lv_aload_n hx hb dX6_draw_119 rfl (lv_at hl 0 rfl) ?_
            refine va_get (ci := 6) (v := .int r0) (C := RX6) (T := TX6) (N := 24) hx hb hts bi_6 hown hK hP 0 rfl rfl 2 (by decide) (hts _ bw_407) (fun _ h9 => h9) rfl dX6_draw_120 ?_
            refine tp_i (x' := nI w_) (hw) ?_
            refine lv_iadd hx hb dX6_draw_123 ?_
            refine tp_i (x' := nI (((ia * 110) + hh) + w_)) (nn_add rfl rfl) ?_
            refine tp_i (x' := nI (ia * 110 + (hh + w_))) (congrArg nI (Nat.add_assoc _ _ _)) ?_
            refine ar_ld hx hb hK hP 2 (k := ia * 110 + (hh + w_)) rfl rfl (by omega) (by decide) dX6_draw_124 ?_
            refine lv_iload_n hx hb dX6_draw_125 rfl (lv_at hl 3 rfl) ?_
            refine lv_iadd hx hb dX6_draw_126 ?_
            refine ar_st hx hb hK hP hD hS 2 (k := ia * 110 + (hh + w_)) rfl rfl (by omega) (by decide) dX6_draw_127 _ rfl (fun H locs hP hD hS => ?_)
            have hP : va_P D cl_A [ob_J y 6 [.int 0, .int (nI hh), .int r0, .int r1, .int r2, .int r3, .ref mb, .int given, .int mrew, .int (nI sz), .ref mk, .ref mc, .ref ms, .ref md, .ref mf, .ref mst, .ref mth, .ref mdr, .ref mw, .ref msh, .ref mpo, .ref mpa, .ref mde, .ref mj], ar_I mst cI 80 (upd fstk ((jn * 10) + ia) ((fstk ((jn * 10) + ia)) - v)), ar_I mdr cI 1100 (upd fdue (ia * 110 + (hh + w_)) ((fdue (ia * 110 + (hh + w_))) + v)), ar_I mf cZ 8 ffz] H := hP
            have hD : va_D A [ob_J y 6 [.int 0, .int (nI hh), .int r0, .int r1, .int r2, .int r3, .ref mb, .int given, .int mrew, .int (nI sz), .ref mk, .ref mc, .ref ms, .ref md, .ref mf, .ref mst, .ref mth, .ref mdr, .ref mw, .ref msh, .ref mpo, .ref mpa, .ref mde, .ref mj], ar_I mst cI 80 (upd fstk ((jn * 10) + ia) ((fstk ((jn * 10) + ia)) - v)), ar_I mdr cI 1100 (upd fdue (ia * 110 + (hh + w_)) ((fdue (ia * 110 + (hh + w_))) + v)), ar_I mf cZ 8 ffz] := hD
            refine lv_aload_n hx hb dX6_draw_128 rfl (lv_at hl 0 rfl) ?_
            refine va_get (ci := 6) (v := .ref mst) (C := RX6) (T := TX6) (N := 24) hx hb hts bi_6 hown hK hP 0 rfl rfl 15 (by decide) (hts _ bw_420) (fun _ h9 => h9) rfl dX6_draw_129 ?_
            refine lv_bipush (v := 10) hx hb dX6_draw_132 (by decide) ?_
            refine lv_iload_n hx hb dX6_draw_134 rfl (lv_at hl 2 rfl) ?_
            refine lv_imul hx hb dX6_draw_135 ?_
            refine tp_i (x' := nI (jn * 10)) (nn_mulc rfl rfl) ?_
            refine lv_iload_n hx hb dX6_draw_136 rfl (lv_at hl 1 rfl) ?_
            refine lv_iadd hx hb dX6_draw_137 ?_
            refine tp_i (x' := nI ((jn * 10) + ia)) (nn_add rfl rfl) ?_
            refine ar_ld hx hb hK hP 1 (k := (jn * 10) + ia) rfl rfl (by omega) (by decide) dX6_draw_138 ?_
            have q_5 : (upd fstk ((jn * 10) + ia) ((fstk ((jn * 10) + ia)) - v)) = (sk_draw sz fstk ffz (nI ia) (nI jn) v) := by simp [rr_draw, sk_draw, du_draw, dr_P, mv_P, up_i, h_6, t_ia, h_14, t_jn, h_26, c_46, c_58]
            obtain ⟨hP, hD⟩ := cs_W (fun z_z => [ob_J y 6 [.int 0, .int (nI hh), .int r0, .int r1, .int r2, .int r3, .ref mb, .int given, .int mrew, .int (nI sz), .ref mk, .ref mc, .ref ms, .ref md, .ref mf, .ref mst, .ref mth, .ref mdr, .ref mw, .ref msh, .ref mpo, .ref mpa, .ref mde, .ref mj], ar_I mst cI 80 z_z, ar_I mdr cI 1100 (upd fdue (ia * 110 + (hh + w_)) ((fdue (ia * 110 + (hh + w_))) + v)), ar_I mf cZ 8 ffz]) q_5 hP hD
            have q_6 : (upd fdue (ia * 110 + (hh + w_)) ((fdue (ia * 110 + (hh + w_))) + v)) = (du_draw hh w_ sz fstk ffz fdue (nI ia) (nI jn) v) := by simp [rr_draw, sk_draw, du_draw, dr_P, mv_P, up_i, h_6, t_ia, h_14, t_jn, h_26, c_46, c_58]
            obtain ⟨hP, hD⟩ := cs_W (fun z_z => [ob_J y 6 [.int 0, .int (nI hh), .int r0, .int r1, .int r2, .int r3, .ref mb, .int given, .int mrew, .int (nI sz), .ref mk, .ref mc, .ref ms, .ref md, .ref mf, .ref mst, .ref mth, .ref mdr, .ref mw, .ref msh, .ref mpo, .ref mpa, .ref mde, .ref mj], ar_I mst cI 80 (sk_draw sz fstk ffz (nI ia) (nI jn) v), ar_I mdr cI 1100 z_z, ar_I mf cZ 8 ffz]) q_6 hP hD
            exact re_I (w1 := fun u_u : Unit => [ob_J y 6 [.int 0, .int (nI hh), .int r0, .int r1, .int r2, .int r3, .ref mb, .int given, .int mrew, .int (nI sz), .ref mk, .ref mc, .ref ms, .ref md, .ref mf, .ref mst, .ref mth, .ref mdr, .ref mw, .ref msh, .ref mpo, .ref mpa, .ref mde, .ref mj], ar_I mst cI 80 (sk_draw sz fstk ffz (nI ia) (nI jn) v), ar_I mdr cI 1100 (du_draw hh w_ sz fstk ffz fdue (nI ia) (nI jn) v), ar_I mf cZ 8 ffz]) (v := (upd fstk ((jn * 10) + ia) ((fstk ((jn * 10) + ia)) - v)) ((jn * 10) + ia)) hx hb hr hlk hK hS rfl () hP hD (show ((upd fstk ((jn * 10) + ia) ((fstk ((jn * 10) + ia)) - v)) ((jn * 10) + ia)) = rr_draw sz fstk ffz (nI ia) (nI jn) v from by simp [rr_draw, sk_draw, du_draw, dr_P, mv_P, up_i, h_6, t_ia, h_14, t_jn, h_26, c_46, c_58]) dX6_draw_139
          · refine lv_bipush (v := (-4)) hx hb dX6_draw_61 (by decide) ?_
            have q_7 : fstk = (sk_draw sz fstk ffz (nI ia) (nI jn) v) := by simp [rr_draw, sk_draw, du_draw, dr_P, mv_P, up_i, h_6, t_ia, h_14, t_jn, h_26, c_46, c_58]
            obtain ⟨hP, hD⟩ := cs_W (fun z_z => [ob_J y 6 [.int 0, .int (nI hh), .int r0, .int r1, .int r2, .int r3, .ref mb, .int given, .int mrew, .int (nI sz), .ref mk, .ref mc, .ref ms, .ref md, .ref mf, .ref mst, .ref mth, .ref mdr, .ref mw, .ref msh, .ref mpo, .ref mpa, .ref mde, .ref mj], ar_I mst cI 80 z_z, ar_I mdr cI 1100 fdue, ar_I mf cZ 8 ffz]) q_7 hP hD
            have q_8 : fdue = (du_draw hh w_ sz fstk ffz fdue (nI ia) (nI jn) v) := by simp [rr_draw, sk_draw, du_draw, dr_P, mv_P, up_i, h_6, t_ia, h_14, t_jn, h_26, c_46, c_58]
            obtain ⟨hP, hD⟩ := cs_W (fun z_z => [ob_J y 6 [.int 0, .int (nI hh), .int r0, .int r1, .int r2, .int r3, .ref mb, .int given, .int mrew, .int (nI sz), .ref mk, .ref mc, .ref ms, .ref md, .ref mf, .ref mst, .ref mth, .ref mdr, .ref mw, .ref msh, .ref mpo, .ref mpa, .ref mde, .ref mj], ar_I mst cI 80 (sk_draw sz fstk ffz (nI ia) (nI jn) v), ar_I mdr cI 1100 z_z, ar_I mf cZ 8 ffz]) q_8 hP hD
            exact re_I (w1 := fun u_u : Unit => [ob_J y 6 [.int 0, .int (nI hh), .int r0, .int r1, .int r2, .int r3, .ref mb, .int given, .int mrew, .int (nI sz), .ref mk, .ref mc, .ref ms, .ref md, .ref mf, .ref mst, .ref mth, .ref mdr, .ref mw, .ref msh, .ref mpo, .ref mpa, .ref mde, .ref mj], ar_I mst cI 80 (sk_draw sz fstk ffz (nI ia) (nI jn) v), ar_I mdr cI 1100 (du_draw hh w_ sz fstk ffz fdue (nI ia) (nI jn) v), ar_I mf cZ 8 ffz]) (v := (-4)) hx hb hr hlk hK hS rfl () hP hD (show (-4) = rr_draw sz fstk ffz (nI ia) (nI jn) v from by simp [rr_draw, sk_draw, du_draw, dr_P, mv_P, up_i, h_6, t_ia, h_14, t_jn, h_26, c_46, c_58]) dX6_draw_63
        · refine lv_bipush (v := (-3)) hx hb dX6_draw_49 (by decide) ?_
          have q_9 : fstk = (sk_draw sz fstk ffz (nI ia) (nI jn) v) := by simp [rr_draw, sk_draw, du_draw, dr_P, mv_P, up_i, h_6, t_ia, h_14, t_jn, h_26, c_46]
          obtain ⟨hP, hD⟩ := cs_W (fun z_z => [ob_J y 6 [.int 0, .int (nI hh), .int r0, .int r1, .int r2, .int r3, .ref mb, .int given, .int mrew, .int (nI sz), .ref mk, .ref mc, .ref ms, .ref md, .ref mf, .ref mst, .ref mth, .ref mdr, .ref mw, .ref msh, .ref mpo, .ref mpa, .ref mde, .ref mj], ar_I mst cI 80 z_z, ar_I mdr cI 1100 fdue, ar_I mf cZ 8 ffz]) q_9 hP hD
          have q_10 : fdue = (du_draw hh w_ sz fstk ffz fdue (nI ia) (nI jn) v) := by simp [rr_draw, sk_draw, du_draw, dr_P, mv_P, up_i, h_6, t_ia, h_14, t_jn, h_26, c_46]
          obtain ⟨hP, hD⟩ := cs_W (fun z_z => [ob_J y 6 [.int 0, .int (nI hh), .int r0, .int r1, .int r2, .int r3, .ref mb, .int given, .int mrew, .int (nI sz), .ref mk, .ref mc, .ref ms, .ref md, .ref mf, .ref mst, .ref mth, .ref mdr, .ref mw, .ref msh, .ref mpo, .ref mpa, .ref mde, .ref mj], ar_I mst cI 80 (sk_draw sz fstk ffz (nI ia) (nI jn) v), ar_I mdr cI 1100 z_z, ar_I mf cZ 8 ffz]) q_10 hP hD
          exact re_I (w1 := fun u_u : Unit => [ob_J y 6 [.int 0, .int (nI hh), .int r0, .int r1, .int r2, .int r3, .ref mb, .int given, .int mrew, .int (nI sz), .ref mk, .ref mc, .ref ms, .ref md, .ref mf, .ref mst, .ref mth, .ref mdr, .ref mw, .ref msh, .ref mpo, .ref mpa, .ref mde, .ref mj], ar_I mst cI 80 (sk_draw sz fstk ffz (nI ia) (nI jn) v), ar_I mdr cI 1100 (du_draw hh w_ sz fstk ffz fdue (nI ia) (nI jn) v), ar_I mf cZ 8 ffz]) (v := (-3)) hx hb hr hlk hK hS rfl () hP hD (show (-3) = rr_draw sz fstk ffz (nI ia) (nI jn) v from by simp [rr_draw, sk_draw, du_draw, dr_P, mv_P, up_i, h_6, t_ia, h_14, t_jn, h_26, c_46]) dX6_draw_51
      · rw [if_neg h_26] at w_26; subst w_26
        refine lv_if_ne (tgt := 34) hx hb dX6_draw_29 (by decide) (fun h9 => absurd (by decide) h9) (fun _ => ?_)
        refine lv_iconst (v := (-1)) hx hb dX6_draw_32 (by decide) ?_
        have q_11 : fstk = (sk_draw sz fstk ffz (nI ia) (nI jn) v) := by simp [rr_draw, sk_draw, du_draw, dr_P, mv_P, up_i, h_6, t_ia, h_14, t_jn, h_26]
        obtain ⟨hP, hD⟩ := cs_W (fun z_z => [ob_J y 6 [.int 0, .int (nI hh), .int r0, .int r1, .int r2, .int r3, .ref mb, .int given, .int mrew, .int (nI sz), .ref mk, .ref mc, .ref ms, .ref md, .ref mf, .ref mst, .ref mth, .ref mdr, .ref mw, .ref msh, .ref mpo, .ref mpa, .ref mde, .ref mj], ar_I mst cI 80 z_z, ar_I mdr cI 1100 fdue, ar_I mf cZ 8 ffz]) q_11 hP hD
        have q_12 : fdue = (du_draw hh w_ sz fstk ffz fdue (nI ia) (nI jn) v) := by simp [rr_draw, sk_draw, du_draw, dr_P, mv_P, up_i, h_6, t_ia, h_14, t_jn, h_26]
        obtain ⟨hP, hD⟩ := cs_W (fun z_z => [ob_J y 6 [.int 0, .int (nI hh), .int r0, .int r1, .int r2, .int r3, .ref mb, .int given, .int mrew, .int (nI sz), .ref mk, .ref mc, .ref ms, .ref md, .ref mf, .ref mst, .ref mth, .ref mdr, .ref mw, .ref msh, .ref mpo, .ref mpa, .ref mde, .ref mj], ar_I mst cI 80 (sk_draw sz fstk ffz (nI ia) (nI jn) v), ar_I mdr cI 1100 z_z, ar_I mf cZ 8 ffz]) q_12 hP hD
        exact re_I (w1 := fun u_u : Unit => [ob_J y 6 [.int 0, .int (nI hh), .int r0, .int r1, .int r2, .int r3, .ref mb, .int given, .int mrew, .int (nI sz), .ref mk, .ref mc, .ref ms, .ref md, .ref mf, .ref mst, .ref mth, .ref mdr, .ref mw, .ref msh, .ref mpo, .ref mpa, .ref mde, .ref mj], ar_I mst cI 80 (sk_draw sz fstk ffz (nI ia) (nI jn) v), ar_I mdr cI 1100 (du_draw hh w_ sz fstk ffz fdue (nI ia) (nI jn) v), ar_I mf cZ 8 ffz]) (v := (-1)) hx hb hr hlk hK hS rfl () hP hD (show (-1) = rr_draw sz fstk ffz (nI ia) (nI jn) v from by simp [rr_draw, sk_draw, du_draw, dr_P, mv_P, up_i, h_6, t_ia, h_14, t_jn, h_26]) dX6_draw_33

set_option maxHeartbeats 4000000 in
set_option maxRecDepth 100000 in
theorem k_X6_join (l : Launch) (D : va_G) (cI cJ cZ : ClassId) (y : Nat) (ms : Nat) (th : Int32) (hh : Nat) (r0 : Int32) (r1 : Int32) (r2 : Int32) (r3 : Int32) (mb : Nat) (given : Int32) (mrew : Int32) (sz : Nat) (mk : Nat) (mc : Nat) (md : Nat) (mf : Nat) (mst : Nat) (mth : Nat) (mdr : Nat) (mw : Nat) (msh : Nat) (mpo : Nat) (mpa : Nat) (mde : Nat) (mj : Nat) (fsa : Nat → Int32) (n : Int32) (hsz : sz ≤ 8) : mt_I l yX6_join cX6_join 2 .int 2 46 D cI cJ cZ [ob_J y 6 [.int th, .int (nI hh), .int r0, .int r1, .int r2, .int r3, .ref mb, .int given, .int mrew, .int (nI sz), .ref mk, .ref mc, .ref ms, .ref md, .ref mf, .ref mst, .ref mth, .ref mdr, .ref mw, .ref msh, .ref mpo, .ref mpa, .ref mde, .ref mj], ar_I ms cI 8 fsa] [.ref y, .int n] (fun r (u_u : Unit) => r = rr_join hh sz fsa n) (fun u_u : Unit => [ob_J y 6 [.int 0, .int (nI hh), .int r0, .int r1, .int r2, .int r3, .ref mb, .int given, .int mrew, .int (nI sz), .ref mk, .ref mc, .ref ms, .ref md, .ref mf, .ref mst, .ref mth, .ref mdr, .ref mw, .ref msh, .ref mpo, .ref mpa, .ref mde, .ref mj], ar_I ms cI 8 (sa_join sz fsa n)]) := by
  refine en_I (by decide) (Nat.le_of_ble_eq_true rfl) ?_
  intro p e s m below meth c A ls H locs hx hb hr hml hts hown hlk hN hK hA hP hD hS hl
  have hown : s.vm.findClass RX6 = some m.cls := hown
  have hl : lv_has ls 2 [(0, .ref y), (1, .int n)] := hl
  refine lv_aload_n hx hb dX6_join_0 rfl (lv_at hl 0 rfl) ?_
  refine lv_iconst (v := 0) hx hb dX6_join_1 (by decide) ?_
  refine va_put (ci := 6) (v := .int 0) (ty := .int) (C := RX6) (T := TX6) (N := 24) hx hb hts bi_6 tyX6 tyX6_ok nmX6 hown hK hP hD hS 0 rfl rfl 0 (by decide) (hts _ bw_405) (fun _ h9 => h9) rfl (by decide +kernel) rfl rfl (Nat.le_of_ble_eq_true rfl) dX6_join_2 (fun H locs hP hD hS => ?_)
  have hP : va_P D cl_A [ob_J y 6 [.int 0, .int (nI hh), .int r0, .int r1, .int r2, .int r3, .ref mb, .int given, .int mrew, .int (nI sz), .ref mk, .ref mc, .ref ms, .ref md, .ref mf, .ref mst, .ref mth, .ref mdr, .ref mw, .ref msh, .ref mpo, .ref mpa, .ref mde, .ref mj], ar_I ms cI 8 fsa] H := hP
  have hD : va_D A [ob_J y 6 [.int 0, .int (nI hh), .int r0, .int r1, .int r2, .int r3, .ref mb, .int given, .int mrew, .int (nI sz), .ref mk, .ref mc, .ref ms, .ref md, .ref mf, .ref mst, .ref mth, .ref mdr, .ref mw, .ref msh, .ref mpo, .ref mpa, .ref mde, .ref mj], ar_I ms cI 8 fsa] := hD
  refine lv_aload_n hx hb dX6_join_5 rfl (lv_at hl 0 rfl) ?_
  refine lv_iload_n hx hb dX6_join_6 rfl (lv_at hl 1 rfl) ?_
  refine ca_VI (rest := []) (wr := [ar_I ms cI 8 fsa]) (w2 := fun u_u => [ob_J y 6 [.int 0, .int (nI hh), .int r0, .int r1, .int r2, .int r3, .ref mb, .int given, .int mrew, .int (nI sz), .ref mk, .ref mc, .ref ms, .ref md, .ref mf, .ref mst, .ref mth, .ref mdr, .ref mw, .ref msh, .ref mpo, .ref mpa, .ref mde, .ref mj], ar_I ms cI 8 fsa]) (k_X6_noNode l D cI cJ cZ y 0 hh r0 r1 r2 r3 mb given mrew sz mk mc ms md mf mst mth mdr mw msh mpo mpa mde mj n (by first | assumption | omega)) hx hb hml hown hts hN hK hA hP hD hS 6 0 rfl rfl bw_506 bw_508 bs_8 bw_7 bw_509 1 rfl (by decide +kernel) ⟨by decide, by decide⟩ [0] [1] [1, 0] rfl rfl (by decide) (fun _ => rfl) hl.1 rfl (Nat.le_of_ble_eq_true rfl) dX6_join_7 ⟨Nat.zero_le _, Nat.zero_le _⟩ (fun r_7 u_u H locs w_7 hP hD hS => ?_)
  have hP : va_P D cl_A [ob_J y 6 [.int 0, .int (nI hh), .int r0, .int r1, .int r2, .int r3, .ref mb, .int given, .int mrew, .int (nI sz), .ref mk, .ref mc, .ref ms, .ref md, .ref mf, .ref mst, .ref mth, .ref mdr, .ref mw, .ref msh, .ref mpo, .ref mpa, .ref mde, .ref mj], ar_I ms cI 8 fsa] H := hP
  have hD : va_D A [ob_J y 6 [.int 0, .int (nI hh), .int r0, .int r1, .int r2, .int r3, .ref mb, .int given, .int mrew, .int (nI sz), .ref mk, .ref mc, .ref ms, .ref md, .ref mf, .ref mst, .ref mth, .ref mdr, .ref mw, .ref msh, .ref mpo, .ref mpa, .ref mde, .ref mj], ar_I ms cI 8 fsa] := hD
  have w_7 : r_7 = if ¬ (0 ≤ n ∧ n < nI sz) then 1 else 0 := w_7
  by_cases h_7 : ¬ (0 ≤ n ∧ n < nI sz)
  · rw [if_pos h_7] at w_7; subst w_7
    refine lv_if_eq (tgt := 15) hx hb dX6_join_10 (by decide) (fun h9 => absurd h9 (by decide)) (fun _ => ?_)
    refine lv_iconst (v := (-1)) hx hb dX6_join_13 (by decide) ?_
    have q_1 : fsa = (sa_join sz fsa n) := by simp [rr_join, sa_join, hn_P, h_7]
    obtain ⟨hP, hD⟩ := cs_W (fun z_z => [ob_J y 6 [.int 0, .int (nI hh), .int r0, .int r1, .int r2, .int r3, .ref mb, .int given, .int mrew, .int (nI sz), .ref mk, .ref mc, .ref ms, .ref md, .ref mf, .ref mst, .ref mth, .ref mdr, .ref mw, .ref msh, .ref mpo, .ref mpa, .ref mde, .ref mj], ar_I ms cI 8 z_z]) q_1 hP hD
    exact re_I (w1 := fun u_u : Unit => [ob_J y 6 [.int 0, .int (nI hh), .int r0, .int r1, .int r2, .int r3, .ref mb, .int given, .int mrew, .int (nI sz), .ref mk, .ref mc, .ref ms, .ref md, .ref mf, .ref mst, .ref mth, .ref mdr, .ref mw, .ref msh, .ref mpo, .ref mpa, .ref mde, .ref mj], ar_I ms cI 8 (sa_join sz fsa n)]) (v := (-1)) hx hb hr hlk hK hS rfl () hP hD (show (-1) = rr_join hh sz fsa n from by simp [rr_join, sa_join, hn_P, h_7]) dX6_join_14
  · rw [if_neg h_7] at w_7; subst w_7
    have h_7 := Decidable.not_not.mp h_7
    obtain ⟨jn, h_jn, rfl⟩ : ∃ z : Nat, z < sz ∧ n = nI z := ix_lt (by omega) h_7
    have t_jn := tn_nI (n := jn) (by omega)
    refine lv_if_eq (tgt := 15) hx hb dX6_join_10 (by decide) (fun _ => ?_) (fun h9 => absurd (by decide) h9)
    refine lv_aload_n hx hb dX6_join_15 rfl (lv_at hl 0 rfl) ?_
    refine va_get (ci := 6) (v := .ref ms) (C := RX6) (T := TX6) (N := 24) hx hb hts bi_6 hown hK hP 0 rfl rfl 12 (by decide) (hts _ bw_417) (fun _ h9 => h9) rfl dX6_join_16 ?_
    refine lv_iload_n hx hb dX6_join_19 rfl (lv_at hl 1 rfl) ?_
    refine ar_ld hx hb hK hP 1 (k := jn) rfl rfl (by omega) (by decide) dX6_join_20 ?_
    refine lv_if_eq (tgt := 27) hx hb dX6_join_21 (by decide) (fun c_21 => ?_) (fun c_21 => ?_)
    · refine lv_aload_n hx hb dX6_join_27 rfl (lv_at hl 0 rfl) ?_
      refine va_get (ci := 6) (v := .ref ms) (C := RX6) (T := TX6) (N := 24) hx hb hts bi_6 hown hK hP 0 rfl rfl 12 (by decide) (hts _ bw_417) (fun _ h9 => h9) rfl dX6_join_28 ?_
      refine lv_iload_n hx hb dX6_join_31 rfl (lv_at hl 1 rfl) ?_
      refine lv_iconst (v := 1) hx hb dX6_join_32 (by decide) ?_
      refine ar_st hx hb hK hP hD hS 1 (k := jn) rfl rfl (by omega) (by decide) dX6_join_33 _ rfl (fun H locs hP hD hS => ?_)
      have hP : va_P D cl_A [ob_J y 6 [.int 0, .int (nI hh), .int r0, .int r1, .int r2, .int r3, .ref mb, .int given, .int mrew, .int (nI sz), .ref mk, .ref mc, .ref ms, .ref md, .ref mf, .ref mst, .ref mth, .ref mdr, .ref mw, .ref msh, .ref mpo, .ref mpa, .ref mde, .ref mj], ar_I ms cI 8 (upd fsa jn 1)] H := hP
      have hD : va_D A [ob_J y 6 [.int 0, .int (nI hh), .int r0, .int r1, .int r2, .int r3, .ref mb, .int given, .int mrew, .int (nI sz), .ref mk, .ref mc, .ref ms, .ref md, .ref mf, .ref mst, .ref mth, .ref mdr, .ref mw, .ref msh, .ref mpo, .ref mpa, .ref mde, .ref mj], ar_I ms cI 8 (upd fsa jn 1)] := hD
      refine lv_aload_n hx hb dX6_join_34 rfl (lv_at hl 0 rfl) ?_
      refine va_get (ci := 6) (v := .int (nI hh)) (C := RX6) (T := TX6) (N := 24) hx hb hts bi_6 hown hK hP 0 rfl rfl 1 (by decide) (hts _ bw_406) (fun _ h9 => h9) rfl dX6_join_35 ?_
      refine lv_iconst (v := 1) hx hb dX6_join_38 (by decide) ?_
      refine lv_iadd hx hb dX6_join_39 ?_
      refine tp_i (x' := nI (hh + 1)) (nn_add rfl rfl) ?_
      have q_2 : (upd fsa jn 1) = (sa_join sz fsa (nI jn)) := by simp [rr_join, sa_join, hn_P, h_7, t_jn, c_21]
      obtain ⟨hP, hD⟩ := cs_W (fun z_z => [ob_J y 6 [.int 0, .int (nI hh), .int r0, .int r1, .int r2, .int r3, .ref mb, .int given, .int mrew, .int (nI sz), .ref mk, .ref mc, .ref ms, .ref md, .ref mf, .ref mst, .ref mth, .ref mdr, .ref mw, .ref msh, .ref mpo, .ref mpa, .ref mde, .ref mj], ar_I ms cI 8 z_z]) q_2 hP hD
      exact re_I (w1 := fun u_u : Unit => [ob_J y 6 [.int 0, .int (nI hh), .int r0, .int r1, .int r2, .int r3, .ref mb, .int given, .int mrew, .int (nI sz), .ref mk, .ref mc, .ref ms, .ref md, .ref mf, .ref mst, .ref mth, .ref mdr, .ref mw, .ref msh, .ref mpo, .ref mpa, .ref mde, .ref mj], ar_I ms cI 8 (sa_join sz fsa (nI jn))]) (v := nI (hh + 1)) hx hb hr hlk hK hS rfl () hP hD (show (nI (hh + 1)) = rr_join hh sz fsa (nI jn) from by simp [rr_join, sa_join, hn_P, h_7, t_jn, c_21]) dX6_join_40
    · refine lv_bipush (v := (-4)) hx hb dX6_join_24 (by decide) ?_
      have q_3 : fsa = (sa_join sz fsa (nI jn)) := by simp [rr_join, sa_join, hn_P, h_7, t_jn, c_21]
      obtain ⟨hP, hD⟩ := cs_W (fun z_z => [ob_J y 6 [.int 0, .int (nI hh), .int r0, .int r1, .int r2, .int r3, .ref mb, .int given, .int mrew, .int (nI sz), .ref mk, .ref mc, .ref ms, .ref md, .ref mf, .ref mst, .ref mth, .ref mdr, .ref mw, .ref msh, .ref mpo, .ref mpa, .ref mde, .ref mj], ar_I ms cI 8 z_z]) q_3 hP hD
      exact re_I (w1 := fun u_u : Unit => [ob_J y 6 [.int 0, .int (nI hh), .int r0, .int r1, .int r2, .int r3, .ref mb, .int given, .int mrew, .int (nI sz), .ref mk, .ref mc, .ref ms, .ref md, .ref mf, .ref mst, .ref mth, .ref mdr, .ref mw, .ref msh, .ref mpo, .ref mpa, .ref mde, .ref mj], ar_I ms cI 8 (sa_join sz fsa (nI jn))]) (v := (-4)) hx hb hr hlk hK hS rfl () hP hD (show (-4) = rr_join hh sz fsa (nI jn) from by simp [rr_join, sa_join, hn_P, h_7, t_jn, c_21]) dX6_join_26

set_option maxHeartbeats 4000000 in
set_option maxRecDepth 100000 in
theorem k_X6_leave (l : Launch) (D : va_G) (cI cJ cZ : ClassId) (y : Nat) (ms : Nat) (md : Nat) (mf : Nat) (th : Int32) (hh : Nat) (r0 : Int32) (r1 : Int32) (r2 : Int32) (r3 : Int32) (mb : Nat) (given : Int32) (mrew : Int32) (sz : Nat) (mk : Nat) (mc : Nat) (mst : Nat) (mth : Nat) (mdr : Nat) (mw : Nat) (msh : Nat) (mpo : Nat) (mpa : Nat) (mde : Nat) (mj : Nat) (fsa : Nat → Int32) (fdm : Nat → Int32) (ffz : Nat → Int32) (n : Int32) (w_ : Nat) (hsz : sz ≤ 8) (hw : r0 = nI w_) (hw9 : w_ ≤ 9) : mt_I l yX6_leave cX6_leave 2 .int 2 46 D cI cJ cZ [ob_J y 6 [.int th, .int (nI hh), .int r0, .int r1, .int r2, .int r3, .ref mb, .int given, .int mrew, .int (nI sz), .ref mk, .ref mc, .ref ms, .ref md, .ref mf, .ref mst, .ref mth, .ref mdr, .ref mw, .ref msh, .ref mpo, .ref mpa, .ref mde, .ref mj], ar_I ms cI 8 fsa, ar_I md cI 8 fdm, ar_I mf cZ 8 ffz] [.ref y, .int n] (fun r (u_u : Unit) => r = rr_leave hh w_ sz fsa ffz n) (fun u_u : Unit => [ob_J y 6 [.int 0, .int (nI hh), .int r0, .int r1, .int r2, .int r3, .ref mb, .int given, .int mrew, .int (nI sz), .ref mk, .ref mc, .ref ms, .ref md, .ref mf, .ref mst, .ref mth, .ref mdr, .ref mw, .ref msh, .ref mpo, .ref mpa, .ref mde, .ref mj], ar_I ms cI 8 (up_leave sz fsa ffz n fsa 3), ar_I md cI 8 (up_leave sz fsa ffz n fdm (nI (hh + w_))), ar_I mf cZ 8 ffz]) := by
  refine en_I (by decide) (Nat.le_of_ble_eq_true rfl) ?_
  intro p e s m below meth c A ls H locs hx hb hr hml hts hown hlk hN hK hA hP hD hS hl
  have hown : s.vm.findClass RX6 = some m.cls := hown
  have hl : lv_has ls 2 [(0, .ref y), (1, .int n)] := hl
  refine lv_aload_n hx hb dX6_leave_0 rfl (lv_at hl 0 rfl) ?_
  refine lv_iconst (v := 0) hx hb dX6_leave_1 (by decide) ?_
  refine va_put (ci := 6) (v := .int 0) (ty := .int) (C := RX6) (T := TX6) (N := 24) hx hb hts bi_6 tyX6 tyX6_ok nmX6 hown hK hP hD hS 0 rfl rfl 0 (by decide) (hts _ bw_405) (fun _ h9 => h9) rfl (by decide +kernel) rfl rfl (Nat.le_of_ble_eq_true rfl) dX6_leave_2 (fun H locs hP hD hS => ?_)
  have hP : va_P D cl_A [ob_J y 6 [.int 0, .int (nI hh), .int r0, .int r1, .int r2, .int r3, .ref mb, .int given, .int mrew, .int (nI sz), .ref mk, .ref mc, .ref ms, .ref md, .ref mf, .ref mst, .ref mth, .ref mdr, .ref mw, .ref msh, .ref mpo, .ref mpa, .ref mde, .ref mj], ar_I ms cI 8 fsa, ar_I md cI 8 fdm, ar_I mf cZ 8 ffz] H := hP
  have hD : va_D A [ob_J y 6 [.int 0, .int (nI hh), .int r0, .int r1, .int r2, .int r3, .ref mb, .int given, .int mrew, .int (nI sz), .ref mk, .ref mc, .ref ms, .ref md, .ref mf, .ref mst, .ref mth, .ref mdr, .ref mw, .ref msh, .ref mpo, .ref mpa, .ref mde, .ref mj], ar_I ms cI 8 fsa, ar_I md cI 8 fdm, ar_I mf cZ 8 ffz] := hD
  refine lv_aload_n hx hb dX6_leave_5 rfl (lv_at hl 0 rfl) ?_
  refine lv_iload_n hx hb dX6_leave_6 rfl (lv_at hl 1 rfl) ?_
  refine ca_VI (rest := []) (wr := [ar_I ms cI 8 fsa, ar_I md cI 8 fdm, ar_I mf cZ 8 ffz]) (w2 := fun u_u => [ob_J y 6 [.int 0, .int (nI hh), .int r0, .int r1, .int r2, .int r3, .ref mb, .int given, .int mrew, .int (nI sz), .ref mk, .ref mc, .ref ms, .ref md, .ref mf, .ref mst, .ref mth, .ref mdr, .ref mw, .ref msh, .ref mpo, .ref mpa, .ref mde, .ref mj], ar_I ms cI 8 fsa, ar_I md cI 8 fdm, ar_I mf cZ 8 ffz]) (k_X6_noNode l D cI cJ cZ y 0 hh r0 r1 r2 r3 mb given mrew sz mk mc ms md mf mst mth mdr mw msh mpo mpa mde mj n (by first | assumption | omega)) hx hb hml hown hts hN hK hA hP hD hS 6 0 rfl rfl bw_506 bw_508 bs_8 bw_7 bw_509 1 rfl (by decide +kernel) ⟨by decide, by decide⟩ [0] [1, 2, 3] [3, 0, 1, 2] rfl rfl (by decide) (fun _ => rfl) hl.1 rfl (Nat.le_of_ble_eq_true rfl) dX6_leave_7 ⟨Nat.zero_le _, Nat.zero_le _⟩ (fun r_7 u_u H locs w_7 hP hD hS => ?_)
  have hP : va_P D cl_A [ob_J y 6 [.int 0, .int (nI hh), .int r0, .int r1, .int r2, .int r3, .ref mb, .int given, .int mrew, .int (nI sz), .ref mk, .ref mc, .ref ms, .ref md, .ref mf, .ref mst, .ref mth, .ref mdr, .ref mw, .ref msh, .ref mpo, .ref mpa, .ref mde, .ref mj], ar_I ms cI 8 fsa, ar_I md cI 8 fdm, ar_I mf cZ 8 ffz] H := hP
  have hD : va_D A [ob_J y 6 [.int 0, .int (nI hh), .int r0, .int r1, .int r2, .int r3, .ref mb, .int given, .int mrew, .int (nI sz), .ref mk, .ref mc, .ref ms, .ref md, .ref mf, .ref mst, .ref mth, .ref mdr, .ref mw, .ref msh, .ref mpo, .ref mpa, .ref mde, .ref mj], ar_I ms cI 8 fsa, ar_I md cI 8 fdm, ar_I mf cZ 8 ffz] := hD
  have w_7 : r_7 = if ¬ (0 ≤ n ∧ n < nI sz) then 1 else 0 := w_7
  by_cases h_7 : ¬ (0 ≤ n ∧ n < nI sz)
  · rw [if_pos h_7] at w_7; subst w_7
    refine lv_if_eq (tgt := 15) hx hb dX6_leave_10 (by decide) (fun h9 => absurd h9 (by decide)) (fun _ => ?_)
    refine lv_iconst (v := (-1)) hx hb dX6_leave_13 (by decide) ?_
    have q_1 : fsa = (up_leave sz fsa ffz n fsa 3) := by simp [rr_leave, up_leave, le_P, hn_P, up_i, h_7]
    obtain ⟨hP, hD⟩ := cs_W (fun z_z => [ob_J y 6 [.int 0, .int (nI hh), .int r0, .int r1, .int r2, .int r3, .ref mb, .int given, .int mrew, .int (nI sz), .ref mk, .ref mc, .ref ms, .ref md, .ref mf, .ref mst, .ref mth, .ref mdr, .ref mw, .ref msh, .ref mpo, .ref mpa, .ref mde, .ref mj], ar_I ms cI 8 z_z, ar_I md cI 8 fdm, ar_I mf cZ 8 ffz]) q_1 hP hD
    have q_2 : fdm = (up_leave sz fsa ffz n fdm (nI (hh + w_))) := by simp [rr_leave, up_leave, le_P, hn_P, up_i, h_7]
    obtain ⟨hP, hD⟩ := cs_W (fun z_z => [ob_J y 6 [.int 0, .int (nI hh), .int r0, .int r1, .int r2, .int r3, .ref mb, .int given, .int mrew, .int (nI sz), .ref mk, .ref mc, .ref ms, .ref md, .ref mf, .ref mst, .ref mth, .ref mdr, .ref mw, .ref msh, .ref mpo, .ref mpa, .ref mde, .ref mj], ar_I ms cI 8 (up_leave sz fsa ffz n fsa 3), ar_I md cI 8 z_z, ar_I mf cZ 8 ffz]) q_2 hP hD
    exact re_I (w1 := fun u_u : Unit => [ob_J y 6 [.int 0, .int (nI hh), .int r0, .int r1, .int r2, .int r3, .ref mb, .int given, .int mrew, .int (nI sz), .ref mk, .ref mc, .ref ms, .ref md, .ref mf, .ref mst, .ref mth, .ref mdr, .ref mw, .ref msh, .ref mpo, .ref mpa, .ref mde, .ref mj], ar_I ms cI 8 (up_leave sz fsa ffz n fsa 3), ar_I md cI 8 (up_leave sz fsa ffz n fdm (nI (hh + w_))), ar_I mf cZ 8 ffz]) (v := (-1)) hx hb hr hlk hK hS rfl () hP hD (show (-1) = rr_leave hh w_ sz fsa ffz n from by simp [rr_leave, up_leave, le_P, hn_P, up_i, h_7]) dX6_leave_14
  · rw [if_neg h_7] at w_7; subst w_7
    have h_7 := Decidable.not_not.mp h_7
    obtain ⟨jn, h_jn, rfl⟩ : ∃ z : Nat, z < sz ∧ n = nI z := ix_lt (by omega) h_7
    have t_jn := tn_nI (n := jn) (by omega)
    refine lv_if_eq (tgt := 15) hx hb dX6_leave_10 (by decide) (fun _ => ?_) (fun h9 => absurd (by decide) h9)
    refine lv_aload_n hx hb dX6_leave_15 rfl (lv_at hl 0 rfl) ?_
    refine va_get (ci := 6) (v := .ref ms) (C := RX6) (T := TX6) (N := 24) hx hb hts bi_6 hown hK hP 0 rfl rfl 12 (by decide) (hts _ bw_417) (fun _ h9 => h9) rfl dX6_leave_16 ?_
    refine lv_iload_n hx hb dX6_leave_19 rfl (lv_at hl 1 rfl) ?_
    refine ar_ld hx hb hK hP 1 (k := jn) rfl rfl (by omega) (by decide) dX6_leave_20 ?_
    refine lv_iconst (v := 2) hx hb dX6_leave_21 (by decide) ?_
    refine lv_icmp_ne (tgt := 34) hx hb dX6_leave_22 (by decide) (fun c_22 => ?_) (fun c_22 => ?_)
    · refine lv_bipush (v := (-4)) hx hb dX6_leave_34 (by decide) ?_
      have q_3 : fsa = (up_leave sz fsa ffz (nI jn) fsa 3) := by simp [rr_leave, up_leave, le_P, hn_P, up_i, h_7, t_jn, c_22]
      obtain ⟨hP, hD⟩ := cs_W (fun z_z => [ob_J y 6 [.int 0, .int (nI hh), .int r0, .int r1, .int r2, .int r3, .ref mb, .int given, .int mrew, .int (nI sz), .ref mk, .ref mc, .ref ms, .ref md, .ref mf, .ref mst, .ref mth, .ref mdr, .ref mw, .ref msh, .ref mpo, .ref mpa, .ref mde, .ref mj], ar_I ms cI 8 z_z, ar_I md cI 8 fdm, ar_I mf cZ 8 ffz]) q_3 hP hD
      have q_4 : fdm = (up_leave sz fsa ffz (nI jn) fdm (nI (hh + w_))) := by simp [rr_leave, up_leave, le_P, hn_P, up_i, h_7, t_jn, c_22]
      obtain ⟨hP, hD⟩ := cs_W (fun z_z => [ob_J y 6 [.int 0, .int (nI hh), .int r0, .int r1, .int r2, .int r3, .ref mb, .int given, .int mrew, .int (nI sz), .ref mk, .ref mc, .ref ms, .ref md, .ref mf, .ref mst, .ref mth, .ref mdr, .ref mw, .ref msh, .ref mpo, .ref mpa, .ref mde, .ref mj], ar_I ms cI 8 (up_leave sz fsa ffz (nI jn) fsa 3), ar_I md cI 8 z_z, ar_I mf cZ 8 ffz]) q_4 hP hD
      exact re_I (w1 := fun u_u : Unit => [ob_J y 6 [.int 0, .int (nI hh), .int r0, .int r1, .int r2, .int r3, .ref mb, .int given, .int mrew, .int (nI sz), .ref mk, .ref mc, .ref ms, .ref md, .ref mf, .ref mst, .ref mth, .ref mdr, .ref mw, .ref msh, .ref mpo, .ref mpa, .ref mde, .ref mj], ar_I ms cI 8 (up_leave sz fsa ffz (nI jn) fsa 3), ar_I md cI 8 (up_leave sz fsa ffz (nI jn) fdm (nI (hh + w_))), ar_I mf cZ 8 ffz]) (v := (-4)) hx hb hr hlk hK hS rfl () hP hD (show (-4) = rr_leave hh w_ sz fsa ffz (nI jn) from by simp [rr_leave, up_leave, le_P, hn_P, up_i, h_7, t_jn, c_22]) dX6_leave_36
    · refine lv_aload_n hx hb dX6_leave_25 rfl (lv_at hl 0 rfl) ?_
      refine va_get (ci := 6) (v := .ref mf) (C := RX6) (T := TX6) (N := 24) hx hb hts bi_6 hown hK hP 0 rfl rfl 14 (by decide) (hts _ bw_419) (fun _ h9 => h9) rfl dX6_leave_26 ?_
      refine lv_iload_n hx hb dX6_leave_29 rfl (lv_at hl 1 rfl) ?_
      refine ar_zd hx hb hK hP 3 (k := jn) rfl rfl (by omega) (by decide) dX6_leave_30 ?_
      refine lv_if_eq (tgt := 37) hx hb dX6_leave_31 (by decide) (fun c_31 => ?_) (fun c_31 => ?_)
      · refine lv_aload_n hx hb dX6_leave_37 rfl (lv_at hl 0 rfl) ?_
        refine va_get (ci := 6) (v := .ref ms) (C := RX6) (T := TX6) (N := 24) hx hb hts bi_6 hown hK hP 0 rfl rfl 12 (by decide) (hts _ bw_417) (fun _ h9 => h9) rfl dX6_leave_38 ?_
        refine lv_iload_n hx hb dX6_leave_41 rfl (lv_at hl 1 rfl) ?_
        refine lv_iconst (v := 3) hx hb dX6_leave_42 (by decide) ?_
        refine ar_st hx hb hK hP hD hS 1 (k := jn) rfl rfl (by omega) (by decide) dX6_leave_43 _ rfl (fun H locs hP hD hS => ?_)
        have hP : va_P D cl_A [ob_J y 6 [.int 0, .int (nI hh), .int r0, .int r1, .int r2, .int r3, .ref mb, .int given, .int mrew, .int (nI sz), .ref mk, .ref mc, .ref ms, .ref md, .ref mf, .ref mst, .ref mth, .ref mdr, .ref mw, .ref msh, .ref mpo, .ref mpa, .ref mde, .ref mj], ar_I ms cI 8 (upd fsa jn 3), ar_I md cI 8 fdm, ar_I mf cZ 8 ffz] H := hP
        have hD : va_D A [ob_J y 6 [.int 0, .int (nI hh), .int r0, .int r1, .int r2, .int r3, .ref mb, .int given, .int mrew, .int (nI sz), .ref mk, .ref mc, .ref ms, .ref md, .ref mf, .ref mst, .ref mth, .ref mdr, .ref mw, .ref msh, .ref mpo, .ref mpa, .ref mde, .ref mj], ar_I ms cI 8 (upd fsa jn 3), ar_I md cI 8 fdm, ar_I mf cZ 8 ffz] := hD
        refine lv_aload_n hx hb dX6_leave_44 rfl (lv_at hl 0 rfl) ?_
        refine va_get (ci := 6) (v := .ref md) (C := RX6) (T := TX6) (N := 24) hx hb hts bi_6 hown hK hP 0 rfl rfl 13 (by decide) (hts _ bw_418) (fun _ h9 => h9) rfl dX6_leave_45 ?_
        refine lv_iload_n hx hb dX6_leave_48 rfl (lv_at hl 1 rfl) ?_
        refine lv_aload_n hx hb dX6_leave_49 rfl (lv_at hl 0 rfl) ?_
        refine va_get (ci := 6) (v := .int (nI hh)) (C := RX6) (T := TX6) (N := 24) hx hb hts bi_6 hown hK hP 0 rfl rfl 1 (by decide) (hts _ bw_406) (fun _ h9 => h9) rfl dX6_leave_50 ?_
        refine lv_aload_n hx hb dX6_leave_53 rfl (lv_at hl 0 rfl) ?_
        refine va_get (ci := 6) (v := .int r0) (C := RX6) (T := TX6) (N := 24) hx hb hts bi_6 hown hK hP 0 rfl rfl 2 (by decide) (hts _ bw_407) (fun _ h9 => h9) rfl dX6_leave_54 ?_
        refine tp_i (x' := nI w_) (hw) ?_
        refine lv_iadd hx hb dX6_leave_57 ?_
        refine tp_i (x' := nI (hh + w_)) (nn_add rfl rfl) ?_
        refine ar_st hx hb hK hP hD hS 2 (k := jn) rfl rfl (by omega) (by decide) dX6_leave_58 _ rfl (fun H locs hP hD hS => ?_)
        have hP : va_P D cl_A [ob_J y 6 [.int 0, .int (nI hh), .int r0, .int r1, .int r2, .int r3, .ref mb, .int given, .int mrew, .int (nI sz), .ref mk, .ref mc, .ref ms, .ref md, .ref mf, .ref mst, .ref mth, .ref mdr, .ref mw, .ref msh, .ref mpo, .ref mpa, .ref mde, .ref mj], ar_I ms cI 8 (upd fsa jn 3), ar_I md cI 8 (upd fdm jn (nI (hh + w_))), ar_I mf cZ 8 ffz] H := hP
        have hD : va_D A [ob_J y 6 [.int 0, .int (nI hh), .int r0, .int r1, .int r2, .int r3, .ref mb, .int given, .int mrew, .int (nI sz), .ref mk, .ref mc, .ref ms, .ref md, .ref mf, .ref mst, .ref mth, .ref mdr, .ref mw, .ref msh, .ref mpo, .ref mpa, .ref mde, .ref mj], ar_I ms cI 8 (upd fsa jn 3), ar_I md cI 8 (upd fdm jn (nI (hh + w_))), ar_I mf cZ 8 ffz] := hD
        refine lv_aload_n hx hb dX6_leave_59 rfl (lv_at hl 0 rfl) ?_
        refine va_get (ci := 6) (v := .ref md) (C := RX6) (T := TX6) (N := 24) hx hb hts bi_6 hown hK hP 0 rfl rfl 13 (by decide) (hts _ bw_418) (fun _ h9 => h9) rfl dX6_leave_60 ?_
        refine lv_iload_n hx hb dX6_leave_63 rfl (lv_at hl 1 rfl) ?_
        refine ar_ld hx hb hK hP 2 (k := jn) rfl rfl (by omega) (by decide) dX6_leave_64 ?_
        have q_5 : (upd fsa jn 3) = (up_leave sz fsa ffz (nI jn) fsa 3) := by simp [rr_leave, up_leave, le_P, hn_P, up_i, h_7, t_jn, c_22, c_31]
        obtain ⟨hP, hD⟩ := cs_W (fun z_z => [ob_J y 6 [.int 0, .int (nI hh), .int r0, .int r1, .int r2, .int r3, .ref mb, .int given, .int mrew, .int (nI sz), .ref mk, .ref mc, .ref ms, .ref md, .ref mf, .ref mst, .ref mth, .ref mdr, .ref mw, .ref msh, .ref mpo, .ref mpa, .ref mde, .ref mj], ar_I ms cI 8 z_z, ar_I md cI 8 (upd fdm jn (nI (hh + w_))), ar_I mf cZ 8 ffz]) q_5 hP hD
        have q_6 : (upd fdm jn (nI (hh + w_))) = (up_leave sz fsa ffz (nI jn) fdm (nI (hh + w_))) := by simp [rr_leave, up_leave, le_P, hn_P, up_i, h_7, t_jn, c_22, c_31]
        obtain ⟨hP, hD⟩ := cs_W (fun z_z => [ob_J y 6 [.int 0, .int (nI hh), .int r0, .int r1, .int r2, .int r3, .ref mb, .int given, .int mrew, .int (nI sz), .ref mk, .ref mc, .ref ms, .ref md, .ref mf, .ref mst, .ref mth, .ref mdr, .ref mw, .ref msh, .ref mpo, .ref mpa, .ref mde, .ref mj], ar_I ms cI 8 (up_leave sz fsa ffz (nI jn) fsa 3), ar_I md cI 8 z_z, ar_I mf cZ 8 ffz]) q_6 hP hD
        exact re_I (w1 := fun u_u : Unit => [ob_J y 6 [.int 0, .int (nI hh), .int r0, .int r1, .int r2, .int r3, .ref mb, .int given, .int mrew, .int (nI sz), .ref mk, .ref mc, .ref ms, .ref md, .ref mf, .ref mst, .ref mth, .ref mdr, .ref mw, .ref msh, .ref mpo, .ref mpa, .ref mde, .ref mj], ar_I ms cI 8 (up_leave sz fsa ffz (nI jn) fsa 3), ar_I md cI 8 (up_leave sz fsa ffz (nI jn) fdm (nI (hh + w_))), ar_I mf cZ 8 ffz]) (v := (upd fdm jn (nI (hh + w_))) jn) hx hb hr hlk hK hS rfl () hP hD (show ((upd fdm jn (nI (hh + w_))) jn) = rr_leave hh w_ sz fsa ffz (nI jn) from by simp [rr_leave, up_leave, le_P, hn_P, up_i, h_7, t_jn, c_22, c_31]) dX6_leave_65
      · refine lv_bipush (v := (-4)) hx hb dX6_leave_34 (by decide) ?_
        have q_7 : fsa = (up_leave sz fsa ffz (nI jn) fsa 3) := by simp [rr_leave, up_leave, le_P, hn_P, up_i, h_7, t_jn, c_22, c_31]
        obtain ⟨hP, hD⟩ := cs_W (fun z_z => [ob_J y 6 [.int 0, .int (nI hh), .int r0, .int r1, .int r2, .int r3, .ref mb, .int given, .int mrew, .int (nI sz), .ref mk, .ref mc, .ref ms, .ref md, .ref mf, .ref mst, .ref mth, .ref mdr, .ref mw, .ref msh, .ref mpo, .ref mpa, .ref mde, .ref mj], ar_I ms cI 8 z_z, ar_I md cI 8 fdm, ar_I mf cZ 8 ffz]) q_7 hP hD
        have q_8 : fdm = (up_leave sz fsa ffz (nI jn) fdm (nI (hh + w_))) := by simp [rr_leave, up_leave, le_P, hn_P, up_i, h_7, t_jn, c_22, c_31]
        obtain ⟨hP, hD⟩ := cs_W (fun z_z => [ob_J y 6 [.int 0, .int (nI hh), .int r0, .int r1, .int r2, .int r3, .ref mb, .int given, .int mrew, .int (nI sz), .ref mk, .ref mc, .ref ms, .ref md, .ref mf, .ref mst, .ref mth, .ref mdr, .ref mw, .ref msh, .ref mpo, .ref mpa, .ref mde, .ref mj], ar_I ms cI 8 (up_leave sz fsa ffz (nI jn) fsa 3), ar_I md cI 8 z_z, ar_I mf cZ 8 ffz]) q_8 hP hD
        exact re_I (w1 := fun u_u : Unit => [ob_J y 6 [.int 0, .int (nI hh), .int r0, .int r1, .int r2, .int r3, .ref mb, .int given, .int mrew, .int (nI sz), .ref mk, .ref mc, .ref ms, .ref md, .ref mf, .ref mst, .ref mth, .ref mdr, .ref mw, .ref msh, .ref mpo, .ref mpa, .ref mde, .ref mj], ar_I ms cI 8 (up_leave sz fsa ffz (nI jn) fsa 3), ar_I md cI 8 (up_leave sz fsa ffz (nI jn) fdm (nI (hh + w_))), ar_I mf cZ 8 ffz]) (v := (-4)) hx hb hr hlk hK hS rfl () hP hD (show (-4) = rr_leave hh w_ sz fsa ffz (nI jn) from by simp [rr_leave, up_leave, le_P, hn_P, up_i, h_7, t_jn, c_22, c_31]) dX6_leave_36

set_option maxHeartbeats 4000000 in
set_option maxRecDepth 100000 in
theorem k_X6_freeze (l : Launch) (D : va_G) (cI cJ cZ : ClassId) (y : Nat) (mf : Nat) (th : Int32) (hh : Nat) (r0 : Int32) (r1 : Int32) (r2 : Int32) (r3 : Int32) (mb : Nat) (given : Int32) (mrew : Int32) (sz : Nat) (mk : Nat) (mc : Nat) (ms : Nat) (md : Nat) (mst : Nat) (mth : Nat) (mdr : Nat) (mw : Nat) (msh : Nat) (mpo : Nat) (mpa : Nat) (mde : Nat) (mj : Nat) (ffz : Nat → Int32) (n : Int32) (on_ : Int32) (hsz : sz ≤ 8) (hon : vp_nar .boolean on_ = on_) : mt_I l yX6_freeze cX6_freeze 4 .int 2 46 D cI cJ cZ [ob_J y 6 [.int th, .int (nI hh), .int r0, .int r1, .int r2, .int r3, .ref mb, .int given, .int mrew, .int (nI sz), .ref mk, .ref mc, .ref ms, .ref md, .ref mf, .ref mst, .ref mth, .ref mdr, .ref mw, .ref msh, .ref mpo, .ref mpa, .ref mde, .ref mj], ar_I mf cZ 8 ffz] [.ref y, .int n, .int on_] (fun r (u_u : Unit) => r = rr_freeze sz ffz n) (fun u_u : Unit => [ob_J y 6 [.int 0, .int (nI hh), .int r0, .int r1, .int r2, .int r3, .ref mb, .int given, .int mrew, .int (nI sz), .ref mk, .ref mc, .ref ms, .ref md, .ref mf, .ref mst, .ref mth, .ref mdr, .ref mw, .ref msh, .ref mpo, .ref mpa, .ref mde, .ref mj], ar_I mf cZ 8 (fz_freeze sz ffz n on_)]) := by
  refine en_I (by decide) (Nat.le_of_ble_eq_true rfl) ?_
  intro p e s m below meth c A ls H locs hx hb hr hml hts hown hlk hN hK hA hP hD hS hl
  have hown : s.vm.findClass RX6 = some m.cls := hown
  have hl : lv_has ls 4 [(0, .ref y), (1, .int n), (2, .int on_)] := hl
  refine lv_aload_n hx hb dX6_freeze_0 rfl (lv_at hl 0 rfl) ?_
  refine lv_iconst (v := 0) hx hb dX6_freeze_1 (by decide) ?_
  refine va_put (ci := 6) (v := .int 0) (ty := .int) (C := RX6) (T := TX6) (N := 24) hx hb hts bi_6 tyX6 tyX6_ok nmX6 hown hK hP hD hS 0 rfl rfl 0 (by decide) (hts _ bw_405) (fun _ h9 => h9) rfl (by decide +kernel) rfl rfl (Nat.le_of_ble_eq_true rfl) dX6_freeze_2 (fun H locs hP hD hS => ?_)
  have hP : va_P D cl_A [ob_J y 6 [.int 0, .int (nI hh), .int r0, .int r1, .int r2, .int r3, .ref mb, .int given, .int mrew, .int (nI sz), .ref mk, .ref mc, .ref ms, .ref md, .ref mf, .ref mst, .ref mth, .ref mdr, .ref mw, .ref msh, .ref mpo, .ref mpa, .ref mde, .ref mj], ar_I mf cZ 8 ffz] H := hP
  have hD : va_D A [ob_J y 6 [.int 0, .int (nI hh), .int r0, .int r1, .int r2, .int r3, .ref mb, .int given, .int mrew, .int (nI sz), .ref mk, .ref mc, .ref ms, .ref md, .ref mf, .ref mst, .ref mth, .ref mdr, .ref mw, .ref msh, .ref mpo, .ref mpa, .ref mde, .ref mj], ar_I mf cZ 8 ffz] := hD
  refine lv_aload_n hx hb dX6_freeze_5 rfl (lv_at hl 0 rfl) ?_
  refine lv_iload_n hx hb dX6_freeze_6 rfl (lv_at hl 1 rfl) ?_
  refine ca_VI (rest := []) (wr := [ar_I mf cZ 8 ffz]) (w2 := fun u_u => [ob_J y 6 [.int 0, .int (nI hh), .int r0, .int r1, .int r2, .int r3, .ref mb, .int given, .int mrew, .int (nI sz), .ref mk, .ref mc, .ref ms, .ref md, .ref mf, .ref mst, .ref mth, .ref mdr, .ref mw, .ref msh, .ref mpo, .ref mpa, .ref mde, .ref mj], ar_I mf cZ 8 ffz]) (k_X6_noNode l D cI cJ cZ y 0 hh r0 r1 r2 r3 mb given mrew sz mk mc ms md mf mst mth mdr mw msh mpo mpa mde mj n (by first | assumption | omega)) hx hb hml hown hts hN hK hA hP hD hS 6 0 rfl rfl bw_506 bw_508 bs_8 bw_7 bw_509 1 rfl (by decide +kernel) ⟨by decide, by decide⟩ [0] [1] [1, 0] rfl rfl (by decide) (fun _ => rfl) hl.1 rfl (Nat.le_of_ble_eq_true rfl) dX6_freeze_7 ⟨Nat.zero_le _, Nat.zero_le _⟩ (fun r_7 u_u H locs w_7 hP hD hS => ?_)
  have hP : va_P D cl_A [ob_J y 6 [.int 0, .int (nI hh), .int r0, .int r1, .int r2, .int r3, .ref mb, .int given, .int mrew, .int (nI sz), .ref mk, .ref mc, .ref ms, .ref md, .ref mf, .ref mst, .ref mth, .ref mdr, .ref mw, .ref msh, .ref mpo, .ref mpa, .ref mde, .ref mj], ar_I mf cZ 8 ffz] H := hP
  have hD : va_D A [ob_J y 6 [.int 0, .int (nI hh), .int r0, .int r1, .int r2, .int r3, .ref mb, .int given, .int mrew, .int (nI sz), .ref mk, .ref mc, .ref ms, .ref md, .ref mf, .ref mst, .ref mth, .ref mdr, .ref mw, .ref msh, .ref mpo, .ref mpa, .ref mde, .ref mj], ar_I mf cZ 8 ffz] := hD
  have w_7 : r_7 = if ¬ (0 ≤ n ∧ n < nI sz) then 1 else 0 := w_7
  by_cases h_7 : ¬ (0 ≤ n ∧ n < nI sz)
  · rw [if_pos h_7] at w_7; subst w_7
    refine lv_if_eq (tgt := 15) hx hb dX6_freeze_10 (by decide) (fun h9 => absurd h9 (by decide)) (fun _ => ?_)
    refine lv_iconst (v := (-1)) hx hb dX6_freeze_13 (by decide) ?_
    have q_1 : ffz = (fz_freeze sz ffz n on_) := by simp [rr_freeze, fz_freeze, hn_P, h_7]
    obtain ⟨hP, hD⟩ := cs_W (fun z_z => [ob_J y 6 [.int 0, .int (nI hh), .int r0, .int r1, .int r2, .int r3, .ref mb, .int given, .int mrew, .int (nI sz), .ref mk, .ref mc, .ref ms, .ref md, .ref mf, .ref mst, .ref mth, .ref mdr, .ref mw, .ref msh, .ref mpo, .ref mpa, .ref mde, .ref mj], ar_I mf cZ 8 z_z]) q_1 hP hD
    exact re_I (w1 := fun u_u : Unit => [ob_J y 6 [.int 0, .int (nI hh), .int r0, .int r1, .int r2, .int r3, .ref mb, .int given, .int mrew, .int (nI sz), .ref mk, .ref mc, .ref ms, .ref md, .ref mf, .ref mst, .ref mth, .ref mdr, .ref mw, .ref msh, .ref mpo, .ref mpa, .ref mde, .ref mj], ar_I mf cZ 8 (fz_freeze sz ffz n on_)]) (v := (-1)) hx hb hr hlk hK hS rfl () hP hD (show (-1) = rr_freeze sz ffz n from by simp [rr_freeze, fz_freeze, hn_P, h_7]) dX6_freeze_14
  · rw [if_neg h_7] at w_7; subst w_7
    have h_7 := Decidable.not_not.mp h_7
    obtain ⟨jn, h_jn, rfl⟩ : ∃ z : Nat, z < sz ∧ n = nI z := ix_lt (by omega) h_7
    have t_jn := tn_nI (n := jn) (by omega)
    refine lv_if_eq (tgt := 15) hx hb dX6_freeze_10 (by decide) (fun _ => ?_) (fun h9 => absurd (by decide) h9)
    refine lv_aload_n hx hb dX6_freeze_15 rfl (lv_at hl 0 rfl) ?_
    refine va_get (ci := 6) (v := .ref mf) (C := RX6) (T := TX6) (N := 24) hx hb hts bi_6 hown hK hP 0 rfl rfl 14 (by decide) (hts _ bw_419) (fun _ h9 => h9) rfl dX6_freeze_16 ?_
    refine lv_iload_n hx hb dX6_freeze_19 rfl (lv_at hl 1 rfl) ?_
    refine ar_zd hx hb hK hP 1 (k := jn) rfl rfl (by omega) (by decide) dX6_freeze_20 ?_
    refine lv_if_eq (tgt := 28) hx hb dX6_freeze_21 (by decide) (fun c_21 => ?_) (fun c_21 => ?_)
    · refine lv_iconst (v := 0) hx hb dX6_freeze_28 (by decide) ?_
      refine lv_istore_n (lv' := [(3, .int 0), (0, .ref y), (1, .int (nI jn)), (2, .int on_)]) hx hb dX6_freeze_29 rfl hl (by decide) rfl (fun ls hl => ?_)
      refine lv_aload_n hx hb dX6_freeze_30 rfl (lv_at hl 1 rfl) ?_
      refine va_get (ci := 6) (v := .ref mf) (C := RX6) (T := TX6) (N := 24) hx hb hts bi_6 hown hK hP 0 rfl rfl 14 (by decide) (hts _ bw_419) (fun _ h9 => h9) rfl dX6_freeze_31 ?_
      refine lv_iload_n hx hb dX6_freeze_34 rfl (lv_at hl 2 rfl) ?_
      refine lv_iload_n hx hb dX6_freeze_35 rfl (lv_at hl 3 rfl) ?_
      refine ar_zst hx hb hK hP hD hS 1 (k := jn) rfl rfl (by omega) (by decide) (hon) dX6_freeze_36 _ rfl (fun H locs hP hD hS => ?_)
      have hP : va_P D cl_A [ob_J y 6 [.int 0, .int (nI hh), .int r0, .int r1, .int r2, .int r3, .ref mb, .int given, .int mrew, .int (nI sz), .ref mk, .ref mc, .ref ms, .ref md, .ref mf, .ref mst, .ref mth, .ref mdr, .ref mw, .ref msh, .ref mpo, .ref mpa, .ref mde, .ref mj], ar_I mf cZ 8 (upd ffz jn on_)] H := hP
      have hD : va_D A [ob_J y 6 [.int 0, .int (nI hh), .int r0, .int r1, .int r2, .int r3, .ref mb, .int given, .int mrew, .int (nI sz), .ref mk, .ref mc, .ref ms, .ref md, .ref mf, .ref mst, .ref mth, .ref mdr, .ref mw, .ref msh, .ref mpo, .ref mpa, .ref mde, .ref mj], ar_I mf cZ 8 (upd ffz jn on_)] := hD
      refine lv_iload_n hx hb dX6_freeze_37 rfl (lv_at hl 0 rfl) ?_
      have q_2 : (upd ffz jn on_) = (fz_freeze sz ffz (nI jn) on_) := by simp [rr_freeze, fz_freeze, hn_P, h_7, t_jn, c_21]
      obtain ⟨hP, hD⟩ := cs_W (fun z_z => [ob_J y 6 [.int 0, .int (nI hh), .int r0, .int r1, .int r2, .int r3, .ref mb, .int given, .int mrew, .int (nI sz), .ref mk, .ref mc, .ref ms, .ref md, .ref mf, .ref mst, .ref mth, .ref mdr, .ref mw, .ref msh, .ref mpo, .ref mpa, .ref mde, .ref mj], ar_I mf cZ 8 z_z]) q_2 hP hD
      exact re_I (w1 := fun u_u : Unit => [ob_J y 6 [.int 0, .int (nI hh), .int r0, .int r1, .int r2, .int r3, .ref mb, .int given, .int mrew, .int (nI sz), .ref mk, .ref mc, .ref ms, .ref md, .ref mf, .ref mst, .ref mth, .ref mdr, .ref mw, .ref msh, .ref mpo, .ref mpa, .ref mde, .ref mj], ar_I mf cZ 8 (fz_freeze sz ffz (nI jn) on_)]) (v := 0) hx hb hr hlk hK hS rfl () hP hD (show 0 = rr_freeze sz ffz (nI jn) from by simp [rr_freeze, fz_freeze, hn_P, h_7, t_jn, c_21]) dX6_freeze_38
    · refine lv_iconst (v := 1) hx hb dX6_freeze_24 (by decide) ?_
      refine lv_goto (tgt := 29) hx hb dX6_freeze_25 (by decide) ?_
      refine lv_istore_n (lv' := [(3, .int 1), (0, .ref y), (1, .int (nI jn)), (2, .int on_)]) hx hb dX6_freeze_29 rfl hl (by decide) rfl (fun ls hl => ?_)
      refine lv_aload_n hx hb dX6_freeze_30 rfl (lv_at hl 1 rfl) ?_
      refine va_get (ci := 6) (v := .ref mf) (C := RX6) (T := TX6) (N := 24) hx hb hts bi_6 hown hK hP 0 rfl rfl 14 (by decide) (hts _ bw_419) (fun _ h9 => h9) rfl dX6_freeze_31 ?_
      refine lv_iload_n hx hb dX6_freeze_34 rfl (lv_at hl 2 rfl) ?_
      refine lv_iload_n hx hb dX6_freeze_35 rfl (lv_at hl 3 rfl) ?_
      refine ar_zst hx hb hK hP hD hS 1 (k := jn) rfl rfl (by omega) (by decide) (hon) dX6_freeze_36 _ rfl (fun H locs hP hD hS => ?_)
      have hP : va_P D cl_A [ob_J y 6 [.int 0, .int (nI hh), .int r0, .int r1, .int r2, .int r3, .ref mb, .int given, .int mrew, .int (nI sz), .ref mk, .ref mc, .ref ms, .ref md, .ref mf, .ref mst, .ref mth, .ref mdr, .ref mw, .ref msh, .ref mpo, .ref mpa, .ref mde, .ref mj], ar_I mf cZ 8 (upd ffz jn on_)] H := hP
      have hD : va_D A [ob_J y 6 [.int 0, .int (nI hh), .int r0, .int r1, .int r2, .int r3, .ref mb, .int given, .int mrew, .int (nI sz), .ref mk, .ref mc, .ref ms, .ref md, .ref mf, .ref mst, .ref mth, .ref mdr, .ref mw, .ref msh, .ref mpo, .ref mpa, .ref mde, .ref mj], ar_I mf cZ 8 (upd ffz jn on_)] := hD
      refine lv_iload_n hx hb dX6_freeze_37 rfl (lv_at hl 0 rfl) ?_
      have q_3 : (upd ffz jn on_) = (fz_freeze sz ffz (nI jn) on_) := by simp [rr_freeze, fz_freeze, hn_P, h_7, t_jn, c_21]
      obtain ⟨hP, hD⟩ := cs_W (fun z_z => [ob_J y 6 [.int 0, .int (nI hh), .int r0, .int r1, .int r2, .int r3, .ref mb, .int given, .int mrew, .int (nI sz), .ref mk, .ref mc, .ref ms, .ref md, .ref mf, .ref mst, .ref mth, .ref mdr, .ref mw, .ref msh, .ref mpo, .ref mpa, .ref mde, .ref mj], ar_I mf cZ 8 z_z]) q_3 hP hD
      exact re_I (w1 := fun u_u : Unit => [ob_J y 6 [.int 0, .int (nI hh), .int r0, .int r1, .int r2, .int r3, .ref mb, .int given, .int mrew, .int (nI sz), .ref mk, .ref mc, .ref ms, .ref md, .ref mf, .ref mst, .ref mth, .ref mdr, .ref mw, .ref msh, .ref mpo, .ref mpa, .ref mde, .ref mj], ar_I mf cZ 8 (fz_freeze sz ffz (nI jn) on_)]) (v := 1) hx hb hr hlk hK hS rfl () hP hD (show 1 = rr_freeze sz ffz (nI jn) from by simp [rr_freeze, fz_freeze, hn_P, h_7, t_jn, c_21]) dX6_freeze_38

set_option maxHeartbeats 4000000 in
set_option maxRecDepth 100000 in
theorem k_X6_balance (l : Launch) (D : va_G) (cI cJ cZ : ClassId) (y : Nat) (mb : Nat) (th : Int32) (hh : Nat) (r0 : Int32) (r1 : Int32) (r2 : Int32) (r3 : Int32) (given : Int32) (mrew : Int32) (sz : Nat) (mk : Nat) (mc : Nat) (ms : Nat) (md : Nat) (mf : Nat) (mst : Nat) (mth : Nat) (mdr : Nat) (mw : Nat) (msh : Nat) (mpo : Nat) (mpa : Nat) (mde : Nat) (mj : Nat) (fbal : Nat → Int32) (a : Int32)  : mt_I l yX6_balance cX6_balance 2 .int 2 45 D cI cJ cZ [ob_J y 6 [.int th, .int (nI hh), .int r0, .int r1, .int r2, .int r3, .ref mb, .int given, .int mrew, .int (nI sz), .ref mk, .ref mc, .ref ms, .ref md, .ref mf, .ref mst, .ref mth, .ref mdr, .ref mw, .ref msh, .ref mpo, .ref mpa, .ref mde, .ref mj], ar_I mb cI 10 fbal] [.ref y, .int a] (fun r (u_u : Unit) => r = rr_balance fbal a) (fun u_u : Unit => [ob_J y 6 [.int 0, .int (nI hh), .int r0, .int r1, .int r2, .int r3, .ref mb, .int given, .int mrew, .int (nI sz), .ref mk, .ref mc, .ref ms, .ref md, .ref mf, .ref mst, .ref mth, .ref mdr, .ref mw, .ref msh, .ref mpo, .ref mpa, .ref mde, .ref mj], ar_I mb cI 10 fbal]) := by
  refine en_I (by decide) (Nat.le_of_ble_eq_true rfl) ?_
  intro p e s m below meth c A ls H locs hx hb hr hml hts hown hlk hN hK hA hP hD hS hl
  have hown : s.vm.findClass RX6 = some m.cls := hown
  have hl : lv_has ls 2 [(0, .ref y), (1, .int a)] := hl
  refine lv_aload_n hx hb dX6_balance_0 rfl (lv_at hl 0 rfl) ?_
  refine lv_iconst (v := 0) hx hb dX6_balance_1 (by decide) ?_
  refine va_put (ci := 6) (v := .int 0) (ty := .int) (C := RX6) (T := TX6) (N := 24) hx hb hts bi_6 tyX6 tyX6_ok nmX6 hown hK hP hD hS 0 rfl rfl 0 (by decide) (hts _ bw_405) (fun _ h9 => h9) rfl (by decide +kernel) rfl rfl (Nat.le_of_ble_eq_true rfl) dX6_balance_2 (fun H locs hP hD hS => ?_)
  have hP : va_P D cl_A [ob_J y 6 [.int 0, .int (nI hh), .int r0, .int r1, .int r2, .int r3, .ref mb, .int given, .int mrew, .int (nI sz), .ref mk, .ref mc, .ref ms, .ref md, .ref mf, .ref mst, .ref mth, .ref mdr, .ref mw, .ref msh, .ref mpo, .ref mpa, .ref mde, .ref mj], ar_I mb cI 10 fbal] H := hP
  have hD : va_D A [ob_J y 6 [.int 0, .int (nI hh), .int r0, .int r1, .int r2, .int r3, .ref mb, .int given, .int mrew, .int (nI sz), .ref mk, .ref mc, .ref ms, .ref md, .ref mf, .ref mst, .ref mth, .ref mdr, .ref mw, .ref msh, .ref mpo, .ref mpa, .ref mde, .ref mj], ar_I mb cI 10 fbal] := hD
  refine lv_iload_n hx hb dX6_balance_5 rfl (lv_at hl 1 rfl) ?_
  refine ca_SI (rest := []) (k_X6_noAccount l D cI cJ cZ a ) hx hb hml hown hts hN hK hA hP hD hS bw_493 bw_494 bw_7 bw_495 1 rfl (by decide +kernel) ⟨by decide, by decide⟩ hl.1 rfl (Nat.le_of_ble_eq_true rfl) dX6_balance_6 ⟨Nat.zero_le _, Nat.zero_le _⟩ (fun r_6 u_u H locs w_6 hP hD hS => ?_)
  have w_6 : r_6 = if ¬ (0 ≤ a ∧ a ≤ 9) then 1 else 0 := w_6
  by_cases h_6 : ¬ (0 ≤ a ∧ a ≤ 9)
  · rw [if_pos h_6] at w_6; subst w_6
    refine lv_if_eq (tgt := 16) hx hb dX6_balance_9 (by decide) (fun h9 => absurd h9 (by decide)) (fun _ => ?_)
    refine lv_iconst (v := (-1)) hx hb dX6_balance_12 (by decide) ?_
    refine lv_goto (tgt := 22) hx hb dX6_balance_13 (by decide) ?_
    exact re_I (w1 := fun u_u : Unit => [ob_J y 6 [.int 0, .int (nI hh), .int r0, .int r1, .int r2, .int r3, .ref mb, .int given, .int mrew, .int (nI sz), .ref mk, .ref mc, .ref ms, .ref md, .ref mf, .ref mst, .ref mth, .ref mdr, .ref mw, .ref msh, .ref mpo, .ref mpa, .ref mde, .ref mj], ar_I mb cI 10 fbal]) (v := (-1)) hx hb hr hlk hK hS rfl () hP hD (show (-1) = rr_balance fbal a from by simp [rr_balance, ac_P, h_6]) dX6_balance_22
  · rw [if_neg h_6] at w_6; subst w_6
    have h_6 := Decidable.not_not.mp h_6
    obtain ⟨ia, h_ia, rfl⟩ : ∃ z : Nat, z < 10 ∧ a = nI z := ix_le (by decide) h_6
    have t_ia := tn_nI (n := ia) (by omega)
    refine lv_if_eq (tgt := 16) hx hb dX6_balance_9 (by decide) (fun _ => ?_) (fun h9 => absurd (by decide) h9)
    refine lv_aload_n hx hb dX6_balance_16 rfl (lv_at hl 0 rfl) ?_
    refine va_get (ci := 6) (v := .ref mb) (C := RX6) (T := TX6) (N := 24) hx hb hts bi_6 hown hK hP 0 rfl rfl 6 (by decide) (hts _ bw_411) (fun _ h9 => h9) rfl dX6_balance_17 ?_
    refine lv_iload_n hx hb dX6_balance_20 rfl (lv_at hl 1 rfl) ?_
    refine ar_ld hx hb hK hP 1 (k := ia) rfl rfl (by omega) (by decide) dX6_balance_21 ?_
    exact re_I (w1 := fun u_u : Unit => [ob_J y 6 [.int 0, .int (nI hh), .int r0, .int r1, .int r2, .int r3, .ref mb, .int given, .int mrew, .int (nI sz), .ref mk, .ref mc, .ref ms, .ref md, .ref mf, .ref mst, .ref mth, .ref mdr, .ref mw, .ref msh, .ref mpo, .ref mpa, .ref mde, .ref mj], ar_I mb cI 10 fbal]) (v := fbal ia) hx hb hr hlk hK hS rfl () hP hD (show (fbal ia) = rr_balance fbal (nI ia) from by simp [rr_balance, ac_P, h_6, t_ia]) dX6_balance_22

set_option maxHeartbeats 4000000 in
set_option maxRecDepth 100000 in
theorem k_X6_staked (l : Launch) (D : va_G) (cI cJ cZ : ClassId) (y : Nat) (mst : Nat) (th : Int32) (hh : Nat) (r0 : Int32) (r1 : Int32) (r2 : Int32) (r3 : Int32) (mb : Nat) (given : Int32) (mrew : Int32) (sz : Nat) (mk : Nat) (mc : Nat) (ms : Nat) (md : Nat) (mf : Nat) (mth : Nat) (mdr : Nat) (mw : Nat) (msh : Nat) (mpo : Nat) (mpa : Nat) (mde : Nat) (mj : Nat) (fstk : Nat → Int32) (a : Int32) (n : Int32) (hsz : sz ≤ 8) (hz0 : ∀ j, sz * 10 ≤ j → j < 80 → fstk j = 0) : mt_I l yX6_staked cX6_staked 5 .int 2 46 D cI cJ cZ [ob_J y 6 [.int th, .int (nI hh), .int r0, .int r1, .int r2, .int r3, .ref mb, .int given, .int mrew, .int (nI sz), .ref mk, .ref mc, .ref ms, .ref md, .ref mf, .ref mst, .ref mth, .ref mdr, .ref mw, .ref msh, .ref mpo, .ref mpa, .ref mde, .ref mj], ar_I mst cI 80 fstk] [.ref y, .int a, .int n] (fun r (u_u : Unit) => r = rr_staked sz fstk a n) (fun u_u : Unit => [ob_J y 6 [.int 0, .int (nI hh), .int r0, .int r1, .int r2, .int r3, .ref mb, .int given, .int mrew, .int (nI sz), .ref mk, .ref mc, .ref ms, .ref md, .ref mf, .ref mst, .ref mth, .ref mdr, .ref mw, .ref msh, .ref mpo, .ref mpa, .ref mde, .ref mj], ar_I mst cI 80 fstk]) := by
  refine en_I (by decide) (Nat.le_of_ble_eq_true rfl) ?_
  intro p e s m below meth c A ls H locs hx hb hr hml hts hown hlk hN hK hA hP hD hS hl
  have hown : s.vm.findClass RX6 = some m.cls := hown
  have hl : lv_has ls 5 [(0, .ref y), (1, .int a), (2, .int n)] := hl
  refine lv_aload_n hx hb dX6_staked_0 rfl (lv_at hl 0 rfl) ?_
  refine lv_iconst (v := 0) hx hb dX6_staked_1 (by decide) ?_
  refine va_put (ci := 6) (v := .int 0) (ty := .int) (C := RX6) (T := TX6) (N := 24) hx hb hts bi_6 tyX6 tyX6_ok nmX6 hown hK hP hD hS 0 rfl rfl 0 (by decide) (hts _ bw_405) (fun _ h9 => h9) rfl (by decide +kernel) rfl rfl (Nat.le_of_ble_eq_true rfl) dX6_staked_2 (fun H locs hP hD hS => ?_)
  have hP : va_P D cl_A [ob_J y 6 [.int 0, .int (nI hh), .int r0, .int r1, .int r2, .int r3, .ref mb, .int given, .int mrew, .int (nI sz), .ref mk, .ref mc, .ref ms, .ref md, .ref mf, .ref mst, .ref mth, .ref mdr, .ref mw, .ref msh, .ref mpo, .ref mpa, .ref mde, .ref mj], ar_I mst cI 80 fstk] H := hP
  have hD : va_D A [ob_J y 6 [.int 0, .int (nI hh), .int r0, .int r1, .int r2, .int r3, .ref mb, .int given, .int mrew, .int (nI sz), .ref mk, .ref mc, .ref ms, .ref md, .ref mf, .ref mst, .ref mth, .ref mdr, .ref mw, .ref msh, .ref mpo, .ref mpa, .ref mde, .ref mj], ar_I mst cI 80 fstk] := hD
  refine lv_iload_n hx hb dX6_staked_5 rfl (lv_at hl 1 rfl) ?_
  refine ca_SI (rest := []) (k_X6_noAccount l D cI cJ cZ a ) hx hb hml hown hts hN hK hA hP hD hS bw_493 bw_494 bw_7 bw_495 1 rfl (by decide +kernel) ⟨by decide, by decide⟩ hl.1 rfl (Nat.le_of_ble_eq_true rfl) dX6_staked_6 ⟨Nat.zero_le _, Nat.zero_le _⟩ (fun r_6 u_u H locs w_6 hP hD hS => ?_)
  have w_6 : r_6 = if ¬ (0 ≤ a ∧ a ≤ 9) then 1 else 0 := w_6
  by_cases h_6 : ¬ (0 ≤ a ∧ a ≤ 9)
  · rw [if_pos h_6] at w_6; subst w_6
    refine lv_if_ne (tgt := 25) hx hb dX6_staked_9 (by decide) (fun _ => ?_) (fun h9 => absurd h9 (by decide))
    refine lv_iconst (v := (-1)) hx hb dX6_staked_25 (by decide) ?_
    exact re_I (w1 := fun u_u : Unit => [ob_J y 6 [.int 0, .int (nI hh), .int r0, .int r1, .int r2, .int r3, .ref mb, .int given, .int mrew, .int (nI sz), .ref mk, .ref mc, .ref ms, .ref md, .ref mf, .ref mst, .ref mth, .ref mdr, .ref mw, .ref msh, .ref mpo, .ref mpa, .ref mde, .ref mj], ar_I mst cI 80 fstk]) (v := (-1)) hx hb hr hlk hK hS rfl () hP hD (show (-1) = rr_staked sz fstk a n from by simp [rr_staked, ac_P, hn_P, h_6]) dX6_staked_26
  · rw [if_neg h_6] at w_6; subst w_6
    have h_6 := Decidable.not_not.mp h_6
    obtain ⟨ia, h_ia, rfl⟩ : ∃ z : Nat, z < 10 ∧ a = nI z := ix_le (by decide) h_6
    have t_ia := tn_nI (n := ia) (by omega)
    refine lv_if_ne (tgt := 25) hx hb dX6_staked_9 (by decide) (fun h9 => absurd (by decide) h9) (fun _ => ?_)
    refine lv_iload_n hx hb dX6_staked_12 rfl (lv_at hl 2 rfl) ?_
    refine lv_iconst (v := (-1)) hx hb dX6_staked_13 (by decide) ?_
    refine lv_icmp_eq (tgt := 27) hx hb dX6_staked_14 (by decide) (fun c_14 => ?_) (fun c_14 => ?_)
    · subst c_14
      refine lv_iconst (v := 0) hx hb dX6_staked_27 (by decide) ?_
      refine lv_istore_n (lv' := [(3, .int 0), (0, .ref y), (1, .int (nI ia)), (2, .int (-1))]) hx hb dX6_staked_28 rfl hl (by decide) rfl (fun ls hl => ?_)
      refine lv_iconst (v := 0) hx hb dX6_staked_29 (by decide) ?_
      refine lv_istore (lv' := [(4, .int 0), (3, .int 0), (0, .ref y), (1, .int (nI ia)), (2, .int (-1))]) hx hb dX6_staked_30 hl (by decide) rfl (fun ls hl => ?_)
      have hl := lv_sub (l' := [(0, .ref y), (1, .int (nI ia)), (2, .int (-1)), (3, .int 0), (4, .int 0)]) hl [2, 3, 4, 1, 0] rfl
      have q_1 : 0 = (sI_ (fun k => fstk (k * 10 + ia)) 0) := rfl
      have hl := cs_L (fun z_z => [(0, .ref y), (1, .int (nI ia)), (2, .int (-1)), (3, .int z_z), (4, .int 0)]) q_1 hl
      have q_2 : 0 = (nI 0) := rfl
      have hl := cs_L (fun z_z => [(0, .ref y), (1, .int (nI ia)), (2, .int (-1)), (3, .int (sI_ (fun k => fstk (k * 10 + ia)) 0)), (4, .int z_z)]) q_2 hl
      have hl : lv_has ls 5 [(0, .ref y), (1, .int (nI ia)), (2, .int (-1)), (3, .int (sI_ (fun k => fstk (k * 10 + ia)) 0)), (4, .int (nI 0))] := hl
      refine lp_g (σ := Nat) (fun i => sz - i) (fun i => [ob_J y 6 [.int 0, .int (nI hh), .int r0, .int r1, .int r2, .int r3, .ref mb, .int given, .int mrew, .int (nI sz), .ref mk, .ref mc, .ref ms, .ref md, .ref mf, .ref mst, .ref mth, .ref mdr, .ref mw, .ref msh, .ref mpo, .ref mpa, .ref mde, .ref mj], ar_I mst cI 80 fstk]) (fun i => [(0, .ref y), (1, .int (nI ia)), (2, .int (-1)), (3, .int (sI_ (fun k => fstk (k * 10 + ia)) i)), (4, .int (nI i))]) (fun i => (i ≤ sz)) ?_ 0 (show (0 ≤ sz) from by omega) hP hD hS hl
      intro i H locs ls hF hP hD hS hl ih_32
      have hF : (i ≤ sz) := hF
      have hi := hF
      have hP : va_P D cl_A [ob_J y 6 [.int 0, .int (nI hh), .int r0, .int r1, .int r2, .int r3, .ref mb, .int given, .int mrew, .int (nI sz), .ref mk, .ref mc, .ref ms, .ref md, .ref mf, .ref mst, .ref mth, .ref mdr, .ref mw, .ref msh, .ref mpo, .ref mpa, .ref mde, .ref mj], ar_I mst cI 80 fstk] H := hP
      have hD : va_D A [ob_J y 6 [.int 0, .int (nI hh), .int r0, .int r1, .int r2, .int r3, .ref mb, .int given, .int mrew, .int (nI sz), .ref mk, .ref mc, .ref ms, .ref md, .ref mf, .ref mst, .ref mth, .ref mdr, .ref mw, .ref msh, .ref mpo, .ref mpa, .ref mde, .ref mj], ar_I mst cI 80 fstk] := hD
      have hl : lv_has ls 5 [(0, .ref y), (1, .int (nI ia)), (2, .int (-1)), (3, .int (sI_ (fun k => fstk (k * 10 + ia)) i)), (4, .int (nI i))] := hl
      refine lv_iload hx hb dX6_staked_32 (lv_at hl 4 rfl) ?_
      refine lv_aload_n hx hb dX6_staked_34 rfl (lv_at hl 0 rfl) ?_
      refine va_get (ci := 6) (v := .int (nI sz)) (C := RX6) (T := TX6) (N := 24) hx hb hts bi_6 hown hK hP 0 rfl rfl 9 (by decide) (hts _ bw_414) (fun _ h9 => h9) rfl dX6_staked_35 ?_
      refine lv_icmp_ge (tgt := 77) hx hb dX6_staked_38 (by decide) (fun c_38 => ?_) (fun c_38 => ?_)
      · have c_38 := qq_ge (a := i) (b := sz) c_38 (by omega) (by omega)
        refine lv_iload_n hx hb dX6_staked_77 rfl (lv_at hl 3 rfl) ?_
        exact re_I (w1 := fun u_u : Unit => [ob_J y 6 [.int 0, .int (nI hh), .int r0, .int r1, .int r2, .int r3, .ref mb, .int given, .int mrew, .int (nI sz), .ref mk, .ref mc, .ref ms, .ref md, .ref mf, .ref mst, .ref mth, .ref mdr, .ref mw, .ref msh, .ref mpo, .ref mpa, .ref mde, .ref mj], ar_I mst cI 80 fstk]) (v := sI_ (fun k => fstk (k * 10 + ia)) i) hx hb hr hlk hK hS rfl () hP hD (show (sI_ (fun k => fstk (k * 10 + ia)) i) = rr_staked sz fstk (nI ia) (-1) from by rw [show i = sz by omega, sI_z hsz (fun k h1 h2 => hz0 _ (by omega) (by omega))]; simp [rr_staked, ac_P, h_6, t_ia]) dX6_staked_78
      · have c_38 := qq_nge (a := i) (b := sz) c_38 (by omega) (by omega)
        refine lv_iload_n hx hb dX6_staked_41 rfl (lv_at hl 2 rfl) ?_
        refine lv_iconst (v := (-1)) hx hb dX6_staked_42 (by decide) ?_
        refine lv_icmp_eq (tgt := 52) hx hb dX6_staked_43 (by decide) (fun _ => ?_) (fun h9 => absurd (by decide) h9)
        refine lv_iload_n hx hb dX6_staked_52 rfl (lv_at hl 3 rfl) ?_
        refine lv_aload_n hx hb dX6_staked_53 rfl (lv_at hl 0 rfl) ?_
        refine va_get (ci := 6) (v := .ref mst) (C := RX6) (T := TX6) (N := 24) hx hb hts bi_6 hown hK hP 0 rfl rfl 15 (by decide) (hts _ bw_420) (fun _ h9 => h9) rfl dX6_staked_54 ?_
        refine lv_bipush (v := 10) hx hb dX6_staked_57 (by decide) ?_
        refine lv_iload hx hb dX6_staked_59 (lv_at hl 4 rfl) ?_
        refine lv_imul hx hb dX6_staked_61 ?_
        refine tp_i (x' := nI (i * 10)) (nn_mulc rfl rfl) ?_
        refine lv_iload_n hx hb dX6_staked_62 rfl (lv_at hl 1 rfl) ?_
        refine lv_iadd hx hb dX6_staked_63 ?_
        refine tp_i (x' := nI ((i * 10) + ia)) (nn_add rfl rfl) ?_
        refine ar_ld hx hb hK hP 1 (k := (i * 10) + ia) rfl rfl (by omega) (by decide) dX6_staked_64 ?_
        refine lv_iadd hx hb dX6_staked_65 ?_
        refine lv_goto (tgt := 70) hx hb dX6_staked_66 (by decide) ?_
        refine lv_istore_n (lv' := [(3, .int ((sI_ (fun k => fstk (k * 10 + ia)) i) + (fstk ((i * 10) + ia)))), (0, .ref y), (1, .int (nI ia)), (2, .int (-1)), (4, .int (nI i))]) hx hb dX6_staked_70 rfl hl (by decide) rfl (fun ls hl => ?_)
        refine lv_iinc (v := nI (i + 1)) (lv' := [(4, .int (nI (i + 1))), (3, .int ((sI_ (fun k => fstk (k * 10 + ia)) i) + (fstk ((i * 10) + ia)))), (0, .ref y), (1, .int (nI ia)), (2, .int (-1))]) hx hb dX6_staked_71 hl (k := 4) rfl (nI_1 _) (by decide) rfl (fun ls hl => ?_)
        refine lv_goto (tgt := 32) hx hb dX6_staked_74 (by decide) ?_
        have hl := lv_sub (l' := [(0, .ref y), (1, .int (nI ia)), (2, .int (-1)), (3, .int ((sI_ (fun k => fstk (k * 10 + ia)) i) + (fstk ((i * 10) + ia)))), (4, .int (nI (i + 1)))]) hl [2, 3, 4, 1, 0] rfl
        have q_3 : ((sI_ (fun k => fstk (k * 10 + ia)) i) + (fstk ((i * 10) + ia))) = (sI_ (fun k => fstk (k * 10 + ia)) (i + 1)) := rfl
        have hl := cs_L (fun z_z => [(0, .ref y), (1, .int (nI ia)), (2, .int (-1)), (3, .int z_z), (4, .int (nI (i + 1)))]) q_3 hl
        have hl : lv_has ls 5 [(0, .ref y), (1, .int (nI ia)), (2, .int (-1)), (3, .int (sI_ (fun k => fstk (k * 10 + ia)) (i + 1))), (4, .int (nI (i + 1)))] := hl
        exact ih_32 (i + 1) (show sz - (i + 1) < sz - i from by omega) (show ((i + 1) ≤ sz) from by omega) H locs ls hP hD hS hl
    · refine lv_aload_n hx hb dX6_staked_17 rfl (lv_at hl 0 rfl) ?_
      refine lv_iload_n hx hb dX6_staked_18 rfl (lv_at hl 2 rfl) ?_
      refine ca_VI (rest := []) (wr := [ar_I mst cI 80 fstk]) (w2 := fun u_u => [ob_J y 6 [.int 0, .int (nI hh), .int r0, .int r1, .int r2, .int r3, .ref mb, .int given, .int mrew, .int (nI sz), .ref mk, .ref mc, .ref ms, .ref md, .ref mf, .ref mst, .ref mth, .ref mdr, .ref mw, .ref msh, .ref mpo, .ref mpa, .ref mde, .ref mj], ar_I mst cI 80 fstk]) (k_X6_noNode l D cI cJ cZ y 0 hh r0 r1 r2 r3 mb given mrew sz mk mc ms md mf mst mth mdr mw msh mpo mpa mde mj n (by first | assumption | omega)) hx hb hml hown hts hN hK hA hP hD hS 6 0 rfl rfl bw_506 bw_508 bs_8 bw_7 bw_509 1 rfl (by decide +kernel) ⟨by decide, by decide⟩ [0] [1] [1, 0] rfl rfl (by decide) (fun _ => rfl) hl.1 rfl (Nat.le_of_ble_eq_true rfl) dX6_staked_19 ⟨Nat.zero_le _, Nat.zero_le _⟩ (fun r_19 u_u H locs w_19 hP hD hS => ?_)
      have hP : va_P D cl_A [ob_J y 6 [.int 0, .int (nI hh), .int r0, .int r1, .int r2, .int r3, .ref mb, .int given, .int mrew, .int (nI sz), .ref mk, .ref mc, .ref ms, .ref md, .ref mf, .ref mst, .ref mth, .ref mdr, .ref mw, .ref msh, .ref mpo, .ref mpa, .ref mde, .ref mj], ar_I mst cI 80 fstk] H := hP
      have hD : va_D A [ob_J y 6 [.int 0, .int (nI hh), .int r0, .int r1, .int r2, .int r3, .ref mb, .int given, .int mrew, .int (nI sz), .ref mk, .ref mc, .ref ms, .ref md, .ref mf, .ref mst, .ref mth, .ref mdr, .ref mw, .ref msh, .ref mpo, .ref mpa, .ref mde, .ref mj], ar_I mst cI 80 fstk] := hD
      have w_19 : r_19 = if ¬ (0 ≤ n ∧ n < nI sz) then 1 else 0 := w_19
      by_cases h_19 : ¬ (0 ≤ n ∧ n < nI sz)
      · rw [if_pos h_19] at w_19; subst w_19
        refine lv_if_eq (tgt := 27) hx hb dX6_staked_22 (by decide) (fun h9 => absurd h9 (by decide)) (fun _ => ?_)
        refine lv_iconst (v := (-1)) hx hb dX6_staked_25 (by decide) ?_
        exact re_I (w1 := fun u_u : Unit => [ob_J y 6 [.int 0, .int (nI hh), .int r0, .int r1, .int r2, .int r3, .ref mb, .int given, .int mrew, .int (nI sz), .ref mk, .ref mc, .ref ms, .ref md, .ref mf, .ref mst, .ref mth, .ref mdr, .ref mw, .ref msh, .ref mpo, .ref mpa, .ref mde, .ref mj], ar_I mst cI 80 fstk]) (v := (-1)) hx hb hr hlk hK hS rfl () hP hD (show (-1) = rr_staked sz fstk (nI ia) n from by simp [rr_staked, ac_P, hn_P, h_6, t_ia, c_14, h_19]) dX6_staked_26
      · rw [if_neg h_19] at w_19; subst w_19
        have h_19 := Decidable.not_not.mp h_19
        obtain ⟨jn, h_jn, rfl⟩ : ∃ z : Nat, z < sz ∧ n = nI z := ix_lt (by omega) h_19
        have t_jn := tn_nI (n := jn) (by omega)
        refine lv_if_eq (tgt := 27) hx hb dX6_staked_22 (by decide) (fun _ => ?_) (fun h9 => absurd (by decide) h9)
        refine lv_iconst (v := 0) hx hb dX6_staked_27 (by decide) ?_
        refine lv_istore_n (lv' := [(3, .int 0), (0, .ref y), (1, .int (nI ia)), (2, .int (nI jn))]) hx hb dX6_staked_28 rfl hl (by decide) rfl (fun ls hl => ?_)
        refine lv_iconst (v := 0) hx hb dX6_staked_29 (by decide) ?_
        refine lv_istore (lv' := [(4, .int 0), (3, .int 0), (0, .ref y), (1, .int (nI ia)), (2, .int (nI jn))]) hx hb dX6_staked_30 hl (by decide) rfl (fun ls hl => ?_)
        have hl := lv_sub (l' := [(0, .ref y), (1, .int (nI ia)), (2, .int (nI jn)), (3, .int 0), (4, .int 0)]) hl [2, 3, 4, 1, 0] rfl
        have q_4 : 0 = (if jn < 0 then fstk (jn * 10 + ia) else 0) := (if_neg (by omega)).symm
        have hl := cs_L (fun z_z => [(0, .ref y), (1, .int (nI ia)), (2, .int (nI jn)), (3, .int z_z), (4, .int 0)]) q_4 hl
        have q_5 : 0 = (nI 0) := rfl
        have hl := cs_L (fun z_z => [(0, .ref y), (1, .int (nI ia)), (2, .int (nI jn)), (3, .int (if jn < 0 then fstk (jn * 10 + ia) else 0)), (4, .int z_z)]) q_5 hl
        have hl : lv_has ls 5 [(0, .ref y), (1, .int (nI ia)), (2, .int (nI jn)), (3, .int (if jn < 0 then fstk (jn * 10 + ia) else 0)), (4, .int (nI 0))] := hl
        refine lp_g (σ := Nat) (fun i => sz - i) (fun i => [ob_J y 6 [.int 0, .int (nI hh), .int r0, .int r1, .int r2, .int r3, .ref mb, .int given, .int mrew, .int (nI sz), .ref mk, .ref mc, .ref ms, .ref md, .ref mf, .ref mst, .ref mth, .ref mdr, .ref mw, .ref msh, .ref mpo, .ref mpa, .ref mde, .ref mj], ar_I mst cI 80 fstk]) (fun i => [(0, .ref y), (1, .int (nI ia)), (2, .int (nI jn)), (3, .int (if jn < i then fstk (jn * 10 + ia) else 0)), (4, .int (nI i))]) (fun i => (i ≤ sz)) ?_ 0 (show (0 ≤ sz) from by omega) hP hD hS hl
        intro i H locs ls hF hP hD hS hl ih_32
        have hF : (i ≤ sz) := hF
        have hi := hF
        have hP : va_P D cl_A [ob_J y 6 [.int 0, .int (nI hh), .int r0, .int r1, .int r2, .int r3, .ref mb, .int given, .int mrew, .int (nI sz), .ref mk, .ref mc, .ref ms, .ref md, .ref mf, .ref mst, .ref mth, .ref mdr, .ref mw, .ref msh, .ref mpo, .ref mpa, .ref mde, .ref mj], ar_I mst cI 80 fstk] H := hP
        have hD : va_D A [ob_J y 6 [.int 0, .int (nI hh), .int r0, .int r1, .int r2, .int r3, .ref mb, .int given, .int mrew, .int (nI sz), .ref mk, .ref mc, .ref ms, .ref md, .ref mf, .ref mst, .ref mth, .ref mdr, .ref mw, .ref msh, .ref mpo, .ref mpa, .ref mde, .ref mj], ar_I mst cI 80 fstk] := hD
        have hl : lv_has ls 5 [(0, .ref y), (1, .int (nI ia)), (2, .int (nI jn)), (3, .int (if jn < i then fstk (jn * 10 + ia) else 0)), (4, .int (nI i))] := hl
        refine lv_iload hx hb dX6_staked_32 (lv_at hl 4 rfl) ?_
        refine lv_aload_n hx hb dX6_staked_34 rfl (lv_at hl 0 rfl) ?_
        refine va_get (ci := 6) (v := .int (nI sz)) (C := RX6) (T := TX6) (N := 24) hx hb hts bi_6 hown hK hP 0 rfl rfl 9 (by decide) (hts _ bw_414) (fun _ h9 => h9) rfl dX6_staked_35 ?_
        refine lv_icmp_ge (tgt := 77) hx hb dX6_staked_38 (by decide) (fun c_38 => ?_) (fun c_38 => ?_)
        · have c_38 := qq_ge (a := i) (b := sz) c_38 (by omega) (by omega)
          refine lv_iload_n hx hb dX6_staked_77 rfl (lv_at hl 3 rfl) ?_
          exact re_I (w1 := fun u_u : Unit => [ob_J y 6 [.int 0, .int (nI hh), .int r0, .int r1, .int r2, .int r3, .ref mb, .int given, .int mrew, .int (nI sz), .ref mk, .ref mc, .ref ms, .ref md, .ref mf, .ref mst, .ref mth, .ref mdr, .ref mw, .ref msh, .ref mpo, .ref mpa, .ref mde, .ref mj], ar_I mst cI 80 fstk]) (v := if jn < i then fstk (jn * 10 + ia) else 0) hx hb hr hlk hK hS rfl () hP hD (show (if jn < i then fstk (jn * 10 + ia) else 0) = rr_staked sz fstk (nI ia) (nI jn) from by rw [show i = sz by omega, if_pos h_jn]; simp [rr_staked, ac_P, hn_P, h_6, h_19, c_14, t_ia, t_jn]) dX6_staked_78
        · have c_38 := qq_nge (a := i) (b := sz) c_38 (by omega) (by omega)
          refine lv_iload_n hx hb dX6_staked_41 rfl (lv_at hl 2 rfl) ?_
          refine lv_iconst (v := (-1)) hx hb dX6_staked_42 (by decide) ?_
          refine lv_icmp_eq (tgt := 52) hx hb dX6_staked_43 (by decide) (fun c_43 => ?_) (fun c_43 => ?_)
          · exact absurd c_43 c_14
          · refine lv_iload_n hx hb dX6_staked_46 rfl (lv_at hl 2 rfl) ?_
            refine lv_iload hx hb dX6_staked_47 (lv_at hl 4 rfl) ?_
            refine lv_icmp_ne (tgt := 69) hx hb dX6_staked_49 (by decide) (fun c_49 => ?_) (fun c_49 => ?_)
            · have c_49 := qq_ne (a := jn) (b := i) c_49 (by omega) (by omega)
              refine lv_iload_n hx hb dX6_staked_69 rfl (lv_at hl 3 rfl) ?_
              refine lv_istore_n (lv' := [(3, .int (if jn < i then fstk (jn * 10 + ia) else 0)), (0, .ref y), (1, .int (nI ia)), (2, .int (nI jn)), (4, .int (nI i))]) hx hb dX6_staked_70 rfl hl (by decide) rfl (fun ls hl => ?_)
              refine lv_iinc (v := nI (i + 1)) (lv' := [(4, .int (nI (i + 1))), (3, .int (if jn < i then fstk (jn * 10 + ia) else 0)), (0, .ref y), (1, .int (nI ia)), (2, .int (nI jn))]) hx hb dX6_staked_71 hl (k := 4) rfl (nI_1 _) (by decide) rfl (fun ls hl => ?_)
              refine lv_goto (tgt := 32) hx hb dX6_staked_74 (by decide) ?_
              have hl := lv_sub (l' := [(0, .ref y), (1, .int (nI ia)), (2, .int (nI jn)), (3, .int (if jn < i then fstk (jn * 10 + ia) else 0)), (4, .int (nI (i + 1)))]) hl [2, 3, 4, 1, 0] rfl
              have q_6 : (if jn < i then fstk (jn * 10 + ia) else 0) = (if jn < (i + 1) then fstk (jn * 10 + ia) else 0) := ic_ ⟨fun z => by omega, fun z => by omega⟩
              have hl := cs_L (fun z_z => [(0, .ref y), (1, .int (nI ia)), (2, .int (nI jn)), (3, .int z_z), (4, .int (nI (i + 1)))]) q_6 hl
              have hl : lv_has ls 5 [(0, .ref y), (1, .int (nI ia)), (2, .int (nI jn)), (3, .int (if jn < (i + 1) then fstk (jn * 10 + ia) else 0)), (4, .int (nI (i + 1)))] := hl
              exact ih_32 (i + 1) (show sz - (i + 1) < sz - i from by omega) (show ((i + 1) ≤ sz) from by omega) H locs ls hP hD hS hl
            · have c_49 := qq_eq (a := jn) (b := i) c_49 (by omega) (by omega)
              refine lv_iload_n hx hb dX6_staked_52 rfl (lv_at hl 3 rfl) ?_
              refine lv_aload_n hx hb dX6_staked_53 rfl (lv_at hl 0 rfl) ?_
              refine va_get (ci := 6) (v := .ref mst) (C := RX6) (T := TX6) (N := 24) hx hb hts bi_6 hown hK hP 0 rfl rfl 15 (by decide) (hts _ bw_420) (fun _ h9 => h9) rfl dX6_staked_54 ?_
              refine lv_bipush (v := 10) hx hb dX6_staked_57 (by decide) ?_
              refine lv_iload hx hb dX6_staked_59 (lv_at hl 4 rfl) ?_
              refine lv_imul hx hb dX6_staked_61 ?_
              refine tp_i (x' := nI (i * 10)) (nn_mulc rfl rfl) ?_
              refine lv_iload_n hx hb dX6_staked_62 rfl (lv_at hl 1 rfl) ?_
              refine lv_iadd hx hb dX6_staked_63 ?_
              refine tp_i (x' := nI ((i * 10) + ia)) (nn_add rfl rfl) ?_
              refine ar_ld hx hb hK hP 1 (k := (i * 10) + ia) rfl rfl (by omega) (by decide) dX6_staked_64 ?_
              refine lv_iadd hx hb dX6_staked_65 ?_
              refine lv_goto (tgt := 70) hx hb dX6_staked_66 (by decide) ?_
              refine lv_istore_n (lv' := [(3, .int ((if jn < i then fstk (jn * 10 + ia) else 0) + (fstk ((i * 10) + ia)))), (0, .ref y), (1, .int (nI ia)), (2, .int (nI jn)), (4, .int (nI i))]) hx hb dX6_staked_70 rfl hl (by decide) rfl (fun ls hl => ?_)
              refine lv_iinc (v := nI (i + 1)) (lv' := [(4, .int (nI (i + 1))), (3, .int ((if jn < i then fstk (jn * 10 + ia) else 0) + (fstk ((i * 10) + ia)))), (0, .ref y), (1, .int (nI ia)), (2, .int (nI jn))]) hx hb dX6_staked_71 hl (k := 4) rfl (nI_1 _) (by decide) rfl (fun ls hl => ?_)
              refine lv_goto (tgt := 32) hx hb dX6_staked_74 (by decide) ?_
              have hl := lv_sub (l' := [(0, .ref y), (1, .int (nI ia)), (2, .int (nI jn)), (3, .int ((if jn < i then fstk (jn * 10 + ia) else 0) + (fstk ((i * 10) + ia)))), (4, .int (nI (i + 1)))]) hl [2, 3, 4, 1, 0] rfl
              have q_7 : ((if jn < i then fstk (jn * 10 + ia) else 0) + (fstk ((i * 10) + ia))) = (if jn < (i + 1) then fstk (jn * 10 + ia) else 0) := by rw [if_neg (by omega), if_pos (by omega), ← c_49]; simp
              have hl := cs_L (fun z_z => [(0, .ref y), (1, .int (nI ia)), (2, .int (nI jn)), (3, .int z_z), (4, .int (nI (i + 1)))]) q_7 hl
              have hl : lv_has ls 5 [(0, .ref y), (1, .int (nI ia)), (2, .int (nI jn)), (3, .int (if jn < (i + 1) then fstk (jn * 10 + ia) else 0)), (4, .int (nI (i + 1)))] := hl
              exact ih_32 (i + 1) (show sz - (i + 1) < sz - i from by omega) (show ((i + 1) ≤ sz) from by omega) H locs ls hP hD hS hl

set_option maxHeartbeats 4000000 in
set_option maxRecDepth 100000 in
theorem k_X6_drawnOf (l : Launch) (D : va_G) (cI cJ cZ : ClassId) (y : Nat) (mdr : Nat) (th : Int32) (hh : Nat) (r0 : Int32) (r1 : Int32) (r2 : Int32) (r3 : Int32) (mb : Nat) (given : Int32) (mrew : Int32) (sz : Nat) (mk : Nat) (mc : Nat) (ms : Nat) (md : Nat) (mf : Nat) (mst : Nat) (mth : Nat) (mw : Nat) (msh : Nat) (mpo : Nat) (mpa : Nat) (mde : Nat) (mj : Nat) (fdue : Nat → Int32) (ia : Nat) (ha : ia < 10) (hd0 : fdue (ia * 110) = 0) : mt_I l yX6_drawnOf cX6_drawnOf 4 .int 0 0 D cI cJ cZ [ob_J y 6 [.int th, .int (nI hh), .int r0, .int r1, .int r2, .int r3, .ref mb, .int given, .int mrew, .int (nI sz), .ref mk, .ref mc, .ref ms, .ref md, .ref mf, .ref mst, .ref mth, .ref mdr, .ref mw, .ref msh, .ref mpo, .ref mpa, .ref mde, .ref mj], ar_I mdr cI 1100 fdue] [.ref y, .int (nI ia)] (fun r (u_u : Unit) => r = sI_ (fun k => fdue (ia * 110 + (k + 1))) 109) (fun u_u : Unit => [ob_J y 6 [.int th, .int (nI hh), .int r0, .int r1, .int r2, .int r3, .ref mb, .int given, .int mrew, .int (nI sz), .ref mk, .ref mc, .ref ms, .ref md, .ref mf, .ref mst, .ref mth, .ref mdr, .ref mw, .ref msh, .ref mpo, .ref mpa, .ref mde, .ref mj], ar_I mdr cI 1100 fdue]) := by
  refine en_I (by decide) (Nat.le_of_ble_eq_true rfl) ?_
  intro p e s m below meth c A ls H locs hx hb hr hml hts hown hlk hN hK hA hP hD hS hl
  have hown : s.vm.findClass RX6 = some m.cls := hown
  have hl : lv_has ls 4 [(0, .ref y), (1, .int (nI ia))] := hl
  refine lv_iconst (v := 0) hx hb dX6_drawnOf_0 (by decide) ?_
  refine lv_istore_n (lv' := [(2, .int 0), (0, .ref y), (1, .int (nI ia))]) hx hb dX6_drawnOf_1 rfl hl (by decide) rfl (fun ls hl => ?_)
  refine lv_iconst (v := 0) hx hb dX6_drawnOf_2 (by decide) ?_
  refine lv_istore_n (lv' := [(3, .int 0), (2, .int 0), (0, .ref y), (1, .int (nI ia))]) hx hb dX6_drawnOf_3 rfl hl (by decide) rfl (fun ls hl => ?_)
  have hl := lv_sub (l' := [(0, .ref y), (1, .int (nI ia)), (2, .int 0), (3, .int 0)]) hl [2, 3, 1, 0] rfl
  have q_1 : 0 = (sI_ (fun k => fdue (ia * 110 + k)) 0) := rfl
  have hl := cs_L (fun z_z => [(0, .ref y), (1, .int (nI ia)), (2, .int z_z), (3, .int 0)]) q_1 hl
  have q_2 : 0 = (nI 0) := rfl
  have hl := cs_L (fun z_z => [(0, .ref y), (1, .int (nI ia)), (2, .int (sI_ (fun k => fdue (ia * 110 + k)) 0)), (3, .int z_z)]) q_2 hl
  have hl : lv_has ls 4 [(0, .ref y), (1, .int (nI ia)), (2, .int (sI_ (fun k => fdue (ia * 110 + k)) 0)), (3, .int (nI 0))] := hl
  refine lp_g (σ := Nat) (fun i => 110 - i) (fun i => [ob_J y 6 [.int th, .int (nI hh), .int r0, .int r1, .int r2, .int r3, .ref mb, .int given, .int mrew, .int (nI sz), .ref mk, .ref mc, .ref ms, .ref md, .ref mf, .ref mst, .ref mth, .ref mdr, .ref mw, .ref msh, .ref mpo, .ref mpa, .ref mde, .ref mj], ar_I mdr cI 1100 fdue]) (fun i => [(0, .ref y), (1, .int (nI ia)), (2, .int (sI_ (fun k => fdue (ia * 110 + k)) i)), (3, .int (nI i))]) (fun i => (i ≤ 110)) ?_ 0 (show (0 ≤ 110) from by omega) hP hD hS hl
  intro i H locs ls hF hP hD hS hl ih_4
  have hF : (i ≤ 110) := hF
  have hi := hF
  have hP : va_P D cl_A [ob_J y 6 [.int th, .int (nI hh), .int r0, .int r1, .int r2, .int r3, .ref mb, .int given, .int mrew, .int (nI sz), .ref mk, .ref mc, .ref ms, .ref md, .ref mf, .ref mst, .ref mth, .ref mdr, .ref mw, .ref msh, .ref mpo, .ref mpa, .ref mde, .ref mj], ar_I mdr cI 1100 fdue] H := hP
  have hD : va_D A [ob_J y 6 [.int th, .int (nI hh), .int r0, .int r1, .int r2, .int r3, .ref mb, .int given, .int mrew, .int (nI sz), .ref mk, .ref mc, .ref ms, .ref md, .ref mf, .ref mst, .ref mth, .ref mdr, .ref mw, .ref msh, .ref mpo, .ref mpa, .ref mde, .ref mj], ar_I mdr cI 1100 fdue] := hD
  have hl : lv_has ls 4 [(0, .ref y), (1, .int (nI ia)), (2, .int (sI_ (fun k => fdue (ia * 110 + k)) i)), (3, .int (nI i))] := hl
  refine lv_iload_n hx hb dX6_drawnOf_4 rfl (lv_at hl 3 rfl) ?_
  refine lv_bipush (v := 110) hx hb dX6_drawnOf_5 (by decide) ?_
  refine lv_icmp_ge (tgt := 30) hx hb dX6_drawnOf_7 (by decide) (fun c_7 => ?_) (fun c_7 => ?_)
  · have c_7 := qq_ge (a := i) (b := 110) c_7 (by omega) (by omega)
    refine lv_iload_n hx hb dX6_drawnOf_30 rfl (lv_at hl 2 rfl) ?_
    exact re_I (w1 := fun u_u : Unit => [ob_J y 6 [.int th, .int (nI hh), .int r0, .int r1, .int r2, .int r3, .ref mb, .int given, .int mrew, .int (nI sz), .ref mk, .ref mc, .ref ms, .ref md, .ref mf, .ref mst, .ref mth, .ref mdr, .ref mw, .ref msh, .ref mpo, .ref mpa, .ref mde, .ref mj], ar_I mdr cI 1100 fdue]) (v := sI_ (fun k => fdue (ia * 110 + k)) i) hx hb hr hlk hK hS rfl () hP hD (show (sI_ (fun k => fdue (ia * 110 + k)) i) = sI_ (fun k => fdue (ia * 110 + (k + 1))) 109 from by rw [show i = 110 by omega]; exact dr_e hd0) dX6_drawnOf_31
  · have c_7 := qq_nge (a := i) (b := 110) c_7 (by omega) (by omega)
    refine lv_iload_n hx hb dX6_drawnOf_10 rfl (lv_at hl 2 rfl) ?_
    refine lv_aload_n hx hb dX6_drawnOf_11 rfl (lv_at hl 0 rfl) ?_
    refine va_get (ci := 6) (v := .ref mdr) (C := RX6) (T := TX6) (N := 24) hx hb hts bi_6 hown hK hP 0 rfl rfl 17 (by decide) (hts _ bw_422) (fun _ h9 => h9) rfl dX6_drawnOf_12 ?_
    refine lv_bipush (v := 110) hx hb dX6_drawnOf_15 (by decide) ?_
    refine lv_iload_n hx hb dX6_drawnOf_17 rfl (lv_at hl 1 rfl) ?_
    refine lv_imul hx hb dX6_drawnOf_18 ?_
    refine tp_i (x' := nI (ia * 110)) (nn_mulc rfl rfl) ?_
    refine lv_iload_n hx hb dX6_drawnOf_19 rfl (lv_at hl 3 rfl) ?_
    refine lv_iadd hx hb dX6_drawnOf_20 ?_
    refine tp_i (x' := nI ((ia * 110) + i)) (nn_add rfl rfl) ?_
    refine ar_ld hx hb hK hP 1 (k := (ia * 110) + i) rfl rfl (by omega) (by decide) dX6_drawnOf_21 ?_
    refine lv_iadd hx hb dX6_drawnOf_22 ?_
    refine lv_istore_n (lv' := [(2, .int ((sI_ (fun k => fdue (ia * 110 + k)) i) + (fdue ((ia * 110) + i)))), (0, .ref y), (1, .int (nI ia)), (3, .int (nI i))]) hx hb dX6_drawnOf_23 rfl hl (by decide) rfl (fun ls hl => ?_)
    refine lv_iinc (v := nI (i + 1)) (lv' := [(3, .int (nI (i + 1))), (2, .int ((sI_ (fun k => fdue (ia * 110 + k)) i) + (fdue ((ia * 110) + i)))), (0, .ref y), (1, .int (nI ia))]) hx hb dX6_drawnOf_24 hl (k := 3) rfl (nI_1 _) (by decide) rfl (fun ls hl => ?_)
    refine lv_goto (tgt := 4) hx hb dX6_drawnOf_27 (by decide) ?_
    have hl := lv_sub (l' := [(0, .ref y), (1, .int (nI ia)), (2, .int ((sI_ (fun k => fdue (ia * 110 + k)) i) + (fdue ((ia * 110) + i)))), (3, .int (nI (i + 1)))]) hl [2, 3, 1, 0] rfl
    have q_3 : ((sI_ (fun k => fdue (ia * 110 + k)) i) + (fdue ((ia * 110) + i))) = (sI_ (fun k => fdue (ia * 110 + k)) (i + 1)) := rfl
    have hl := cs_L (fun z_z => [(0, .ref y), (1, .int (nI ia)), (2, .int z_z), (3, .int (nI (i + 1)))]) q_3 hl
    have hl : lv_has ls 4 [(0, .ref y), (1, .int (nI ia)), (2, .int (sI_ (fun k => fdue (ia * 110 + k)) (i + 1))), (3, .int (nI (i + 1)))] := hl
    exact ih_4 (i + 1) (show 110 - (i + 1) < 110 - i from by omega) (show ((i + 1) ≤ 110) from by omega) H locs ls hP hD hS hl

set_option maxHeartbeats 4000000 in
set_option maxRecDepth 100000 in
theorem k_X6_drawn (l : Launch) (D : va_G) (cI cJ cZ : ClassId) (y : Nat) (mdr : Nat) (th : Int32) (hh : Nat) (r0 : Int32) (r1 : Int32) (r2 : Int32) (r3 : Int32) (mb : Nat) (given : Int32) (mrew : Int32) (sz : Nat) (mk : Nat) (mc : Nat) (ms : Nat) (md : Nat) (mf : Nat) (mst : Nat) (mth : Nat) (mw : Nat) (msh : Nat) (mpo : Nat) (mpa : Nat) (mde : Nat) (mj : Nat) (fdue : Nat → Int32) (a : Int32) (q : Int32) (hd0 : ∀ a, a < 10 → fdue (a * 110) = 0) : mt_I l yX6_drawn cX6_drawn 3 .int 2 45 D cI cJ cZ [ob_J y 6 [.int th, .int (nI hh), .int r0, .int r1, .int r2, .int r3, .ref mb, .int given, .int mrew, .int (nI sz), .ref mk, .ref mc, .ref ms, .ref md, .ref mf, .ref mst, .ref mth, .ref mdr, .ref mw, .ref msh, .ref mpo, .ref mpa, .ref mde, .ref mj], ar_I mdr cI 1100 fdue] [.ref y, .int a, .int q] (fun r (u_u : Unit) => r = rr_drawn fdue a q) (fun u_u : Unit => [ob_J y 6 [.int 0, .int (nI hh), .int r0, .int r1, .int r2, .int r3, .ref mb, .int given, .int mrew, .int (nI sz), .ref mk, .ref mc, .ref ms, .ref md, .ref mf, .ref mst, .ref mth, .ref mdr, .ref mw, .ref msh, .ref mpo, .ref mpa, .ref mde, .ref mj], ar_I mdr cI 1100 fdue]) := by
  refine en_I (by decide) (Nat.le_of_ble_eq_true rfl) ?_
  intro p e s m below meth c A ls H locs hx hb hr hml hts hown hlk hN hK hA hP hD hS hl
  have hown : s.vm.findClass RX6 = some m.cls := hown
  have hl : lv_has ls 3 [(0, .ref y), (1, .int a), (2, .int q)] := hl
  refine lv_aload_n hx hb dX6_drawn_0 rfl (lv_at hl 0 rfl) ?_
  refine lv_iconst (v := 0) hx hb dX6_drawn_1 (by decide) ?_
  refine va_put (ci := 6) (v := .int 0) (ty := .int) (C := RX6) (T := TX6) (N := 24) hx hb hts bi_6 tyX6 tyX6_ok nmX6 hown hK hP hD hS 0 rfl rfl 0 (by decide) (hts _ bw_405) (fun _ h9 => h9) rfl (by decide +kernel) rfl rfl (Nat.le_of_ble_eq_true rfl) dX6_drawn_2 (fun H locs hP hD hS => ?_)
  have hP : va_P D cl_A [ob_J y 6 [.int 0, .int (nI hh), .int r0, .int r1, .int r2, .int r3, .ref mb, .int given, .int mrew, .int (nI sz), .ref mk, .ref mc, .ref ms, .ref md, .ref mf, .ref mst, .ref mth, .ref mdr, .ref mw, .ref msh, .ref mpo, .ref mpa, .ref mde, .ref mj], ar_I mdr cI 1100 fdue] H := hP
  have hD : va_D A [ob_J y 6 [.int 0, .int (nI hh), .int r0, .int r1, .int r2, .int r3, .ref mb, .int given, .int mrew, .int (nI sz), .ref mk, .ref mc, .ref ms, .ref md, .ref mf, .ref mst, .ref mth, .ref mdr, .ref mw, .ref msh, .ref mpo, .ref mpa, .ref mde, .ref mj], ar_I mdr cI 1100 fdue] := hD
  refine lv_iload_n hx hb dX6_drawn_5 rfl (lv_at hl 1 rfl) ?_
  refine ca_SI (rest := []) (k_X6_noAccount l D cI cJ cZ a ) hx hb hml hown hts hN hK hA hP hD hS bw_493 bw_494 bw_7 bw_495 1 rfl (by decide +kernel) ⟨by decide, by decide⟩ hl.1 rfl (Nat.le_of_ble_eq_true rfl) dX6_drawn_6 ⟨Nat.zero_le _, Nat.zero_le _⟩ (fun r_6 u_u H locs w_6 hP hD hS => ?_)
  have w_6 : r_6 = if ¬ (0 ≤ a ∧ a ≤ 9) then 1 else 0 := w_6
  by_cases h_6 : ¬ (0 ≤ a ∧ a ≤ 9)
  · rw [if_pos h_6] at w_6; subst w_6
    refine lv_if_ne (tgt := 29) hx hb dX6_drawn_9 (by decide) (fun _ => ?_) (fun h9 => absurd h9 (by decide))
    refine lv_iconst (v := (-1)) hx hb dX6_drawn_29 (by decide) ?_
    exact re_I (w1 := fun u_u : Unit => [ob_J y 6 [.int 0, .int (nI hh), .int r0, .int r1, .int r2, .int r3, .ref mb, .int given, .int mrew, .int (nI sz), .ref mk, .ref mc, .ref ms, .ref md, .ref mf, .ref mst, .ref mth, .ref mdr, .ref mw, .ref msh, .ref mpo, .ref mpa, .ref mde, .ref mj], ar_I mdr cI 1100 fdue]) (v := (-1)) hx hb hr hlk hK hS rfl () hP hD (show (-1) = rr_drawn fdue a q from by simp [rr_drawn, ac_P, h_6]) dX6_drawn_30
  · rw [if_neg h_6] at w_6; subst w_6
    have h_6 := Decidable.not_not.mp h_6
    obtain ⟨ia, h_ia, rfl⟩ : ∃ z : Nat, z < 10 ∧ a = nI z := ix_le (by decide) h_6
    have t_ia := tn_nI (n := ia) (by omega)
    refine lv_if_ne (tgt := 29) hx hb dX6_drawn_9 (by decide) (fun h9 => absurd (by decide) h9) (fun _ => ?_)
    refine lv_iload_n hx hb dX6_drawn_12 rfl (lv_at hl 2 rfl) ?_
    refine lv_iconst (v := (-1)) hx hb dX6_drawn_13 (by decide) ?_
    refine lv_icmp_eq (tgt := 31) hx hb dX6_drawn_14 (by decide) (fun c_14 => ?_) (fun c_14 => ?_)
    · subst c_14
      refine lv_iload_n hx hb dX6_drawn_31 rfl (lv_at hl 2 rfl) ?_
      refine lv_iconst (v := (-1)) hx hb dX6_drawn_32 (by decide) ?_
      refine lv_icmp_ne (tgt := 44) hx hb dX6_drawn_33 (by decide) (fun h9 => absurd (by decide) h9) (fun _ => ?_)
      refine lv_aload_n hx hb dX6_drawn_36 rfl (lv_at hl 0 rfl) ?_
      refine lv_iload_n hx hb dX6_drawn_37 rfl (lv_at hl 1 rfl) ?_
      refine ca_VI (rest := []) (wr := []) (w2 := fun u_u => [ob_J y 6 [.int 0, .int (nI hh), .int r0, .int r1, .int r2, .int r3, .ref mb, .int given, .int mrew, .int (nI sz), .ref mk, .ref mc, .ref ms, .ref md, .ref mf, .ref mst, .ref mth, .ref mdr, .ref mw, .ref msh, .ref mpo, .ref mpa, .ref mde, .ref mj], ar_I mdr cI 1100 fdue]) (k_X6_drawnOf l D cI cJ cZ y mdr 0 hh r0 r1 r2 r3 mb given mrew sz mk mc ms md mf mst mth mw msh mpo mpa mde mj fdue ia (by first | assumption | omega) (hd0 ia (by omega))) hx hb hml hown hts hN hK hA hP hD hS 6 0 rfl rfl bw_563 bw_565 bs_14 bw_7 bw_566 1 rfl (by decide +kernel) ⟨by decide, by decide⟩ [0, 1] [] [0, 1] rfl rfl (by decide) (fun _ => rfl) hl.1 rfl (Nat.le_of_ble_eq_true rfl) dX6_drawn_38 ⟨Nat.zero_le _, Nat.zero_le _⟩ (fun r_38 u_u H locs w_38 hP hD hS => ?_)
      have hP : va_P D cl_A [ob_J y 6 [.int 0, .int (nI hh), .int r0, .int r1, .int r2, .int r3, .ref mb, .int given, .int mrew, .int (nI sz), .ref mk, .ref mc, .ref ms, .ref md, .ref mf, .ref mst, .ref mth, .ref mdr, .ref mw, .ref msh, .ref mpo, .ref mpa, .ref mde, .ref mj], ar_I mdr cI 1100 fdue] H := hP
      have hD : va_D A [ob_J y 6 [.int 0, .int (nI hh), .int r0, .int r1, .int r2, .int r3, .ref mb, .int given, .int mrew, .int (nI sz), .ref mk, .ref mc, .ref ms, .ref md, .ref mf, .ref mst, .ref mth, .ref mdr, .ref mw, .ref msh, .ref mpo, .ref mpa, .ref mde, .ref mj], ar_I mdr cI 1100 fdue] := hD
      have w_38 : r_38 = sI_ (fun k => fdue (ia * 110 + (k + 1))) 109 := w_38
      subst w_38
      refine lv_goto (tgt := 55) hx hb dX6_drawn_41 (by decide) ?_
      exact re_I (w1 := fun u_u : Unit => [ob_J y 6 [.int 0, .int (nI hh), .int r0, .int r1, .int r2, .int r3, .ref mb, .int given, .int mrew, .int (nI sz), .ref mk, .ref mc, .ref ms, .ref md, .ref mf, .ref mst, .ref mth, .ref mdr, .ref mw, .ref msh, .ref mpo, .ref mpa, .ref mde, .ref mj], ar_I mdr cI 1100 fdue]) (v := sI_ (fun k => fdue (ia * 110 + (k + 1))) 109) hx hb hr hlk hK hS rfl () hP hD (show (sI_ (fun k => fdue (ia * 110 + (k + 1))) 109) = rr_drawn fdue (nI ia) (-1) from by simp [rr_drawn, ac_P, h_6, t_ia]) dX6_drawn_55
    · refine lv_iload_n hx hb dX6_drawn_17 rfl (lv_at hl 2 rfl) ?_
      refine lv_i2l (v := q.toInt64) hx hb dX6_drawn_18 (rfl) ?_
      refine lv_lconst (v := (Int32.toInt64 1)) hx hb dX6_drawn_19 (by decide) ?_
      refine lv_ldc2 hx hb hown (hts _ bw_562) dX6_drawn_20 ?_
      refine tp_l (x' := (Int32.toInt64 109)) (by decide) ?_
      refine ca_SI (rest := []) (k_X6_in l D cI cJ cZ q 1 109 ) hx hb hml hown hts hN hK hA hP hD hS bw_483 bw_484 bw_7 bw_485 3 rfl (by decide +kernel) ⟨by decide, by decide⟩ hl.1 rfl (Nat.le_of_ble_eq_true rfl) dX6_drawn_23 ⟨Nat.zero_le _, Nat.zero_le _⟩ (fun r_23 u_u H locs w_23 hP hD hS => ?_)
      have w_23 : r_23 = if 1 ≤ q ∧ q ≤ 109 then 1 else 0 := w_23
      by_cases h_23 : 1 ≤ q ∧ q ≤ 109
      · rw [if_pos h_23] at w_23; subst w_23
        obtain ⟨iq, h_iq, rfl⟩ : ∃ z : Nat, z < 110 ∧ q = nI z := ix_le (n := 109) (by decide) ⟨Int32.le_trans (by decide) h_23.1, h_23.2⟩
        have t_iq := tn_nI (n := iq) (by omega)
        refine lv_if_ne (tgt := 31) hx hb dX6_drawn_26 (by decide) (fun _ => ?_) (fun h9 => absurd h9 (by decide))
        refine lv_iload_n hx hb dX6_drawn_31 rfl (lv_at hl 2 rfl) ?_
        refine lv_iconst (v := (-1)) hx hb dX6_drawn_32 (by decide) ?_
        refine lv_icmp_ne (tgt := 44) hx hb dX6_drawn_33 (by decide) (fun c_33 => ?_) (fun c_33 => ?_)
        · refine lv_aload_n hx hb dX6_drawn_44 rfl (lv_at hl 0 rfl) ?_
          refine va_get (ci := 6) (v := .ref mdr) (C := RX6) (T := TX6) (N := 24) hx hb hts bi_6 hown hK hP 0 rfl rfl 17 (by decide) (hts _ bw_422) (fun _ h9 => h9) rfl dX6_drawn_45 ?_
          refine lv_bipush (v := 110) hx hb dX6_drawn_48 (by decide) ?_
          refine lv_iload_n hx hb dX6_drawn_50 rfl (lv_at hl 1 rfl) ?_
          refine lv_imul hx hb dX6_drawn_51 ?_
          refine tp_i (x' := nI (ia * 110)) (nn_mulc rfl rfl) ?_
          refine lv_iload_n hx hb dX6_drawn_52 rfl (lv_at hl 2 rfl) ?_
          refine lv_iadd hx hb dX6_drawn_53 ?_
          refine tp_i (x' := nI ((ia * 110) + iq)) (nn_add rfl rfl) ?_
          refine ar_ld hx hb hK hP 1 (k := (ia * 110) + iq) rfl rfl (by omega) (by decide) dX6_drawn_54 ?_
          exact re_I (w1 := fun u_u : Unit => [ob_J y 6 [.int 0, .int (nI hh), .int r0, .int r1, .int r2, .int r3, .ref mb, .int given, .int mrew, .int (nI sz), .ref mk, .ref mc, .ref ms, .ref md, .ref mf, .ref mst, .ref mth, .ref mdr, .ref mw, .ref msh, .ref mpo, .ref mpa, .ref mde, .ref mj], ar_I mdr cI 1100 fdue]) (v := fdue ((ia * 110) + iq)) hx hb hr hlk hK hS rfl () hP hD (show (fdue ((ia * 110) + iq)) = rr_drawn fdue (nI ia) (nI iq) from by simp [rr_drawn, ac_P, h_6, t_ia, c_14, h_23, t_iq, c_33]) dX6_drawn_55
        · exact absurd c_33 c_14
      · rw [if_neg h_23] at w_23; subst w_23
        refine lv_if_ne (tgt := 31) hx hb dX6_drawn_26 (by decide) (fun h9 => absurd (by decide) h9) (fun _ => ?_)
        refine lv_iconst (v := (-1)) hx hb dX6_drawn_29 (by decide) ?_
        exact re_I (w1 := fun u_u : Unit => [ob_J y 6 [.int 0, .int (nI hh), .int r0, .int r1, .int r2, .int r3, .ref mb, .int given, .int mrew, .int (nI sz), .ref mk, .ref mc, .ref ms, .ref md, .ref mf, .ref mst, .ref mth, .ref mdr, .ref mw, .ref msh, .ref mpo, .ref mpa, .ref mde, .ref mj], ar_I mdr cI 1100 fdue]) (v := (-1)) hx hb hr hlk hK hS rfl () hP hD (show (-1) = rr_drawn fdue (nI ia) q from by simp [rr_drawn, ac_P, h_6, t_ia, c_14, h_23]) dX6_drawn_30

set_option maxHeartbeats 4000000 in
set_option maxRecDepth 100000 in
theorem k_X6_about5 (l : Launch) (D : va_G) (cI cJ cZ : ClassId) (y : Nat) (mst : Nat) (th : Int32) (hh : Nat) (r0 : Int32) (r1 : Int32) (r2 : Int32) (r3 : Int32) (mb : Nat) (given : Int32) (mrew : Int32) (sz : Nat) (mk : Nat) (mc : Nat) (ms : Nat) (md : Nat) (mf : Nat) (mth : Nat) (mdr : Nat) (mw : Nat) (msh : Nat) (mpo : Nat) (mpa : Nat) (mde : Nat) (mj : Nat) (fstk : Nat → Int32) (jn : Nat) (hj : jn < 8) : mt_I l yX6_about5 cX6_about5 4 .int 0 0 D cI cJ cZ [ob_J y 6 [.int th, .int (nI hh), .int r0, .int r1, .int r2, .int r3, .ref mb, .int given, .int mrew, .int (nI sz), .ref mk, .ref mc, .ref ms, .ref md, .ref mf, .ref mst, .ref mth, .ref mdr, .ref mw, .ref msh, .ref mpo, .ref mpa, .ref mde, .ref mj], ar_I mst cI 80 fstk] [.ref y, .int (nI jn)] (fun r (u_u : Unit) => r = sI_ (fun a => fstk (jn * 10 + a)) 10) (fun u_u : Unit => [ob_J y 6 [.int th, .int (nI hh), .int r0, .int r1, .int r2, .int r3, .ref mb, .int given, .int mrew, .int (nI sz), .ref mk, .ref mc, .ref ms, .ref md, .ref mf, .ref mst, .ref mth, .ref mdr, .ref mw, .ref msh, .ref mpo, .ref mpa, .ref mde, .ref mj], ar_I mst cI 80 fstk]) := by
  refine en_I (by decide) (Nat.le_of_ble_eq_true rfl) ?_
  intro p e s m below meth c A ls H locs hx hb hr hml hts hown hlk hN hK hA hP hD hS hl
  have hown : s.vm.findClass RX6 = some m.cls := hown
  have hl : lv_has ls 4 [(0, .ref y), (1, .int (nI jn))] := hl
  refine lv_iconst (v := 0) hx hb dX6_about5_0 (by decide) ?_
  refine lv_istore_n (lv' := [(2, .int 0), (0, .ref y), (1, .int (nI jn))]) hx hb dX6_about5_1 rfl hl (by decide) rfl (fun ls hl => ?_)
  refine lv_iconst (v := 0) hx hb dX6_about5_2 (by decide) ?_
  refine lv_istore_n (lv' := [(3, .int 0), (2, .int 0), (0, .ref y), (1, .int (nI jn))]) hx hb dX6_about5_3 rfl hl (by decide) rfl (fun ls hl => ?_)
  have hl := lv_sub (l' := [(0, .ref y), (1, .int (nI jn)), (2, .int 0), (3, .int 0)]) hl [2, 3, 1, 0] rfl
  have q_1 : 0 = (sI_ (fun a => fstk (jn * 10 + a)) 0) := rfl
  have hl := cs_L (fun z_z => [(0, .ref y), (1, .int (nI jn)), (2, .int z_z), (3, .int 0)]) q_1 hl
  have q_2 : 0 = (nI 0) := rfl
  have hl := cs_L (fun z_z => [(0, .ref y), (1, .int (nI jn)), (2, .int (sI_ (fun a => fstk (jn * 10 + a)) 0)), (3, .int z_z)]) q_2 hl
  have hl : lv_has ls 4 [(0, .ref y), (1, .int (nI jn)), (2, .int (sI_ (fun a => fstk (jn * 10 + a)) 0)), (3, .int (nI 0))] := hl
  refine lp_g (σ := Nat) (fun i => 10 - i) (fun i => [ob_J y 6 [.int th, .int (nI hh), .int r0, .int r1, .int r2, .int r3, .ref mb, .int given, .int mrew, .int (nI sz), .ref mk, .ref mc, .ref ms, .ref md, .ref mf, .ref mst, .ref mth, .ref mdr, .ref mw, .ref msh, .ref mpo, .ref mpa, .ref mde, .ref mj], ar_I mst cI 80 fstk]) (fun i => [(0, .ref y), (1, .int (nI jn)), (2, .int (sI_ (fun a => fstk (jn * 10 + a)) i)), (3, .int (nI i))]) (fun i => (i ≤ 10)) ?_ 0 (show (0 ≤ 10) from by omega) hP hD hS hl
  intro i H locs ls hF hP hD hS hl ih_4
  have hF : (i ≤ 10) := hF
  have hi := hF
  have hP : va_P D cl_A [ob_J y 6 [.int th, .int (nI hh), .int r0, .int r1, .int r2, .int r3, .ref mb, .int given, .int mrew, .int (nI sz), .ref mk, .ref mc, .ref ms, .ref md, .ref mf, .ref mst, .ref mth, .ref mdr, .ref mw, .ref msh, .ref mpo, .ref mpa, .ref mde, .ref mj], ar_I mst cI 80 fstk] H := hP
  have hD : va_D A [ob_J y 6 [.int th, .int (nI hh), .int r0, .int r1, .int r2, .int r3, .ref mb, .int given, .int mrew, .int (nI sz), .ref mk, .ref mc, .ref ms, .ref md, .ref mf, .ref mst, .ref mth, .ref mdr, .ref mw, .ref msh, .ref mpo, .ref mpa, .ref mde, .ref mj], ar_I mst cI 80 fstk] := hD
  have hl : lv_has ls 4 [(0, .ref y), (1, .int (nI jn)), (2, .int (sI_ (fun a => fstk (jn * 10 + a)) i)), (3, .int (nI i))] := hl
  refine lv_iload_n hx hb dX6_about5_4 rfl (lv_at hl 3 rfl) ?_
  refine lv_bipush (v := 10) hx hb dX6_about5_5 (by decide) ?_
  refine lv_icmp_ge (tgt := 30) hx hb dX6_about5_7 (by decide) (fun c_7 => ?_) (fun c_7 => ?_)
  · have c_7 := qq_ge (a := i) (b := 10) c_7 (by omega) (by omega)
    refine lv_iload_n hx hb dX6_about5_30 rfl (lv_at hl 2 rfl) ?_
    exact re_I (w1 := fun u_u : Unit => [ob_J y 6 [.int th, .int (nI hh), .int r0, .int r1, .int r2, .int r3, .ref mb, .int given, .int mrew, .int (nI sz), .ref mk, .ref mc, .ref ms, .ref md, .ref mf, .ref mst, .ref mth, .ref mdr, .ref mw, .ref msh, .ref mpo, .ref mpa, .ref mde, .ref mj], ar_I mst cI 80 fstk]) (v := sI_ (fun a => fstk (jn * 10 + a)) i) hx hb hr hlk hK hS rfl () hP hD (show (sI_ (fun a => fstk (jn * 10 + a)) i) = sI_ (fun a => fstk (jn * 10 + a)) 10 from by rw [show i = 10 by omega]) dX6_about5_31
  · have c_7 := qq_nge (a := i) (b := 10) c_7 (by omega) (by omega)
    refine lv_iload_n hx hb dX6_about5_10 rfl (lv_at hl 2 rfl) ?_
    refine lv_aload_n hx hb dX6_about5_11 rfl (lv_at hl 0 rfl) ?_
    refine va_get (ci := 6) (v := .ref mst) (C := RX6) (T := TX6) (N := 24) hx hb hts bi_6 hown hK hP 0 rfl rfl 15 (by decide) (hts _ bw_420) (fun _ h9 => h9) rfl dX6_about5_12 ?_
    refine lv_bipush (v := 10) hx hb dX6_about5_15 (by decide) ?_
    refine lv_iload_n hx hb dX6_about5_17 rfl (lv_at hl 1 rfl) ?_
    refine lv_imul hx hb dX6_about5_18 ?_
    refine tp_i (x' := nI (jn * 10)) (nn_mulc rfl rfl) ?_
    refine lv_iload_n hx hb dX6_about5_19 rfl (lv_at hl 3 rfl) ?_
    refine lv_iadd hx hb dX6_about5_20 ?_
    refine tp_i (x' := nI ((jn * 10) + i)) (nn_add rfl rfl) ?_
    refine ar_ld hx hb hK hP 1 (k := (jn * 10) + i) rfl rfl (by omega) (by decide) dX6_about5_21 ?_
    refine lv_iadd hx hb dX6_about5_22 ?_
    refine lv_istore_n (lv' := [(2, .int ((sI_ (fun a => fstk (jn * 10 + a)) i) + (fstk ((jn * 10) + i)))), (0, .ref y), (1, .int (nI jn)), (3, .int (nI i))]) hx hb dX6_about5_23 rfl hl (by decide) rfl (fun ls hl => ?_)
    refine lv_iinc (v := nI (i + 1)) (lv' := [(3, .int (nI (i + 1))), (2, .int ((sI_ (fun a => fstk (jn * 10 + a)) i) + (fstk ((jn * 10) + i)))), (0, .ref y), (1, .int (nI jn))]) hx hb dX6_about5_24 hl (k := 3) rfl (nI_1 _) (by decide) rfl (fun ls hl => ?_)
    refine lv_goto (tgt := 4) hx hb dX6_about5_27 (by decide) ?_
    have hl := lv_sub (l' := [(0, .ref y), (1, .int (nI jn)), (2, .int ((sI_ (fun a => fstk (jn * 10 + a)) i) + (fstk ((jn * 10) + i)))), (3, .int (nI (i + 1)))]) hl [2, 3, 1, 0] rfl
    have q_3 : ((sI_ (fun a => fstk (jn * 10 + a)) i) + (fstk ((jn * 10) + i))) = (sI_ (fun a => fstk (jn * 10 + a)) (i + 1)) := rfl
    have hl := cs_L (fun z_z => [(0, .ref y), (1, .int (nI jn)), (2, .int z_z), (3, .int (nI (i + 1)))]) q_3 hl
    have hl : lv_has ls 4 [(0, .ref y), (1, .int (nI jn)), (2, .int (sI_ (fun a => fstk (jn * 10 + a)) (i + 1))), (3, .int (nI (i + 1)))] := hl
    exact ih_4 (i + 1) (show 10 - (i + 1) < 10 - i from by omega) (show ((i + 1) ≤ 10) from by omega) H locs ls hP hD hS hl

set_option maxHeartbeats 4000000 in
set_option maxRecDepth 100000 in
theorem k_X6_about (l : Launch) (D : va_G) (cI cJ cZ : ClassId) (y : Nat) (mk : Nat) (mc : Nat) (ms : Nat) (md : Nat) (mf : Nat) (mst : Nat) (th : Int32) (hh : Nat) (r0 : Int32) (r1 : Int32) (r2 : Int32) (r3 : Int32) (mb : Nat) (given : Int32) (mrew : Int32) (sz : Nat) (mth : Nat) (mdr : Nat) (mw : Nat) (msh : Nat) (mpo : Nat) (mpa : Nat) (mde : Nat) (mj : Nat) (fkp : Nat → Int32) (fct : Nat → Int32) (fsa : Nat → Int32) (fdm : Nat → Int32) (ffz : Nat → Int32) (fstk : Nat → Int32) (n : Int32) (what : Int32) (fla : Nat → Int32) (hsz : sz ≤ 8) (hL : IL_ sz fsa fla) (hDl : ID_ sz fsa fla fdm) : mt_I l yX6_about cX6_about 3 .int 2 46 D cI cJ cZ [ob_J y 6 [.int th, .int (nI hh), .int r0, .int r1, .int r2, .int r3, .ref mb, .int given, .int mrew, .int (nI sz), .ref mk, .ref mc, .ref ms, .ref md, .ref mf, .ref mst, .ref mth, .ref mdr, .ref mw, .ref msh, .ref mpo, .ref mpa, .ref mde, .ref mj], ar_I mk cI 8 fkp, ar_I mc cI 8 fct, ar_I ms cI 8 fsa, ar_I md cI 8 fdm, ar_I mf cZ 8 ffz, ar_I mst cI 80 fstk] [.ref y, .int n, .int what] (fun r (u_u : Unit) => r = rr_about sz fsa ffz fla fkp fct fstk n what) (fun u_u : Unit => [ob_J y 6 [.int 0, .int (nI hh), .int r0, .int r1, .int r2, .int r3, .ref mb, .int given, .int mrew, .int (nI sz), .ref mk, .ref mc, .ref ms, .ref md, .ref mf, .ref mst, .ref mth, .ref mdr, .ref mw, .ref msh, .ref mpo, .ref mpa, .ref mde, .ref mj], ar_I mk cI 8 fkp, ar_I mc cI 8 fct, ar_I ms cI 8 fsa, ar_I md cI 8 fdm, ar_I mf cZ 8 ffz, ar_I mst cI 80 fstk]) := by
  refine en_I (by decide) (Nat.le_of_ble_eq_true rfl) ?_
  intro p e s m below meth c A ls H locs hx hb hr hml hts hown hlk hN hK hA hP hD hS hl
  have hown : s.vm.findClass RX6 = some m.cls := hown
  have hl : lv_has ls 3 [(0, .ref y), (1, .int n), (2, .int what)] := hl
  refine lv_aload_n hx hb dX6_about_0 rfl (lv_at hl 0 rfl) ?_
  refine lv_iconst (v := 0) hx hb dX6_about_1 (by decide) ?_
  refine va_put (ci := 6) (v := .int 0) (ty := .int) (C := RX6) (T := TX6) (N := 24) hx hb hts bi_6 tyX6 tyX6_ok nmX6 hown hK hP hD hS 0 rfl rfl 0 (by decide) (hts _ bw_405) (fun _ h9 => h9) rfl (by decide +kernel) rfl rfl (Nat.le_of_ble_eq_true rfl) dX6_about_2 (fun H locs hP hD hS => ?_)
  have hP : va_P D cl_A [ob_J y 6 [.int 0, .int (nI hh), .int r0, .int r1, .int r2, .int r3, .ref mb, .int given, .int mrew, .int (nI sz), .ref mk, .ref mc, .ref ms, .ref md, .ref mf, .ref mst, .ref mth, .ref mdr, .ref mw, .ref msh, .ref mpo, .ref mpa, .ref mde, .ref mj], ar_I mk cI 8 fkp, ar_I mc cI 8 fct, ar_I ms cI 8 fsa, ar_I md cI 8 fdm, ar_I mf cZ 8 ffz, ar_I mst cI 80 fstk] H := hP
  have hD : va_D A [ob_J y 6 [.int 0, .int (nI hh), .int r0, .int r1, .int r2, .int r3, .ref mb, .int given, .int mrew, .int (nI sz), .ref mk, .ref mc, .ref ms, .ref md, .ref mf, .ref mst, .ref mth, .ref mdr, .ref mw, .ref msh, .ref mpo, .ref mpa, .ref mde, .ref mj], ar_I mk cI 8 fkp, ar_I mc cI 8 fct, ar_I ms cI 8 fsa, ar_I md cI 8 fdm, ar_I mf cZ 8 ffz, ar_I mst cI 80 fstk] := hD
  refine lv_aload_n hx hb dX6_about_5 rfl (lv_at hl 0 rfl) ?_
  refine lv_iload_n hx hb dX6_about_6 rfl (lv_at hl 1 rfl) ?_
  refine ca_VI (rest := []) (wr := [ar_I mk cI 8 fkp, ar_I mc cI 8 fct, ar_I ms cI 8 fsa, ar_I md cI 8 fdm, ar_I mf cZ 8 ffz, ar_I mst cI 80 fstk]) (w2 := fun u_u => [ob_J y 6 [.int 0, .int (nI hh), .int r0, .int r1, .int r2, .int r3, .ref mb, .int given, .int mrew, .int (nI sz), .ref mk, .ref mc, .ref ms, .ref md, .ref mf, .ref mst, .ref mth, .ref mdr, .ref mw, .ref msh, .ref mpo, .ref mpa, .ref mde, .ref mj], ar_I mk cI 8 fkp, ar_I mc cI 8 fct, ar_I ms cI 8 fsa, ar_I md cI 8 fdm, ar_I mf cZ 8 ffz, ar_I mst cI 80 fstk]) (k_X6_noNode l D cI cJ cZ y 0 hh r0 r1 r2 r3 mb given mrew sz mk mc ms md mf mst mth mdr mw msh mpo mpa mde mj n (by first | assumption | omega)) hx hb hml hown hts hN hK hA hP hD hS 6 0 rfl rfl bw_506 bw_508 bs_8 bw_7 bw_509 1 rfl (by decide +kernel) ⟨by decide, by decide⟩ [0] [1, 2, 3, 4, 5, 6] [6, 0, 1, 2, 3, 4, 5] rfl rfl (by decide) (fun _ => rfl) hl.1 rfl (Nat.le_of_ble_eq_true rfl) dX6_about_7 ⟨Nat.zero_le _, Nat.zero_le _⟩ (fun r_7 u_u H locs w_7 hP hD hS => ?_)
  have hP : va_P D cl_A [ob_J y 6 [.int 0, .int (nI hh), .int r0, .int r1, .int r2, .int r3, .ref mb, .int given, .int mrew, .int (nI sz), .ref mk, .ref mc, .ref ms, .ref md, .ref mf, .ref mst, .ref mth, .ref mdr, .ref mw, .ref msh, .ref mpo, .ref mpa, .ref mde, .ref mj], ar_I mk cI 8 fkp, ar_I mc cI 8 fct, ar_I ms cI 8 fsa, ar_I md cI 8 fdm, ar_I mf cZ 8 ffz, ar_I mst cI 80 fstk] H := hP
  have hD : va_D A [ob_J y 6 [.int 0, .int (nI hh), .int r0, .int r1, .int r2, .int r3, .ref mb, .int given, .int mrew, .int (nI sz), .ref mk, .ref mc, .ref ms, .ref md, .ref mf, .ref mst, .ref mth, .ref mdr, .ref mw, .ref msh, .ref mpo, .ref mpa, .ref mde, .ref mj], ar_I mk cI 8 fkp, ar_I mc cI 8 fct, ar_I ms cI 8 fsa, ar_I md cI 8 fdm, ar_I mf cZ 8 ffz, ar_I mst cI 80 fstk] := hD
  have w_7 : r_7 = if ¬ (0 ≤ n ∧ n < nI sz) then 1 else 0 := w_7
  by_cases h_7 : ¬ (0 ≤ n ∧ n < nI sz)
  · rw [if_pos h_7] at w_7; subst w_7
    refine lv_if_eq (tgt := 15) hx hb dX6_about_10 (by decide) (fun h9 => absurd h9 (by decide)) (fun _ => ?_)
    refine lv_iconst (v := (-1)) hx hb dX6_about_13 (by decide) ?_
    exact re_I (w1 := fun u_u : Unit => [ob_J y 6 [.int 0, .int (nI hh), .int r0, .int r1, .int r2, .int r3, .ref mb, .int given, .int mrew, .int (nI sz), .ref mk, .ref mc, .ref ms, .ref md, .ref mf, .ref mst, .ref mth, .ref mdr, .ref mw, .ref msh, .ref mpo, .ref mpa, .ref mde, .ref mj], ar_I mk cI 8 fkp, ar_I mc cI 8 fct, ar_I ms cI 8 fsa, ar_I md cI 8 fdm, ar_I mf cZ 8 ffz, ar_I mst cI 80 fstk]) (v := (-1)) hx hb hr hlk hK hS rfl () hP hD (show (-1) = rr_about sz fsa ffz fla fkp fct fstk n what from by simp [rr_about, hn_P, h_7]) dX6_about_14
  · rw [if_neg h_7] at w_7; subst w_7
    have h_7 := Decidable.not_not.mp h_7
    obtain ⟨jn, h_jn, rfl⟩ : ∃ z : Nat, z < sz ∧ n = nI z := ix_lt (by omega) h_7
    have t_jn := tn_nI (n := jn) (by omega)
    refine lv_if_eq (tgt := 15) hx hb dX6_about_10 (by decide) (fun _ => ?_) (fun h9 => absurd (by decide) h9)
    refine lv_iload_n hx hb dX6_about_15 rfl (lv_at hl 2 rfl) ?_
    by_cases e_16_0 : what = 0
    · subst e_16_0
      refine lv_tableIn (off := 40) (tgt := 56) hx hb dX6_about_16 (by decide) (by decide) (by decide) (by decide) ?_
      refine lv_aload_n hx hb dX6_about_56 rfl (lv_at hl 0 rfl) ?_
      refine va_get (ci := 6) (v := .ref ms) (C := RX6) (T := TX6) (N := 24) hx hb hts bi_6 hown hK hP 0 rfl rfl 12 (by decide) (hts _ bw_417) (fun _ h9 => h9) rfl dX6_about_57 ?_
      refine lv_iload_n hx hb dX6_about_60 rfl (lv_at hl 1 rfl) ?_
      refine ar_ld hx hb hK hP 3 (k := jn) rfl rfl (by omega) (by decide) dX6_about_61 ?_
      exact re_I (w1 := fun u_u : Unit => [ob_J y 6 [.int 0, .int (nI hh), .int r0, .int r1, .int r2, .int r3, .ref mb, .int given, .int mrew, .int (nI sz), .ref mk, .ref mc, .ref ms, .ref md, .ref mf, .ref mst, .ref mth, .ref mdr, .ref mw, .ref msh, .ref mpo, .ref mpa, .ref mde, .ref mj], ar_I mk cI 8 fkp, ar_I mc cI 8 fct, ar_I ms cI 8 fsa, ar_I md cI 8 fdm, ar_I mf cZ 8 ffz, ar_I mst cI 80 fstk]) (v := fsa jn) hx hb hr hlk hK hS rfl () hP hD (show (fsa jn) = rr_about sz fsa ffz fla fkp fct fstk (nI jn) 0 from by simp [rr_about, hn_P, h_7, t_jn]) dX6_about_62
    by_cases e_16_1 : what = 1
    · subst e_16_1
      refine lv_tableIn (off := 47) (tgt := 63) hx hb dX6_about_16 (by decide) (by decide) (by decide) (by decide) ?_
      refine lv_aload_n hx hb dX6_about_63 rfl (lv_at hl 0 rfl) ?_
      refine va_get (ci := 6) (v := .ref mf) (C := RX6) (T := TX6) (N := 24) hx hb hts bi_6 hown hK hP 0 rfl rfl 14 (by decide) (hts _ bw_419) (fun _ h9 => h9) rfl dX6_about_64 ?_
      refine lv_iload_n hx hb dX6_about_67 rfl (lv_at hl 1 rfl) ?_
      refine ar_zd hx hb hK hP 5 (k := jn) rfl rfl (by omega) (by decide) dX6_about_68 ?_
      refine lv_if_eq (tgt := 76) hx hb dX6_about_69 (by decide) (fun c_69 => ?_) (fun c_69 => ?_)
      · refine lv_iconst (v := 0) hx hb dX6_about_76 (by decide) ?_
        exact re_I (w1 := fun u_u : Unit => [ob_J y 6 [.int 0, .int (nI hh), .int r0, .int r1, .int r2, .int r3, .ref mb, .int given, .int mrew, .int (nI sz), .ref mk, .ref mc, .ref ms, .ref md, .ref mf, .ref mst, .ref mth, .ref mdr, .ref mw, .ref msh, .ref mpo, .ref mpa, .ref mde, .ref mj], ar_I mk cI 8 fkp, ar_I mc cI 8 fct, ar_I ms cI 8 fsa, ar_I md cI 8 fdm, ar_I mf cZ 8 ffz, ar_I mst cI 80 fstk]) (v := 0) hx hb hr hlk hK hS rfl () hP hD (show 0 = rr_about sz fsa ffz fla fkp fct fstk (nI jn) 1 from by simp [rr_about, hn_P, h_7, t_jn, e_16_0, c_69]) dX6_about_77
      · refine lv_iconst (v := 1) hx hb dX6_about_72 (by decide) ?_
        refine lv_goto (tgt := 77) hx hb dX6_about_73 (by decide) ?_
        exact re_I (w1 := fun u_u : Unit => [ob_J y 6 [.int 0, .int (nI hh), .int r0, .int r1, .int r2, .int r3, .ref mb, .int given, .int mrew, .int (nI sz), .ref mk, .ref mc, .ref ms, .ref md, .ref mf, .ref mst, .ref mth, .ref mdr, .ref mw, .ref msh, .ref mpo, .ref mpa, .ref mde, .ref mj], ar_I mk cI 8 fkp, ar_I mc cI 8 fct, ar_I ms cI 8 fsa, ar_I md cI 8 fdm, ar_I mf cZ 8 ffz, ar_I mst cI 80 fstk]) (v := 1) hx hb hr hlk hK hS rfl () hP hD (show 1 = rr_about sz fsa ffz fla fkp fct fstk (nI jn) 1 from by simp [rr_about, hn_P, h_7, t_jn, e_16_0, c_69]) dX6_about_77
    by_cases e_16_2 : what = 2
    · subst e_16_2
      refine lv_tableIn (off := 62) (tgt := 78) hx hb dX6_about_16 (by decide) (by decide) (by decide) (by decide) ?_
      refine lv_aload_n hx hb dX6_about_78 rfl (lv_at hl 0 rfl) ?_
      refine va_get (ci := 6) (v := .ref ms) (C := RX6) (T := TX6) (N := 24) hx hb hts bi_6 hown hK hP 0 rfl rfl 12 (by decide) (hts _ bw_417) (fun _ h9 => h9) rfl dX6_about_79 ?_
      refine lv_iload_n hx hb dX6_about_82 rfl (lv_at hl 1 rfl) ?_
      refine ar_ld hx hb hK hP 3 (k := jn) rfl rfl (by omega) (by decide) dX6_about_83 ?_
      refine lv_iconst (v := 3) hx hb dX6_about_84 (by decide) ?_
      refine lv_icmp_ne (tgt := 97) hx hb dX6_about_85 (by decide) (fun c_85 => ?_) (fun c_85 => ?_)
      · refine lv_bipush (v := (-2)) hx hb dX6_about_97 (by decide) ?_
        exact re_I (w1 := fun u_u : Unit => [ob_J y 6 [.int 0, .int (nI hh), .int r0, .int r1, .int r2, .int r3, .ref mb, .int given, .int mrew, .int (nI sz), .ref mk, .ref mc, .ref ms, .ref md, .ref mf, .ref mst, .ref mth, .ref mdr, .ref mw, .ref msh, .ref mpo, .ref mpa, .ref mde, .ref mj], ar_I mk cI 8 fkp, ar_I mc cI 8 fct, ar_I ms cI 8 fsa, ar_I md cI 8 fdm, ar_I mf cZ 8 ffz, ar_I mst cI 80 fstk]) (v := (-2)) hx hb hr hlk hK hS rfl () hP hD (show (-2) = rr_about sz fsa ffz fla fkp fct fstk (nI jn) 2 from by simp [rr_about, hn_P, h_7, t_jn]; exact (hL jn h_jn c_85).symm) dX6_about_99
      · refine lv_aload_n hx hb dX6_about_88 rfl (lv_at hl 0 rfl) ?_
        refine va_get (ci := 6) (v := .ref md) (C := RX6) (T := TX6) (N := 24) hx hb hts bi_6 hown hK hP 0 rfl rfl 13 (by decide) (hts _ bw_418) (fun _ h9 => h9) rfl dX6_about_89 ?_
        refine lv_iload_n hx hb dX6_about_92 rfl (lv_at hl 1 rfl) ?_
        refine ar_ld hx hb hK hP 4 (k := jn) rfl rfl (by omega) (by decide) dX6_about_93 ?_
        refine lv_goto (tgt := 99) hx hb dX6_about_94 (by decide) ?_
        exact re_I (w1 := fun u_u : Unit => [ob_J y 6 [.int 0, .int (nI hh), .int r0, .int r1, .int r2, .int r3, .ref mb, .int given, .int mrew, .int (nI sz), .ref mk, .ref mc, .ref ms, .ref md, .ref mf, .ref mst, .ref mth, .ref mdr, .ref mw, .ref msh, .ref mpo, .ref mpa, .ref mde, .ref mj], ar_I mk cI 8 fkp, ar_I mc cI 8 fct, ar_I ms cI 8 fsa, ar_I md cI 8 fdm, ar_I mf cZ 8 ffz, ar_I mst cI 80 fstk]) (v := fdm jn) hx hb hr hlk hK hS rfl () hP hD (show (fdm jn) = rr_about sz fsa ffz fla fkp fct fstk (nI jn) 2 from by simp [rr_about, hn_P, h_7, t_jn]; exact hDl jn h_jn c_85) dX6_about_99
    by_cases e_16_3 : what = 3
    · subst e_16_3
      refine lv_tableIn (off := 84) (tgt := 100) hx hb dX6_about_16 (by decide) (by decide) (by decide) (by decide) ?_
      refine lv_aload_n hx hb dX6_about_100 rfl (lv_at hl 0 rfl) ?_
      refine va_get (ci := 6) (v := .ref mk) (C := RX6) (T := TX6) (N := 24) hx hb hts bi_6 hown hK hP 0 rfl rfl 10 (by decide) (hts _ bw_415) (fun _ h9 => h9) rfl dX6_about_101 ?_
      refine lv_iload_n hx hb dX6_about_104 rfl (lv_at hl 1 rfl) ?_
      refine ar_ld hx hb hK hP 1 (k := jn) rfl rfl (by omega) (by decide) dX6_about_105 ?_
      exact re_I (w1 := fun u_u : Unit => [ob_J y 6 [.int 0, .int (nI hh), .int r0, .int r1, .int r2, .int r3, .ref mb, .int given, .int mrew, .int (nI sz), .ref mk, .ref mc, .ref ms, .ref md, .ref mf, .ref mst, .ref mth, .ref mdr, .ref mw, .ref msh, .ref mpo, .ref mpa, .ref mde, .ref mj], ar_I mk cI 8 fkp, ar_I mc cI 8 fct, ar_I ms cI 8 fsa, ar_I md cI 8 fdm, ar_I mf cZ 8 ffz, ar_I mst cI 80 fstk]) (v := fkp jn) hx hb hr hlk hK hS rfl () hP hD (show (fkp jn) = rr_about sz fsa ffz fla fkp fct fstk (nI jn) 3 from by simp [rr_about, hn_P, h_7, t_jn, e_16_0, e_16_1, e_16_2]) dX6_about_106
    by_cases e_16_4 : what = 4
    · subst e_16_4
      refine lv_tableIn (off := 91) (tgt := 107) hx hb dX6_about_16 (by decide) (by decide) (by decide) (by decide) ?_
      refine lv_aload_n hx hb dX6_about_107 rfl (lv_at hl 0 rfl) ?_
      refine va_get (ci := 6) (v := .ref mc) (C := RX6) (T := TX6) (N := 24) hx hb hts bi_6 hown hK hP 0 rfl rfl 11 (by decide) (hts _ bw_416) (fun _ h9 => h9) rfl dX6_about_108 ?_
      refine lv_iload_n hx hb dX6_about_111 rfl (lv_at hl 1 rfl) ?_
      refine ar_ld hx hb hK hP 2 (k := jn) rfl rfl (by omega) (by decide) dX6_about_112 ?_
      exact re_I (w1 := fun u_u : Unit => [ob_J y 6 [.int 0, .int (nI hh), .int r0, .int r1, .int r2, .int r3, .ref mb, .int given, .int mrew, .int (nI sz), .ref mk, .ref mc, .ref ms, .ref md, .ref mf, .ref mst, .ref mth, .ref mdr, .ref mw, .ref msh, .ref mpo, .ref mpa, .ref mde, .ref mj], ar_I mk cI 8 fkp, ar_I mc cI 8 fct, ar_I ms cI 8 fsa, ar_I md cI 8 fdm, ar_I mf cZ 8 ffz, ar_I mst cI 80 fstk]) (v := fct jn) hx hb hr hlk hK hS rfl () hP hD (show (fct jn) = rr_about sz fsa ffz fla fkp fct fstk (nI jn) 4 from by simp [rr_about, hn_P, h_7, t_jn, e_16_0, e_16_1, e_16_2, e_16_3]) dX6_about_113
    by_cases e_16_5 : what = 5
    · subst e_16_5
      refine lv_tableIn (off := 98) (tgt := 114) hx hb dX6_about_16 (by decide) (by decide) (by decide) (by decide) ?_
      refine lv_aload_n hx hb dX6_about_114 rfl (lv_at hl 0 rfl) ?_
      refine lv_iload_n hx hb dX6_about_115 rfl (lv_at hl 1 rfl) ?_
      refine ca_VI (rest := []) (wr := [ar_I mk cI 8 fkp, ar_I mc cI 8 fct, ar_I ms cI 8 fsa, ar_I md cI 8 fdm, ar_I mf cZ 8 ffz]) (w2 := fun u_u => [ob_J y 6 [.int 0, .int (nI hh), .int r0, .int r1, .int r2, .int r3, .ref mb, .int given, .int mrew, .int (nI sz), .ref mk, .ref mc, .ref ms, .ref md, .ref mf, .ref mst, .ref mth, .ref mdr, .ref mw, .ref msh, .ref mpo, .ref mpa, .ref mde, .ref mj], ar_I mk cI 8 fkp, ar_I mc cI 8 fct, ar_I ms cI 8 fsa, ar_I md cI 8 fdm, ar_I mf cZ 8 ffz, ar_I mst cI 80 fstk]) (k_X6_about5 l D cI cJ cZ y mst 0 hh r0 r1 r2 r3 mb given mrew sz mk mc ms md mf mth mdr mw msh mpo mpa mde mj fstk jn (by first | assumption | omega)) hx hb hml hown hts hN hK hA hP hD hS 6 0 rfl rfl bw_546 bw_548 bs_13 bw_7 bw_549 1 rfl (by decide +kernel) ⟨by decide, by decide⟩ [0, 6] [1, 2, 3, 4, 5] [5, 0, 1, 2, 3, 4, 6] rfl rfl (by decide) (fun _ => rfl) hl.1 rfl (Nat.le_of_ble_eq_true rfl) dX6_about_116 ⟨Nat.zero_le _, Nat.zero_le _⟩ (fun r_116 u_u H locs w_116 hP hD hS => ?_)
      have hP : va_P D cl_A [ob_J y 6 [.int 0, .int (nI hh), .int r0, .int r1, .int r2, .int r3, .ref mb, .int given, .int mrew, .int (nI sz), .ref mk, .ref mc, .ref ms, .ref md, .ref mf, .ref mst, .ref mth, .ref mdr, .ref mw, .ref msh, .ref mpo, .ref mpa, .ref mde, .ref mj], ar_I mk cI 8 fkp, ar_I mc cI 8 fct, ar_I ms cI 8 fsa, ar_I md cI 8 fdm, ar_I mf cZ 8 ffz, ar_I mst cI 80 fstk] H := hP
      have hD : va_D A [ob_J y 6 [.int 0, .int (nI hh), .int r0, .int r1, .int r2, .int r3, .ref mb, .int given, .int mrew, .int (nI sz), .ref mk, .ref mc, .ref ms, .ref md, .ref mf, .ref mst, .ref mth, .ref mdr, .ref mw, .ref msh, .ref mpo, .ref mpa, .ref mde, .ref mj], ar_I mk cI 8 fkp, ar_I mc cI 8 fct, ar_I ms cI 8 fsa, ar_I md cI 8 fdm, ar_I mf cZ 8 ffz, ar_I mst cI 80 fstk] := hD
      have w_116 : r_116 = sI_ (fun a => fstk (jn * 10 + a)) 10 := w_116
      subst w_116
      exact re_I (w1 := fun u_u : Unit => [ob_J y 6 [.int 0, .int (nI hh), .int r0, .int r1, .int r2, .int r3, .ref mb, .int given, .int mrew, .int (nI sz), .ref mk, .ref mc, .ref ms, .ref md, .ref mf, .ref mst, .ref mth, .ref mdr, .ref mw, .ref msh, .ref mpo, .ref mpa, .ref mde, .ref mj], ar_I mk cI 8 fkp, ar_I mc cI 8 fct, ar_I ms cI 8 fsa, ar_I md cI 8 fdm, ar_I mf cZ 8 ffz, ar_I mst cI 80 fstk]) (v := sI_ (fun a => fstk (jn * 10 + a)) 10) hx hb hr hlk hK hS rfl () hP hD (show (sI_ (fun a => fstk (jn * 10 + a)) 10) = rr_about sz fsa ffz fla fkp fct fstk (nI jn) 5 from by simp [rr_about, hn_P, h_7, t_jn, e_16_0, e_16_1, e_16_2, e_16_3, e_16_4]) dX6_about_119
    refine lv_tableOut (tgt := 120) hx hb dX6_about_16 (sw_out 5 (fun z hz => ?_)) (by decide) ?_
    · rcases (show z = 0 ∨ z = 1 ∨ z = 2 ∨ z = 3 ∨ z = 4 ∨ z = 5 by omega) with rfl | rfl | rfl | rfl | rfl | rfl
      · exact e_16_0
      · exact e_16_1
      · exact e_16_2
      · exact e_16_3
      · exact e_16_4
      · exact e_16_5
    · refine lv_iconst (v := (-1)) hx hb dX6_about_120 (by decide) ?_
      exact re_I (w1 := fun u_u : Unit => [ob_J y 6 [.int 0, .int (nI hh), .int r0, .int r1, .int r2, .int r3, .ref mb, .int given, .int mrew, .int (nI sz), .ref mk, .ref mc, .ref ms, .ref md, .ref mf, .ref mst, .ref mth, .ref mdr, .ref mw, .ref msh, .ref mpo, .ref mpa, .ref mde, .ref mj], ar_I mk cI 8 fkp, ar_I mc cI 8 fct, ar_I ms cI 8 fsa, ar_I md cI 8 fdm, ar_I mf cZ 8 ffz, ar_I mst cI 80 fstk]) (v := (-1)) hx hb hr hlk hK hS rfl () hP hD (show (-1) = rr_about sz fsa ffz fla fkp fct fstk (nI jn) what from by simp [rr_about, hn_P, h_7, t_jn, e_16_0, e_16_1, e_16_2, e_16_3, e_16_4, e_16_5]) dX6_about_121

set_option maxHeartbeats 4000000 in
set_option maxRecDepth 100000 in
theorem k_X6_allOf (l : Launch) (D : va_G) (cI cJ cZ : ClassId) (y : Nat) (mw : Nat) (th : Int32) (hh : Nat) (r0 : Int32) (r1 : Int32) (r2 : Int32) (r3 : Int32) (mb : Nat) (given : Int32) (mrew : Int32) (sz : Nat) (mk : Nat) (mc : Nat) (ms : Nat) (md : Nat) (mf : Nat) (mst : Nat) (mth : Nat) (mdr : Nat) (msh : Nat) (mpo : Nat) (mpa : Nat) (mde : Nat) (mj : Nat) (fwt : Nat → Int32) (kh : Nat) (hh_ : kh ≤ 100) : mt_I l yX6_allOf cX6_allOf 4 .int 0 0 D cI cJ cZ [ob_J y 6 [.int th, .int (nI hh), .int r0, .int r1, .int r2, .int r3, .ref mb, .int given, .int mrew, .int (nI sz), .ref mk, .ref mc, .ref ms, .ref md, .ref mf, .ref mst, .ref mth, .ref mdr, .ref mw, .ref msh, .ref mpo, .ref mpa, .ref mde, .ref mj], ar_I mw cI 808 fwt] [.ref y, .int (nI kh)] (fun r (u_u : Unit) => r = sI_ (fun n => fwt (kh * 8 + n)) 8) (fun u_u : Unit => [ob_J y 6 [.int th, .int (nI hh), .int r0, .int r1, .int r2, .int r3, .ref mb, .int given, .int mrew, .int (nI sz), .ref mk, .ref mc, .ref ms, .ref md, .ref mf, .ref mst, .ref mth, .ref mdr, .ref mw, .ref msh, .ref mpo, .ref mpa, .ref mde, .ref mj], ar_I mw cI 808 fwt]) := by
  refine en_I (by decide) (Nat.le_of_ble_eq_true rfl) ?_
  intro p e s m below meth c A ls H locs hx hb hr hml hts hown hlk hN hK hA hP hD hS hl
  have hown : s.vm.findClass RX6 = some m.cls := hown
  have hl : lv_has ls 4 [(0, .ref y), (1, .int (nI kh))] := hl
  refine lv_iconst (v := 0) hx hb dX6_allOf_0 (by decide) ?_
  refine lv_istore_n (lv' := [(2, .int 0), (0, .ref y), (1, .int (nI kh))]) hx hb dX6_allOf_1 rfl hl (by decide) rfl (fun ls hl => ?_)
  refine lv_iconst (v := 0) hx hb dX6_allOf_2 (by decide) ?_
  refine lv_istore_n (lv' := [(3, .int 0), (2, .int 0), (0, .ref y), (1, .int (nI kh))]) hx hb dX6_allOf_3 rfl hl (by decide) rfl (fun ls hl => ?_)
  have hl := lv_sub (l' := [(0, .ref y), (1, .int (nI kh)), (2, .int 0), (3, .int 0)]) hl [2, 3, 1, 0] rfl
  have q_1 : 0 = (sI_ (fun n => fwt (kh * 8 + n)) 0) := rfl
  have hl := cs_L (fun z_z => [(0, .ref y), (1, .int (nI kh)), (2, .int z_z), (3, .int 0)]) q_1 hl
  have q_2 : 0 = (nI 0) := rfl
  have hl := cs_L (fun z_z => [(0, .ref y), (1, .int (nI kh)), (2, .int (sI_ (fun n => fwt (kh * 8 + n)) 0)), (3, .int z_z)]) q_2 hl
  have hl : lv_has ls 4 [(0, .ref y), (1, .int (nI kh)), (2, .int (sI_ (fun n => fwt (kh * 8 + n)) 0)), (3, .int (nI 0))] := hl
  refine lp_g (σ := Nat) (fun i => 8 - i) (fun i => [ob_J y 6 [.int th, .int (nI hh), .int r0, .int r1, .int r2, .int r3, .ref mb, .int given, .int mrew, .int (nI sz), .ref mk, .ref mc, .ref ms, .ref md, .ref mf, .ref mst, .ref mth, .ref mdr, .ref mw, .ref msh, .ref mpo, .ref mpa, .ref mde, .ref mj], ar_I mw cI 808 fwt]) (fun i => [(0, .ref y), (1, .int (nI kh)), (2, .int (sI_ (fun n => fwt (kh * 8 + n)) i)), (3, .int (nI i))]) (fun i => (i ≤ 8)) ?_ 0 (show (0 ≤ 8) from by omega) hP hD hS hl
  intro i H locs ls hF hP hD hS hl ih_4
  have hF : (i ≤ 8) := hF
  have hi := hF
  have hP : va_P D cl_A [ob_J y 6 [.int th, .int (nI hh), .int r0, .int r1, .int r2, .int r3, .ref mb, .int given, .int mrew, .int (nI sz), .ref mk, .ref mc, .ref ms, .ref md, .ref mf, .ref mst, .ref mth, .ref mdr, .ref mw, .ref msh, .ref mpo, .ref mpa, .ref mde, .ref mj], ar_I mw cI 808 fwt] H := hP
  have hD : va_D A [ob_J y 6 [.int th, .int (nI hh), .int r0, .int r1, .int r2, .int r3, .ref mb, .int given, .int mrew, .int (nI sz), .ref mk, .ref mc, .ref ms, .ref md, .ref mf, .ref mst, .ref mth, .ref mdr, .ref mw, .ref msh, .ref mpo, .ref mpa, .ref mde, .ref mj], ar_I mw cI 808 fwt] := hD
  have hl : lv_has ls 4 [(0, .ref y), (1, .int (nI kh)), (2, .int (sI_ (fun n => fwt (kh * 8 + n)) i)), (3, .int (nI i))] := hl
  refine lv_iload_n hx hb dX6_allOf_4 rfl (lv_at hl 3 rfl) ?_
  refine lv_bipush (v := 8) hx hb dX6_allOf_5 (by decide) ?_
  refine lv_icmp_ge (tgt := 30) hx hb dX6_allOf_7 (by decide) (fun c_7 => ?_) (fun c_7 => ?_)
  · have c_7 := qq_ge (a := i) (b := 8) c_7 (by omega) (by omega)
    refine lv_iload_n hx hb dX6_allOf_30 rfl (lv_at hl 2 rfl) ?_
    exact re_I (w1 := fun u_u : Unit => [ob_J y 6 [.int th, .int (nI hh), .int r0, .int r1, .int r2, .int r3, .ref mb, .int given, .int mrew, .int (nI sz), .ref mk, .ref mc, .ref ms, .ref md, .ref mf, .ref mst, .ref mth, .ref mdr, .ref mw, .ref msh, .ref mpo, .ref mpa, .ref mde, .ref mj], ar_I mw cI 808 fwt]) (v := sI_ (fun n => fwt (kh * 8 + n)) i) hx hb hr hlk hK hS rfl () hP hD (show (sI_ (fun n => fwt (kh * 8 + n)) i) = sI_ (fun n => fwt (kh * 8 + n)) 8 from by rw [show i = 8 by omega]) dX6_allOf_31
  · have c_7 := qq_nge (a := i) (b := 8) c_7 (by omega) (by omega)
    refine lv_iload_n hx hb dX6_allOf_10 rfl (lv_at hl 2 rfl) ?_
    refine lv_aload_n hx hb dX6_allOf_11 rfl (lv_at hl 0 rfl) ?_
    refine va_get (ci := 6) (v := .ref mw) (C := RX6) (T := TX6) (N := 24) hx hb hts bi_6 hown hK hP 0 rfl rfl 18 (by decide) (hts _ bw_423) (fun _ h9 => h9) rfl dX6_allOf_12 ?_
    refine lv_bipush (v := 8) hx hb dX6_allOf_15 (by decide) ?_
    refine lv_iload_n hx hb dX6_allOf_17 rfl (lv_at hl 1 rfl) ?_
    refine lv_imul hx hb dX6_allOf_18 ?_
    refine tp_i (x' := nI (kh * 8)) (nn_mulc rfl rfl) ?_
    refine lv_iload_n hx hb dX6_allOf_19 rfl (lv_at hl 3 rfl) ?_
    refine lv_iadd hx hb dX6_allOf_20 ?_
    refine tp_i (x' := nI ((kh * 8) + i)) (nn_add rfl rfl) ?_
    refine ar_ld hx hb hK hP 1 (k := (kh * 8) + i) rfl rfl (by omega) (by decide) dX6_allOf_21 ?_
    refine lv_iadd hx hb dX6_allOf_22 ?_
    refine lv_istore_n (lv' := [(2, .int ((sI_ (fun n => fwt (kh * 8 + n)) i) + (fwt ((kh * 8) + i)))), (0, .ref y), (1, .int (nI kh)), (3, .int (nI i))]) hx hb dX6_allOf_23 rfl hl (by decide) rfl (fun ls hl => ?_)
    refine lv_iinc (v := nI (i + 1)) (lv' := [(3, .int (nI (i + 1))), (2, .int ((sI_ (fun n => fwt (kh * 8 + n)) i) + (fwt ((kh * 8) + i)))), (0, .ref y), (1, .int (nI kh))]) hx hb dX6_allOf_24 hl (k := 3) rfl (nI_1 _) (by decide) rfl (fun ls hl => ?_)
    refine lv_goto (tgt := 4) hx hb dX6_allOf_27 (by decide) ?_
    have hl := lv_sub (l' := [(0, .ref y), (1, .int (nI kh)), (2, .int ((sI_ (fun n => fwt (kh * 8 + n)) i) + (fwt ((kh * 8) + i)))), (3, .int (nI (i + 1)))]) hl [2, 3, 1, 0] rfl
    have q_3 : ((sI_ (fun n => fwt (kh * 8 + n)) i) + (fwt ((kh * 8) + i))) = (sI_ (fun n => fwt (kh * 8 + n)) (i + 1)) := rfl
    have hl := cs_L (fun z_z => [(0, .ref y), (1, .int (nI kh)), (2, .int z_z), (3, .int (nI (i + 1)))]) q_3 hl
    have hl : lv_has ls 4 [(0, .ref y), (1, .int (nI kh)), (2, .int (sI_ (fun n => fwt (kh * 8 + n)) (i + 1))), (3, .int (nI (i + 1)))] := hl
    exact ih_4 (i + 1) (show 8 - (i + 1) < 8 - i from by omega) (show ((i + 1) ≤ 8) from by omega) H locs ls hP hD hS hl

set_option maxHeartbeats 4000000 in
set_option maxRecDepth 100000 in
theorem k_X6_weight (l : Launch) (D : va_G) (cI cJ cZ : ClassId) (y : Nat) (mw : Nat) (th : Int32) (hh : Nat) (r0 : Int32) (r1 : Int32) (r2 : Int32) (r3 : Int32) (mb : Nat) (given : Int32) (mrew : Int32) (sz : Nat) (mk : Nat) (mc : Nat) (ms : Nat) (md : Nat) (mf : Nat) (mst : Nat) (mth : Nat) (mdr : Nat) (msh : Nat) (mpo : Nat) (mpa : Nat) (mde : Nat) (mj : Nat) (fwt : Nat → Int32) (n : Int32) (q : Int32) (fal : Nat → Int32) (hsz : sz ≤ 8) (hhh : hh ≤ 100) (hAl : IA_ fwt fal) : mt_I l yX6_weight cX6_weight 3 .int 2 46 D cI cJ cZ [ob_J y 6 [.int th, .int (nI hh), .int r0, .int r1, .int r2, .int r3, .ref mb, .int given, .int mrew, .int (nI sz), .ref mk, .ref mc, .ref ms, .ref md, .ref mf, .ref mst, .ref mth, .ref mdr, .ref mw, .ref msh, .ref mpo, .ref mpa, .ref mde, .ref mj], ar_I mw cI 808 fwt] [.ref y, .int n, .int q] (fun r (u_u : Unit) => r = rr_weight hh sz fwt fal n q) (fun u_u : Unit => [ob_J y 6 [.int 0, .int (nI hh), .int r0, .int r1, .int r2, .int r3, .ref mb, .int given, .int mrew, .int (nI sz), .ref mk, .ref mc, .ref ms, .ref md, .ref mf, .ref mst, .ref mth, .ref mdr, .ref mw, .ref msh, .ref mpo, .ref mpa, .ref mde, .ref mj], ar_I mw cI 808 fwt]) := by
  refine en_I (by decide) (Nat.le_of_ble_eq_true rfl) ?_
  intro p e s m below meth c A ls H locs hx hb hr hml hts hown hlk hN hK hA hP hD hS hl
  have hown : s.vm.findClass RX6 = some m.cls := hown
  have hl : lv_has ls 3 [(0, .ref y), (1, .int n), (2, .int q)] := hl
  refine lv_aload_n hx hb dX6_weight_0 rfl (lv_at hl 0 rfl) ?_
  refine lv_iconst (v := 0) hx hb dX6_weight_1 (by decide) ?_
  refine va_put (ci := 6) (v := .int 0) (ty := .int) (C := RX6) (T := TX6) (N := 24) hx hb hts bi_6 tyX6 tyX6_ok nmX6 hown hK hP hD hS 0 rfl rfl 0 (by decide) (hts _ bw_405) (fun _ h9 => h9) rfl (by decide +kernel) rfl rfl (Nat.le_of_ble_eq_true rfl) dX6_weight_2 (fun H locs hP hD hS => ?_)
  have hP : va_P D cl_A [ob_J y 6 [.int 0, .int (nI hh), .int r0, .int r1, .int r2, .int r3, .ref mb, .int given, .int mrew, .int (nI sz), .ref mk, .ref mc, .ref ms, .ref md, .ref mf, .ref mst, .ref mth, .ref mdr, .ref mw, .ref msh, .ref mpo, .ref mpa, .ref mde, .ref mj], ar_I mw cI 808 fwt] H := hP
  have hD : va_D A [ob_J y 6 [.int 0, .int (nI hh), .int r0, .int r1, .int r2, .int r3, .ref mb, .int given, .int mrew, .int (nI sz), .ref mk, .ref mc, .ref ms, .ref md, .ref mf, .ref mst, .ref mth, .ref mdr, .ref mw, .ref msh, .ref mpo, .ref mpa, .ref mde, .ref mj], ar_I mw cI 808 fwt] := hD
  refine lv_aload_n hx hb dX6_weight_5 rfl (lv_at hl 0 rfl) ?_
  refine lv_iload_n hx hb dX6_weight_6 rfl (lv_at hl 2 rfl) ?_
  refine ca_VI (rest := []) (wr := [ar_I mw cI 808 fwt]) (w2 := fun u_u => [ob_J y 6 [.int 0, .int (nI hh), .int r0, .int r1, .int r2, .int r3, .ref mb, .int given, .int mrew, .int (nI sz), .ref mk, .ref mc, .ref ms, .ref md, .ref mf, .ref mst, .ref mth, .ref mdr, .ref mw, .ref msh, .ref mpo, .ref mpa, .ref mde, .ref mj], ar_I mw cI 808 fwt]) (k_X6_noHeight l D cI cJ cZ y 0 hh r0 r1 r2 r3 mb given mrew sz mk mc ms md mf mst mth mdr mw msh mpo mpa mde mj q ) hx hb hml hown hts hN hK hA hP hD hS 6 0 rfl rfl bw_575 bw_577 bs_15 bw_7 bw_578 1 rfl (by decide +kernel) ⟨by decide, by decide⟩ [0] [1] [1, 0] rfl rfl (by decide) (fun _ => rfl) hl.1 rfl (Nat.le_of_ble_eq_true rfl) dX6_weight_7 ⟨Nat.zero_le _, Nat.zero_le _⟩ (fun r_7 u_u H locs w_7 hP hD hS => ?_)
  have hP : va_P D cl_A [ob_J y 6 [.int 0, .int (nI hh), .int r0, .int r1, .int r2, .int r3, .ref mb, .int given, .int mrew, .int (nI sz), .ref mk, .ref mc, .ref ms, .ref md, .ref mf, .ref mst, .ref mth, .ref mdr, .ref mw, .ref msh, .ref mpo, .ref mpa, .ref mde, .ref mj], ar_I mw cI 808 fwt] H := hP
  have hD : va_D A [ob_J y 6 [.int 0, .int (nI hh), .int r0, .int r1, .int r2, .int r3, .ref mb, .int given, .int mrew, .int (nI sz), .ref mk, .ref mc, .ref ms, .ref md, .ref mf, .ref mst, .ref mth, .ref mdr, .ref mw, .ref msh, .ref mpo, .ref mpa, .ref mde, .ref mj], ar_I mw cI 808 fwt] := hD
  have w_7 : r_7 = if ¬ (0 ≤ q ∧ q ≤ nI hh) then 1 else 0 := w_7
  by_cases h_7 : ¬ (0 ≤ q ∧ q ≤ nI hh)
  · rw [if_pos h_7] at w_7; subst w_7
    refine lv_if_ne (tgt := 26) hx hb dX6_weight_10 (by decide) (fun _ => ?_) (fun h9 => absurd h9 (by decide))
    refine lv_iconst (v := (-1)) hx hb dX6_weight_26 (by decide) ?_
    exact re_I (w1 := fun u_u : Unit => [ob_J y 6 [.int 0, .int (nI hh), .int r0, .int r1, .int r2, .int r3, .ref mb, .int given, .int mrew, .int (nI sz), .ref mk, .ref mc, .ref ms, .ref md, .ref mf, .ref mst, .ref mth, .ref mdr, .ref mw, .ref msh, .ref mpo, .ref mpa, .ref mde, .ref mj], ar_I mw cI 808 fwt]) (v := (-1)) hx hb hr hlk hK hS rfl () hP hD (show (-1) = rr_weight hh sz fwt fal n q from by simp [rr_weight, hs_P, hn_P, h_7]) dX6_weight_27
  · rw [if_neg h_7] at w_7; subst w_7
    have h_7 := Decidable.not_not.mp h_7
    obtain ⟨iq, h_iq, rfl⟩ : ∃ z : Nat, z < (hh + 1) ∧ q = nI z := ix_hs (by omega) h_7
    have t_iq := tn_nI (n := iq) (by omega)
    refine lv_if_ne (tgt := 26) hx hb dX6_weight_10 (by decide) (fun h9 => absurd (by decide) h9) (fun _ => ?_)
    refine lv_iload_n hx hb dX6_weight_13 rfl (lv_at hl 1 rfl) ?_
    refine lv_iconst (v := (-1)) hx hb dX6_weight_14 (by decide) ?_
    refine lv_icmp_eq (tgt := 28) hx hb dX6_weight_15 (by decide) (fun c_15 => ?_) (fun c_15 => ?_)
    · subst c_15
      refine lv_iload_n hx hb dX6_weight_28 rfl (lv_at hl 1 rfl) ?_
      refine lv_iconst (v := (-1)) hx hb dX6_weight_29 (by decide) ?_
      refine lv_icmp_ne (tgt := 41) hx hb dX6_weight_30 (by decide) (fun h9 => absurd (by decide) h9) (fun _ => ?_)
      refine lv_aload_n hx hb dX6_weight_33 rfl (lv_at hl 0 rfl) ?_
      refine lv_iload_n hx hb dX6_weight_34 rfl (lv_at hl 2 rfl) ?_
      refine ca_VI (rest := []) (wr := []) (w2 := fun u_u => [ob_J y 6 [.int 0, .int (nI hh), .int r0, .int r1, .int r2, .int r3, .ref mb, .int given, .int mrew, .int (nI sz), .ref mk, .ref mc, .ref ms, .ref md, .ref mf, .ref mst, .ref mth, .ref mdr, .ref mw, .ref msh, .ref mpo, .ref mpa, .ref mde, .ref mj], ar_I mw cI 808 fwt]) (k_X6_allOf l D cI cJ cZ y mw 0 hh r0 r1 r2 r3 mb given mrew sz mk mc ms md mf mst mth mdr msh mpo mpa mde mj fwt iq (by first | assumption | omega)) hx hb hml hown hts hN hK hA hP hD hS 6 0 rfl rfl bw_534 bw_536 bs_10 bw_7 bw_537 1 rfl (by decide +kernel) ⟨by decide, by decide⟩ [0, 1] [] [0, 1] rfl rfl (by decide) (fun _ => rfl) hl.1 rfl (Nat.le_of_ble_eq_true rfl) dX6_weight_35 ⟨Nat.zero_le _, Nat.zero_le _⟩ (fun r_35 u_u H locs w_35 hP hD hS => ?_)
      have hP : va_P D cl_A [ob_J y 6 [.int 0, .int (nI hh), .int r0, .int r1, .int r2, .int r3, .ref mb, .int given, .int mrew, .int (nI sz), .ref mk, .ref mc, .ref ms, .ref md, .ref mf, .ref mst, .ref mth, .ref mdr, .ref mw, .ref msh, .ref mpo, .ref mpa, .ref mde, .ref mj], ar_I mw cI 808 fwt] H := hP
      have hD : va_D A [ob_J y 6 [.int 0, .int (nI hh), .int r0, .int r1, .int r2, .int r3, .ref mb, .int given, .int mrew, .int (nI sz), .ref mk, .ref mc, .ref ms, .ref md, .ref mf, .ref mst, .ref mth, .ref mdr, .ref mw, .ref msh, .ref mpo, .ref mpa, .ref mde, .ref mj], ar_I mw cI 808 fwt] := hD
      have w_35 : r_35 = sI_ (fun n => fwt (iq * 8 + n)) 8 := w_35
      subst w_35
      refine lv_goto (tgt := 52) hx hb dX6_weight_38 (by decide) ?_
      exact re_I (w1 := fun u_u : Unit => [ob_J y 6 [.int 0, .int (nI hh), .int r0, .int r1, .int r2, .int r3, .ref mb, .int given, .int mrew, .int (nI sz), .ref mk, .ref mc, .ref ms, .ref md, .ref mf, .ref mst, .ref mth, .ref mdr, .ref mw, .ref msh, .ref mpo, .ref mpa, .ref mde, .ref mj], ar_I mw cI 808 fwt]) (v := sI_ (fun n => fwt (iq * 8 + n)) 8) hx hb hr hlk hK hS rfl () hP hD (show (sI_ (fun n => fwt (iq * 8 + n)) 8) = rr_weight hh sz fwt fal (-1) (nI iq) from by simp [rr_weight, hs_P, hn_P, h_7, t_iq]; exact (hAl iq (by omega)).symm) dX6_weight_52
    · refine lv_aload_n hx hb dX6_weight_18 rfl (lv_at hl 0 rfl) ?_
      refine lv_iload_n hx hb dX6_weight_19 rfl (lv_at hl 1 rfl) ?_
      refine ca_VI (rest := []) (wr := [ar_I mw cI 808 fwt]) (w2 := fun u_u => [ob_J y 6 [.int 0, .int (nI hh), .int r0, .int r1, .int r2, .int r3, .ref mb, .int given, .int mrew, .int (nI sz), .ref mk, .ref mc, .ref ms, .ref md, .ref mf, .ref mst, .ref mth, .ref mdr, .ref mw, .ref msh, .ref mpo, .ref mpa, .ref mde, .ref mj], ar_I mw cI 808 fwt]) (k_X6_noNode l D cI cJ cZ y 0 hh r0 r1 r2 r3 mb given mrew sz mk mc ms md mf mst mth mdr mw msh mpo mpa mde mj n (by first | assumption | omega)) hx hb hml hown hts hN hK hA hP hD hS 6 0 rfl rfl bw_506 bw_508 bs_8 bw_7 bw_509 1 rfl (by decide +kernel) ⟨by decide, by decide⟩ [0] [1] [1, 0] rfl rfl (by decide) (fun _ => rfl) hl.1 rfl (Nat.le_of_ble_eq_true rfl) dX6_weight_20 ⟨Nat.zero_le _, Nat.zero_le _⟩ (fun r_20 u_u H locs w_20 hP hD hS => ?_)
      have hP : va_P D cl_A [ob_J y 6 [.int 0, .int (nI hh), .int r0, .int r1, .int r2, .int r3, .ref mb, .int given, .int mrew, .int (nI sz), .ref mk, .ref mc, .ref ms, .ref md, .ref mf, .ref mst, .ref mth, .ref mdr, .ref mw, .ref msh, .ref mpo, .ref mpa, .ref mde, .ref mj], ar_I mw cI 808 fwt] H := hP
      have hD : va_D A [ob_J y 6 [.int 0, .int (nI hh), .int r0, .int r1, .int r2, .int r3, .ref mb, .int given, .int mrew, .int (nI sz), .ref mk, .ref mc, .ref ms, .ref md, .ref mf, .ref mst, .ref mth, .ref mdr, .ref mw, .ref msh, .ref mpo, .ref mpa, .ref mde, .ref mj], ar_I mw cI 808 fwt] := hD
      have w_20 : r_20 = if ¬ (0 ≤ n ∧ n < nI sz) then 1 else 0 := w_20
      by_cases h_20 : ¬ (0 ≤ n ∧ n < nI sz)
      · rw [if_pos h_20] at w_20; subst w_20
        refine lv_if_eq (tgt := 28) hx hb dX6_weight_23 (by decide) (fun h9 => absurd h9 (by decide)) (fun _ => ?_)
        refine lv_iconst (v := (-1)) hx hb dX6_weight_26 (by decide) ?_
        exact re_I (w1 := fun u_u : Unit => [ob_J y 6 [.int 0, .int (nI hh), .int r0, .int r1, .int r2, .int r3, .ref mb, .int given, .int mrew, .int (nI sz), .ref mk, .ref mc, .ref ms, .ref md, .ref mf, .ref mst, .ref mth, .ref mdr, .ref mw, .ref msh, .ref mpo, .ref mpa, .ref mde, .ref mj], ar_I mw cI 808 fwt]) (v := (-1)) hx hb hr hlk hK hS rfl () hP hD (show (-1) = rr_weight hh sz fwt fal n (nI iq) from by simp [rr_weight, hs_P, hn_P, h_7, t_iq, c_15, h_20]) dX6_weight_27
      · rw [if_neg h_20] at w_20; subst w_20
        have h_20 := Decidable.not_not.mp h_20
        obtain ⟨jn, h_jn, rfl⟩ : ∃ z : Nat, z < sz ∧ n = nI z := ix_lt (by omega) h_20
        have t_jn := tn_nI (n := jn) (by omega)
        refine lv_if_eq (tgt := 28) hx hb dX6_weight_23 (by decide) (fun _ => ?_) (fun h9 => absurd (by decide) h9)
        refine lv_iload_n hx hb dX6_weight_28 rfl (lv_at hl 1 rfl) ?_
        refine lv_iconst (v := (-1)) hx hb dX6_weight_29 (by decide) ?_
        refine lv_icmp_ne (tgt := 41) hx hb dX6_weight_30 (by decide) (fun c_30 => ?_) (fun c_30 => ?_)
        · refine lv_aload_n hx hb dX6_weight_41 rfl (lv_at hl 0 rfl) ?_
          refine va_get (ci := 6) (v := .ref mw) (C := RX6) (T := TX6) (N := 24) hx hb hts bi_6 hown hK hP 0 rfl rfl 18 (by decide) (hts _ bw_423) (fun _ h9 => h9) rfl dX6_weight_42 ?_
          refine lv_bipush (v := 8) hx hb dX6_weight_45 (by decide) ?_
          refine lv_iload_n hx hb dX6_weight_47 rfl (lv_at hl 2 rfl) ?_
          refine lv_imul hx hb dX6_weight_48 ?_
          refine tp_i (x' := nI (iq * 8)) (nn_mulc rfl rfl) ?_
          refine lv_iload_n hx hb dX6_weight_49 rfl (lv_at hl 1 rfl) ?_
          refine lv_iadd hx hb dX6_weight_50 ?_
          refine tp_i (x' := nI ((iq * 8) + jn)) (nn_add rfl rfl) ?_
          refine ar_ld hx hb hK hP 1 (k := (iq * 8) + jn) rfl rfl (by omega) (by decide) dX6_weight_51 ?_
          exact re_I (w1 := fun u_u : Unit => [ob_J y 6 [.int 0, .int (nI hh), .int r0, .int r1, .int r2, .int r3, .ref mb, .int given, .int mrew, .int (nI sz), .ref mk, .ref mc, .ref ms, .ref md, .ref mf, .ref mst, .ref mth, .ref mdr, .ref mw, .ref msh, .ref mpo, .ref mpa, .ref mde, .ref mj], ar_I mw cI 808 fwt]) (v := fwt ((iq * 8) + jn)) hx hb hr hlk hK hS rfl () hP hD (show (fwt ((iq * 8) + jn)) = rr_weight hh sz fwt fal (nI jn) (nI iq) from by simp [rr_weight, hs_P, hn_P, h_7, t_iq, c_15, h_20, t_jn, c_30]) dX6_weight_52
        · exact absurd c_30 c_15

set_option maxHeartbeats 4000000 in
set_option maxRecDepth 100000 in
theorem k_X6_reward (l : Launch) (D : va_G) (cI cJ cZ : ClassId) (y : Nat) (msh : Nat) (mpo : Nat) (th : Int32) (hh : Nat) (r0 : Int32) (r1 : Int32) (r2 : Int32) (r3 : Int32) (mb : Nat) (given : Int32) (mrew : Int32) (sz : Nat) (mk : Nat) (mc : Nat) (ms : Nat) (md : Nat) (mf : Nat) (mst : Nat) (mth : Nat) (mdr : Nat) (mw : Nat) (mpa : Nat) (mde : Nat) (mj : Nat) (frw : Nat → Int32) (fpo : Nat → Int32) (n : Int32) (q : Int32) (hsz : sz ≤ 8) (hhh : hh ≤ 100) (hPo : IP_ fpo frw) : mt_I l yX6_reward cX6_reward 3 .int 2 46 D cI cJ cZ [ob_J y 6 [.int th, .int (nI hh), .int r0, .int r1, .int r2, .int r3, .ref mb, .int given, .int mrew, .int (nI sz), .ref mk, .ref mc, .ref ms, .ref md, .ref mf, .ref mst, .ref mth, .ref mdr, .ref mw, .ref msh, .ref mpo, .ref mpa, .ref mde, .ref mj], ar_I msh cI 808 frw, ar_I mpo cI 101 fpo] [.ref y, .int n, .int q] (fun r (u_u : Unit) => r = rr_reward hh sz frw n q) (fun u_u : Unit => [ob_J y 6 [.int 0, .int (nI hh), .int r0, .int r1, .int r2, .int r3, .ref mb, .int given, .int mrew, .int (nI sz), .ref mk, .ref mc, .ref ms, .ref md, .ref mf, .ref mst, .ref mth, .ref mdr, .ref mw, .ref msh, .ref mpo, .ref mpa, .ref mde, .ref mj], ar_I msh cI 808 frw, ar_I mpo cI 101 fpo]) := by
  refine en_I (by decide) (Nat.le_of_ble_eq_true rfl) ?_
  intro p e s m below meth c A ls H locs hx hb hr hml hts hown hlk hN hK hA hP hD hS hl
  have hown : s.vm.findClass RX6 = some m.cls := hown
  have hl : lv_has ls 3 [(0, .ref y), (1, .int n), (2, .int q)] := hl
  refine lv_aload_n hx hb dX6_reward_0 rfl (lv_at hl 0 rfl) ?_
  refine lv_iconst (v := 0) hx hb dX6_reward_1 (by decide) ?_
  refine va_put (ci := 6) (v := .int 0) (ty := .int) (C := RX6) (T := TX6) (N := 24) hx hb hts bi_6 tyX6 tyX6_ok nmX6 hown hK hP hD hS 0 rfl rfl 0 (by decide) (hts _ bw_405) (fun _ h9 => h9) rfl (by decide +kernel) rfl rfl (Nat.le_of_ble_eq_true rfl) dX6_reward_2 (fun H locs hP hD hS => ?_)
  have hP : va_P D cl_A [ob_J y 6 [.int 0, .int (nI hh), .int r0, .int r1, .int r2, .int r3, .ref mb, .int given, .int mrew, .int (nI sz), .ref mk, .ref mc, .ref ms, .ref md, .ref mf, .ref mst, .ref mth, .ref mdr, .ref mw, .ref msh, .ref mpo, .ref mpa, .ref mde, .ref mj], ar_I msh cI 808 frw, ar_I mpo cI 101 fpo] H := hP
  have hD : va_D A [ob_J y 6 [.int 0, .int (nI hh), .int r0, .int r1, .int r2, .int r3, .ref mb, .int given, .int mrew, .int (nI sz), .ref mk, .ref mc, .ref ms, .ref md, .ref mf, .ref mst, .ref mth, .ref mdr, .ref mw, .ref msh, .ref mpo, .ref mpa, .ref mde, .ref mj], ar_I msh cI 808 frw, ar_I mpo cI 101 fpo] := hD
  refine lv_iload_n hx hb dX6_reward_5 rfl (lv_at hl 2 rfl) ?_
  refine lv_i2l (v := q.toInt64) hx hb dX6_reward_6 (rfl) ?_
  refine lv_lconst (v := (Int32.toInt64 0)) hx hb dX6_reward_7 (by decide) ?_
  refine lv_aload_n hx hb dX6_reward_8 rfl (lv_at hl 0 rfl) ?_
  refine va_get (ci := 6) (v := .int (nI hh)) (C := RX6) (T := TX6) (N := 24) hx hb hts bi_6 hown hK hP 0 rfl rfl 1 (by decide) (hts _ bw_406) (fun _ h9 => h9) rfl dX6_reward_9 ?_
  refine lv_iconst (v := 1) hx hb dX6_reward_12 (by decide) ?_
  refine lv_isub hx hb dX6_reward_13 ?_
  refine lv_i2l (v := ((nI hh) - 1).toInt64) hx hb dX6_reward_14 (rfl) ?_
  refine ca_SI (rest := []) (k_X6_in l D cI cJ cZ q 0 ((nI hh) - 1) ) hx hb hml hown hts hN hK hA hP hD hS bw_483 bw_484 bw_7 bw_485 3 rfl (by decide +kernel) ⟨by decide, by decide⟩ hl.1 rfl (Nat.le_of_ble_eq_true rfl) dX6_reward_15 ⟨Nat.zero_le _, Nat.zero_le _⟩ (fun r_15 u_u H locs w_15 hP hD hS => ?_)
  have w_15 : r_15 = if 0 ≤ q ∧ q ≤ ((nI hh) - 1) then 1 else 0 := w_15
  by_cases h_15 : 0 ≤ q ∧ q ≤ ((nI hh) - 1)
  · rw [if_pos h_15] at w_15; subst w_15
    obtain ⟨iq, h_iq, rfl⟩ : ∃ z : Nat, z < hh ∧ q = nI z := ix_m1 (by omega) h_15
    have t_iq := tn_nI (n := iq) (by omega)
    refine lv_if_eq (tgt := 34) hx hb dX6_reward_18 (by decide) (fun h9 => absurd h9 (by decide)) (fun _ => ?_)
    refine lv_iload_n hx hb dX6_reward_21 rfl (lv_at hl 1 rfl) ?_
    refine lv_iconst (v := (-1)) hx hb dX6_reward_22 (by decide) ?_
    refine lv_icmp_eq (tgt := 36) hx hb dX6_reward_23 (by decide) (fun c_23 => ?_) (fun c_23 => ?_)
    · subst c_23
      refine lv_iload_n hx hb dX6_reward_36 rfl (lv_at hl 1 rfl) ?_
      refine lv_iconst (v := (-1)) hx hb dX6_reward_37 (by decide) ?_
      refine lv_icmp_ne (tgt := 50) hx hb dX6_reward_38 (by decide) (fun h9 => absurd (by decide) h9) (fun _ => ?_)
      refine lv_aload_n hx hb dX6_reward_41 rfl (lv_at hl 0 rfl) ?_
      refine va_get (ci := 6) (v := .ref mpo) (C := RX6) (T := TX6) (N := 24) hx hb hts bi_6 hown hK hP 0 rfl rfl 20 (by decide) (hts _ bw_425) (fun _ h9 => h9) rfl dX6_reward_42 ?_
      refine lv_iload_n hx hb dX6_reward_45 rfl (lv_at hl 2 rfl) ?_
      refine ar_ld hx hb hK hP 2 (k := iq) rfl rfl (by omega) (by decide) dX6_reward_46 ?_
      refine lv_goto (tgt := 61) hx hb dX6_reward_47 (by decide) ?_
      exact re_I (w1 := fun u_u : Unit => [ob_J y 6 [.int 0, .int (nI hh), .int r0, .int r1, .int r2, .int r3, .ref mb, .int given, .int mrew, .int (nI sz), .ref mk, .ref mc, .ref ms, .ref md, .ref mf, .ref mst, .ref mth, .ref mdr, .ref mw, .ref msh, .ref mpo, .ref mpa, .ref mde, .ref mj], ar_I msh cI 808 frw, ar_I mpo cI 101 fpo]) (v := fpo iq) hx hb hr hlk hK hS rfl () hP hD (show (fpo iq) = rr_reward hh sz frw (-1) (nI iq) from by simp [rr_reward, hn_P, h_15, t_iq]; exact hPo iq (by omega)) dX6_reward_61
    · refine lv_aload_n hx hb dX6_reward_26 rfl (lv_at hl 0 rfl) ?_
      refine lv_iload_n hx hb dX6_reward_27 rfl (lv_at hl 1 rfl) ?_
      refine ca_VI (rest := []) (wr := [ar_I msh cI 808 frw, ar_I mpo cI 101 fpo]) (w2 := fun u_u => [ob_J y 6 [.int 0, .int (nI hh), .int r0, .int r1, .int r2, .int r3, .ref mb, .int given, .int mrew, .int (nI sz), .ref mk, .ref mc, .ref ms, .ref md, .ref mf, .ref mst, .ref mth, .ref mdr, .ref mw, .ref msh, .ref mpo, .ref mpa, .ref mde, .ref mj], ar_I msh cI 808 frw, ar_I mpo cI 101 fpo]) (k_X6_noNode l D cI cJ cZ y 0 hh r0 r1 r2 r3 mb given mrew sz mk mc ms md mf mst mth mdr mw msh mpo mpa mde mj n (by first | assumption | omega)) hx hb hml hown hts hN hK hA hP hD hS 6 0 rfl rfl bw_506 bw_508 bs_8 bw_7 bw_509 1 rfl (by decide +kernel) ⟨by decide, by decide⟩ [0] [1, 2] [2, 0, 1] rfl rfl (by decide) (fun _ => rfl) hl.1 rfl (Nat.le_of_ble_eq_true rfl) dX6_reward_28 ⟨Nat.zero_le _, Nat.zero_le _⟩ (fun r_28 u_u H locs w_28 hP hD hS => ?_)
      have hP : va_P D cl_A [ob_J y 6 [.int 0, .int (nI hh), .int r0, .int r1, .int r2, .int r3, .ref mb, .int given, .int mrew, .int (nI sz), .ref mk, .ref mc, .ref ms, .ref md, .ref mf, .ref mst, .ref mth, .ref mdr, .ref mw, .ref msh, .ref mpo, .ref mpa, .ref mde, .ref mj], ar_I msh cI 808 frw, ar_I mpo cI 101 fpo] H := hP
      have hD : va_D A [ob_J y 6 [.int 0, .int (nI hh), .int r0, .int r1, .int r2, .int r3, .ref mb, .int given, .int mrew, .int (nI sz), .ref mk, .ref mc, .ref ms, .ref md, .ref mf, .ref mst, .ref mth, .ref mdr, .ref mw, .ref msh, .ref mpo, .ref mpa, .ref mde, .ref mj], ar_I msh cI 808 frw, ar_I mpo cI 101 fpo] := hD
      have w_28 : r_28 = if ¬ (0 ≤ n ∧ n < nI sz) then 1 else 0 := w_28
      by_cases h_28 : ¬ (0 ≤ n ∧ n < nI sz)
      · rw [if_pos h_28] at w_28; subst w_28
        refine lv_if_eq (tgt := 36) hx hb dX6_reward_31 (by decide) (fun h9 => absurd h9 (by decide)) (fun _ => ?_)
        refine lv_iconst (v := (-1)) hx hb dX6_reward_34 (by decide) ?_
        exact re_I (w1 := fun u_u : Unit => [ob_J y 6 [.int 0, .int (nI hh), .int r0, .int r1, .int r2, .int r3, .ref mb, .int given, .int mrew, .int (nI sz), .ref mk, .ref mc, .ref ms, .ref md, .ref mf, .ref mst, .ref mth, .ref mdr, .ref mw, .ref msh, .ref mpo, .ref mpa, .ref mde, .ref mj], ar_I msh cI 808 frw, ar_I mpo cI 101 fpo]) (v := (-1)) hx hb hr hlk hK hS rfl () hP hD (show (-1) = rr_reward hh sz frw n (nI iq) from by simp [rr_reward, hn_P, h_15, t_iq, c_23, h_28]) dX6_reward_35
      · rw [if_neg h_28] at w_28; subst w_28
        have h_28 := Decidable.not_not.mp h_28
        obtain ⟨jn, h_jn, rfl⟩ : ∃ z : Nat, z < sz ∧ n = nI z := ix_lt (by omega) h_28
        have t_jn := tn_nI (n := jn) (by omega)
        refine lv_if_eq (tgt := 36) hx hb dX6_reward_31 (by decide) (fun _ => ?_) (fun h9 => absurd (by decide) h9)
        refine lv_iload_n hx hb dX6_reward_36 rfl (lv_at hl 1 rfl) ?_
        refine lv_iconst (v := (-1)) hx hb dX6_reward_37 (by decide) ?_
        refine lv_icmp_ne (tgt := 50) hx hb dX6_reward_38 (by decide) (fun c_38 => ?_) (fun c_38 => ?_)
        · refine lv_aload_n hx hb dX6_reward_50 rfl (lv_at hl 0 rfl) ?_
          refine va_get (ci := 6) (v := .ref msh) (C := RX6) (T := TX6) (N := 24) hx hb hts bi_6 hown hK hP 0 rfl rfl 19 (by decide) (hts _ bw_424) (fun _ h9 => h9) rfl dX6_reward_51 ?_
          refine lv_bipush (v := 8) hx hb dX6_reward_54 (by decide) ?_
          refine lv_iload_n hx hb dX6_reward_56 rfl (lv_at hl 2 rfl) ?_
          refine lv_imul hx hb dX6_reward_57 ?_
          refine tp_i (x' := nI (iq * 8)) (nn_mulc rfl rfl) ?_
          refine lv_iload_n hx hb dX6_reward_58 rfl (lv_at hl 1 rfl) ?_
          refine lv_iadd hx hb dX6_reward_59 ?_
          refine tp_i (x' := nI ((iq * 8) + jn)) (nn_add rfl rfl) ?_
          refine ar_ld hx hb hK hP 1 (k := (iq * 8) + jn) rfl rfl (by omega) (by decide) dX6_reward_60 ?_
          exact re_I (w1 := fun u_u : Unit => [ob_J y 6 [.int 0, .int (nI hh), .int r0, .int r1, .int r2, .int r3, .ref mb, .int given, .int mrew, .int (nI sz), .ref mk, .ref mc, .ref ms, .ref md, .ref mf, .ref mst, .ref mth, .ref mdr, .ref mw, .ref msh, .ref mpo, .ref mpa, .ref mde, .ref mj], ar_I msh cI 808 frw, ar_I mpo cI 101 fpo]) (v := frw ((iq * 8) + jn)) hx hb hr hlk hK hS rfl () hP hD (show (frw ((iq * 8) + jn)) = rr_reward hh sz frw (nI jn) (nI iq) from by simp [rr_reward, hn_P, h_15, t_iq, c_23, h_28, t_jn, c_38]) dX6_reward_61
        · exact absurd c_38 c_23
  · rw [if_neg h_15] at w_15; subst w_15
    refine lv_if_eq (tgt := 34) hx hb dX6_reward_18 (by decide) (fun _ => ?_) (fun h9 => absurd (by decide) h9)
    refine lv_iconst (v := (-1)) hx hb dX6_reward_34 (by decide) ?_
    exact re_I (w1 := fun u_u : Unit => [ob_J y 6 [.int 0, .int (nI hh), .int r0, .int r1, .int r2, .int r3, .ref mb, .int given, .int mrew, .int (nI sz), .ref mk, .ref mc, .ref ms, .ref md, .ref mf, .ref mst, .ref mth, .ref mdr, .ref mw, .ref msh, .ref mpo, .ref mpa, .ref mde, .ref mj], ar_I msh cI 808 frw, ar_I mpo cI 101 fpo]) (v := (-1)) hx hb hr hlk hK hS rfl () hP hD (show (-1) = rr_reward hh sz frw n q from by simp [rr_reward, hn_P, h_15]) dX6_reward_35

set_option maxHeartbeats 4000000 in
set_option maxRecDepth 100000 in
theorem k_X6_weightOf (l : Launch) (D : va_G) (cI cJ cZ : ClassId) (y : Nat) (mw : Nat) (th : Int32) (hh : Nat) (r0 : Int32) (r1 : Int32) (r2 : Int32) (r3 : Int32) (mb : Nat) (given : Int32) (mrew : Int32) (sz : Nat) (mk : Nat) (mc : Nat) (ms : Nat) (md : Nat) (mf : Nat) (mst : Nat) (mth : Nat) (mdr : Nat) (msh : Nat) (mpo : Nat) (mpa : Nat) (mde : Nat) (mj : Nat) (fwt : Nat → Int32) (kh : Nat) (b : Nat) (hh_ : kh ≤ 100) (hbb : b < 256) : mt_I l yX6_weightOf cX6_weightOf 5 .int 0 0 D cI cJ cZ [ob_J y 6 [.int th, .int (nI hh), .int r0, .int r1, .int r2, .int r3, .ref mb, .int given, .int mrew, .int (nI sz), .ref mk, .ref mc, .ref ms, .ref md, .ref mf, .ref mst, .ref mth, .ref mdr, .ref mw, .ref msh, .ref mpo, .ref mpa, .ref mde, .ref mj], ar_I mw cI 808 fwt] [.ref y, .int (nI kh), .int (nI b)] (fun r (u_u : Unit) => r = wo_ fwt kh b 8) (fun u_u : Unit => [ob_J y 6 [.int th, .int (nI hh), .int r0, .int r1, .int r2, .int r3, .ref mb, .int given, .int mrew, .int (nI sz), .ref mk, .ref mc, .ref ms, .ref md, .ref mf, .ref mst, .ref mth, .ref mdr, .ref mw, .ref msh, .ref mpo, .ref mpa, .ref mde, .ref mj], ar_I mw cI 808 fwt]) := by
  refine en_I (by decide) (Nat.le_of_ble_eq_true rfl) ?_
  intro p e s m below meth c A ls H locs hx hb hr hml hts hown hlk hN hK hA hP hD hS hl
  have hown : s.vm.findClass RX6 = some m.cls := hown
  have hl : lv_has ls 5 [(0, .ref y), (1, .int (nI kh)), (2, .int (nI b))] := hl
  refine lv_iconst (v := 0) hx hb dX6_weightOf_0 (by decide) ?_
  refine lv_istore_n (lv' := [(3, .int 0), (0, .ref y), (1, .int (nI kh)), (2, .int (nI b))]) hx hb dX6_weightOf_1 rfl hl (by decide) rfl (fun ls hl => ?_)
  refine lv_iconst (v := 0) hx hb dX6_weightOf_2 (by decide) ?_
  refine lv_istore (lv' := [(4, .int 0), (3, .int 0), (0, .ref y), (1, .int (nI kh)), (2, .int (nI b))]) hx hb dX6_weightOf_3 hl (by decide) rfl (fun ls hl => ?_)
  have hl := lv_sub (l' := [(0, .ref y), (1, .int (nI kh)), (2, .int (nI b)), (3, .int 0), (4, .int 0)]) hl [2, 3, 4, 1, 0] rfl
  have q_1 : 0 = (wo_ fwt kh b 0) := rfl
  have hl := cs_L (fun z_z => [(0, .ref y), (1, .int (nI kh)), (2, .int (nI b)), (3, .int z_z), (4, .int 0)]) q_1 hl
  have q_2 : 0 = (nI 0) := rfl
  have hl := cs_L (fun z_z => [(0, .ref y), (1, .int (nI kh)), (2, .int (nI b)), (3, .int (wo_ fwt kh b 0)), (4, .int z_z)]) q_2 hl
  have hl : lv_has ls 5 [(0, .ref y), (1, .int (nI kh)), (2, .int (nI b)), (3, .int (wo_ fwt kh b 0)), (4, .int (nI 0))] := hl
  refine lp_g (σ := Nat) (fun i => 8 - i) (fun i => [ob_J y 6 [.int th, .int (nI hh), .int r0, .int r1, .int r2, .int r3, .ref mb, .int given, .int mrew, .int (nI sz), .ref mk, .ref mc, .ref ms, .ref md, .ref mf, .ref mst, .ref mth, .ref mdr, .ref mw, .ref msh, .ref mpo, .ref mpa, .ref mde, .ref mj], ar_I mw cI 808 fwt]) (fun i => [(0, .ref y), (1, .int (nI kh)), (2, .int (nI b)), (3, .int (wo_ fwt kh b i)), (4, .int (nI i))]) (fun i => (i ≤ 8)) ?_ 0 (show (0 ≤ 8) from by omega) hP hD hS hl
  intro i H locs ls hF hP hD hS hl ih_5
  have hF : (i ≤ 8) := hF
  have hi := hF
  have hP : va_P D cl_A [ob_J y 6 [.int th, .int (nI hh), .int r0, .int r1, .int r2, .int r3, .ref mb, .int given, .int mrew, .int (nI sz), .ref mk, .ref mc, .ref ms, .ref md, .ref mf, .ref mst, .ref mth, .ref mdr, .ref mw, .ref msh, .ref mpo, .ref mpa, .ref mde, .ref mj], ar_I mw cI 808 fwt] H := hP
  have hD : va_D A [ob_J y 6 [.int th, .int (nI hh), .int r0, .int r1, .int r2, .int r3, .ref mb, .int given, .int mrew, .int (nI sz), .ref mk, .ref mc, .ref ms, .ref md, .ref mf, .ref mst, .ref mth, .ref mdr, .ref mw, .ref msh, .ref mpo, .ref mpa, .ref mde, .ref mj], ar_I mw cI 808 fwt] := hD
  have hl : lv_has ls 5 [(0, .ref y), (1, .int (nI kh)), (2, .int (nI b)), (3, .int (wo_ fwt kh b i)), (4, .int (nI i))] := hl
  refine lv_iload hx hb dX6_weightOf_5 (lv_at hl 4 rfl) ?_
  refine lv_bipush (v := 8) hx hb dX6_weightOf_7 (by decide) ?_
  refine lv_icmp_ge (tgt := 47) hx hb dX6_weightOf_9 (by decide) (fun c_9 => ?_) (fun c_9 => ?_)
  · have c_9 := qq_ge (a := i) (b := 8) c_9 (by omega) (by omega)
    refine lv_iload_n hx hb dX6_weightOf_47 rfl (lv_at hl 3 rfl) ?_
    exact re_I (w1 := fun u_u : Unit => [ob_J y 6 [.int th, .int (nI hh), .int r0, .int r1, .int r2, .int r3, .ref mb, .int given, .int mrew, .int (nI sz), .ref mk, .ref mc, .ref ms, .ref md, .ref mf, .ref mst, .ref mth, .ref mdr, .ref mw, .ref msh, .ref mpo, .ref mpa, .ref mde, .ref mj], ar_I mw cI 808 fwt]) (v := wo_ fwt kh b i) hx hb hr hlk hK hS rfl () hP hD (show (wo_ fwt kh b i) = wo_ fwt kh b 8 from by rw [show i = 8 by omega]) dX6_weightOf_48
  · have c_9 := qq_nge (a := i) (b := 8) c_9 (by omega) (by omega)
    refine lv_iload_n hx hb dX6_weightOf_12 rfl (lv_at hl 2 rfl) ?_
    refine lv_iload hx hb dX6_weightOf_13 (lv_at hl 4 rfl) ?_
    refine lv_ishr hx hb dX6_weightOf_15 ?_
    refine lv_iconst (v := 1) hx hb dX6_weightOf_16 (by decide) ?_
    refine lv_iand hx hb dX6_weightOf_17 ?_
    refine tp_i (x' := nI (bt_ b i)) (bt_s hbb (by omega)) ?_
    have hbt := bt_lt b i
    refine lv_iconst (v := 1) hx hb dX6_weightOf_18 (by decide) ?_
    refine lv_icmp_ne (tgt := 39) hx hb dX6_weightOf_19 (by decide) (fun c_19 => ?_) (fun c_19 => ?_)
    · have c_19 := qq_ne (a := bt_ b i) (b := 1) c_19 (by omega) (by omega)
      refine lv_iload_n hx hb dX6_weightOf_39 rfl (lv_at hl 3 rfl) ?_
      refine lv_istore_n (lv' := [(3, .int (wo_ fwt kh b i)), (0, .ref y), (1, .int (nI kh)), (2, .int (nI b)), (4, .int (nI i))]) hx hb dX6_weightOf_40 rfl hl (by decide) rfl (fun ls hl => ?_)
      refine lv_iinc (v := nI (i + 1)) (lv' := [(4, .int (nI (i + 1))), (3, .int (wo_ fwt kh b i)), (0, .ref y), (1, .int (nI kh)), (2, .int (nI b))]) hx hb dX6_weightOf_41 hl (k := 4) rfl (nI_1 _) (by decide) rfl (fun ls hl => ?_)
      refine lv_goto (tgt := 5) hx hb dX6_weightOf_44 (by decide) ?_
      have hl := lv_sub (l' := [(0, .ref y), (1, .int (nI kh)), (2, .int (nI b)), (3, .int (wo_ fwt kh b i)), (4, .int (nI (i + 1)))]) hl [2, 3, 4, 1, 0] rfl
      have q_3 : (wo_ fwt kh b i) = (wo_ fwt kh b (i + 1)) := by simp [wo_, show bt_ b i = 0 by omega]
      have hl := cs_L (fun z_z => [(0, .ref y), (1, .int (nI kh)), (2, .int (nI b)), (3, .int z_z), (4, .int (nI (i + 1)))]) q_3 hl
      have hl : lv_has ls 5 [(0, .ref y), (1, .int (nI kh)), (2, .int (nI b)), (3, .int (wo_ fwt kh b (i + 1))), (4, .int (nI (i + 1)))] := hl
      exact ih_5 (i + 1) (show 8 - (i + 1) < 8 - i from by omega) (show ((i + 1) ≤ 8) from by omega) H locs ls hP hD hS hl
    · have c_19 := qq_eq (a := bt_ b i) (b := 1) c_19 (by omega) (by omega)
      refine lv_iload_n hx hb dX6_weightOf_22 rfl (lv_at hl 3 rfl) ?_
      refine lv_aload_n hx hb dX6_weightOf_23 rfl (lv_at hl 0 rfl) ?_
      refine va_get (ci := 6) (v := .ref mw) (C := RX6) (T := TX6) (N := 24) hx hb hts bi_6 hown hK hP 0 rfl rfl 18 (by decide) (hts _ bw_423) (fun _ h9 => h9) rfl dX6_weightOf_24 ?_
      refine lv_bipush (v := 8) hx hb dX6_weightOf_27 (by decide) ?_
      refine lv_iload_n hx hb dX6_weightOf_29 rfl (lv_at hl 1 rfl) ?_
      refine lv_imul hx hb dX6_weightOf_30 ?_
      refine tp_i (x' := nI (kh * 8)) (nn_mulc rfl rfl) ?_
      refine lv_iload hx hb dX6_weightOf_31 (lv_at hl 4 rfl) ?_
      refine lv_iadd hx hb dX6_weightOf_33 ?_
      refine tp_i (x' := nI ((kh * 8) + i)) (nn_add rfl rfl) ?_
      refine ar_ld hx hb hK hP 1 (k := (kh * 8) + i) rfl rfl (by omega) (by decide) dX6_weightOf_34 ?_
      refine lv_iadd hx hb dX6_weightOf_35 ?_
      refine lv_goto (tgt := 40) hx hb dX6_weightOf_36 (by decide) ?_
      refine lv_istore_n (lv' := [(3, .int ((wo_ fwt kh b i) + (fwt ((kh * 8) + i)))), (0, .ref y), (1, .int (nI kh)), (2, .int (nI b)), (4, .int (nI i))]) hx hb dX6_weightOf_40 rfl hl (by decide) rfl (fun ls hl => ?_)
      refine lv_iinc (v := nI (i + 1)) (lv' := [(4, .int (nI (i + 1))), (3, .int ((wo_ fwt kh b i) + (fwt ((kh * 8) + i)))), (0, .ref y), (1, .int (nI kh)), (2, .int (nI b))]) hx hb dX6_weightOf_41 hl (k := 4) rfl (nI_1 _) (by decide) rfl (fun ls hl => ?_)
      refine lv_goto (tgt := 5) hx hb dX6_weightOf_44 (by decide) ?_
      have hl := lv_sub (l' := [(0, .ref y), (1, .int (nI kh)), (2, .int (nI b)), (3, .int ((wo_ fwt kh b i) + (fwt ((kh * 8) + i)))), (4, .int (nI (i + 1)))]) hl [2, 3, 4, 1, 0] rfl
      have q_4 : ((wo_ fwt kh b i) + (fwt ((kh * 8) + i))) = (wo_ fwt kh b (i + 1)) := by simp [wo_, show ¬ bt_ b i = 0 by omega]
      have hl := cs_L (fun z_z => [(0, .ref y), (1, .int (nI kh)), (2, .int (nI b)), (3, .int z_z), (4, .int (nI (i + 1)))]) q_4 hl
      have hl : lv_has ls 5 [(0, .ref y), (1, .int (nI kh)), (2, .int (nI b)), (3, .int (wo_ fwt kh b (i + 1))), (4, .int (nI (i + 1)))] := hl
      exact ih_5 (i + 1) (show 8 - (i + 1) < 8 - i from by omega) (show ((i + 1) ≤ 8) from by omega) H locs ls hP hD hS hl

set_option maxHeartbeats 4000000 in
set_option maxRecDepth 100000 in
theorem k_X6_isGood (l : Launch) (D : va_G) (cI cJ cZ : ClassId) (y : Nat) (mw : Nat) (th : Int32) (hh : Nat) (r0 : Int32) (r1 : Int32) (r2 : Int32) (r3 : Int32) (mb : Nat) (given : Int32) (mrew : Int32) (sz : Nat) (mk : Nat) (mc : Nat) (ms : Nat) (md : Nat) (mf : Nat) (mst : Nat) (mth : Nat) (mdr : Nat) (msh : Nat) (mpo : Nat) (mpa : Nat) (mde : Nat) (mj : Nat) (fwt : Nat → Int32) (kh : Nat) (b : Nat) (fal : Nat → Int32) (hh_ : kh ≤ 100) (hbb : b < 256) (hV : IV_ fwt) (hAl : IA_ fwt fal) : mt_I l yX6_isGood cX6_isGood 3 .boolean 1 24 D cI cJ cZ [ob_J y 6 [.int th, .int (nI hh), .int r0, .int r1, .int r2, .int r3, .ref mb, .int given, .int mrew, .int (nI sz), .ref mk, .ref mc, .ref ms, .ref md, .ref mf, .ref mst, .ref mth, .ref mdr, .ref mw, .ref msh, .ref mpo, .ref mpa, .ref mde, .ref mj], ar_I mw cI 808 fwt] [.ref y, .int (nI kh), .int (nI b)] (fun r (_ : Unit) => r = if 2 * fal kh < 3 * wo_ fwt kh b 8 then 1 else 0) (fun u_u : Unit => [ob_J y 6 [.int th, .int (nI hh), .int r0, .int r1, .int r2, .int r3, .ref mb, .int given, .int mrew, .int (nI sz), .ref mk, .ref mc, .ref ms, .ref md, .ref mf, .ref mst, .ref mth, .ref mdr, .ref mw, .ref msh, .ref mpo, .ref mpa, .ref mde, .ref mj], ar_I mw cI 808 fwt]) := by
  refine en_I (by decide) (Nat.le_of_ble_eq_true rfl) ?_
  intro p e s m below meth c A ls H locs hx hb hr hml hts hown hlk hN hK hA hP hD hS hl
  have hown : s.vm.findClass RX6 = some m.cls := hown
  have hl : lv_has ls 3 [(0, .ref y), (1, .int (nI kh)), (2, .int (nI b))] := hl
  refine lv_ldc2 hx hb hown (hts _ bw_595) dX6_isGood_0 ?_
  refine tp_l (x' := (Int32.toInt64 3)) (by decide) ?_
  refine lv_aload_n hx hb dX6_isGood_3 rfl (lv_at hl 0 rfl) ?_
  refine lv_iload_n hx hb dX6_isGood_4 rfl (lv_at hl 1 rfl) ?_
  refine lv_iload_n hx hb dX6_isGood_5 rfl (lv_at hl 2 rfl) ?_
  refine ca_VI (rest := [.long (Int32.toInt64 3)]) (wr := []) (w2 := fun u_u => [ob_J y 6 [.int th, .int (nI hh), .int r0, .int r1, .int r2, .int r3, .ref mb, .int given, .int mrew, .int (nI sz), .ref mk, .ref mc, .ref ms, .ref md, .ref mf, .ref mst, .ref mth, .ref mdr, .ref mw, .ref msh, .ref mpo, .ref mpa, .ref mde, .ref mj], ar_I mw cI 808 fwt]) (k_X6_weightOf l D cI cJ cZ y mw th hh r0 r1 r2 r3 mb given mrew sz mk mc ms md mf mst mth mdr msh mpo mpa mde mj fwt kh b (by first | assumption | omega) (by first | assumption | omega)) hx hb hml hown hts hN hK hA hP hD hS 6 0 rfl rfl bw_596 bw_598 bs_18 bw_7 bw_599 2 rfl (by decide +kernel) ⟨by decide, by decide⟩ [0, 1] [] [0, 1] rfl rfl (by decide) (fun _ => rfl) hl.1 rfl (Nat.le_of_ble_eq_true rfl) dX6_isGood_6 ⟨Nat.zero_le _, Nat.zero_le _⟩ (fun r_6 u_u H locs w_6 hP hD hS => ?_)
  have hP : va_P D cl_A [ob_J y 6 [.int th, .int (nI hh), .int r0, .int r1, .int r2, .int r3, .ref mb, .int given, .int mrew, .int (nI sz), .ref mk, .ref mc, .ref ms, .ref md, .ref mf, .ref mst, .ref mth, .ref mdr, .ref mw, .ref msh, .ref mpo, .ref mpa, .ref mde, .ref mj], ar_I mw cI 808 fwt] H := hP
  have hD : va_D A [ob_J y 6 [.int th, .int (nI hh), .int r0, .int r1, .int r2, .int r3, .ref mb, .int given, .int mrew, .int (nI sz), .ref mk, .ref mc, .ref ms, .ref md, .ref mf, .ref mst, .ref mth, .ref mdr, .ref mw, .ref msh, .ref mpo, .ref mpa, .ref mde, .ref mj], ar_I mw cI 808 fwt] := hD
  have w_6 : r_6 = wo_ fwt kh b 8 := w_6
  subst w_6
  refine lv_i2l (v := (wo_ fwt kh b 8).toInt64) hx hb dX6_isGood_9 (rfl) ?_
  refine lv_lmul hx hb dX6_isGood_10 ?_
  refine lv_ldc2 hx hb hown (hts _ bw_600) dX6_isGood_11 ?_
  refine tp_l (x' := (Int32.toInt64 2)) (by decide) ?_
  refine lv_aload_n hx hb dX6_isGood_14 rfl (lv_at hl 0 rfl) ?_
  refine lv_iload_n hx hb dX6_isGood_15 rfl (lv_at hl 1 rfl) ?_
  refine ca_VI (rest := [.long (Int32.toInt64 2), .long ((Int32.toInt64 3) * ((wo_ fwt kh b 8).toInt64))]) (wr := []) (w2 := fun u_u => [ob_J y 6 [.int th, .int (nI hh), .int r0, .int r1, .int r2, .int r3, .ref mb, .int given, .int mrew, .int (nI sz), .ref mk, .ref mc, .ref ms, .ref md, .ref mf, .ref mst, .ref mth, .ref mdr, .ref mw, .ref msh, .ref mpo, .ref mpa, .ref mde, .ref mj], ar_I mw cI 808 fwt]) (k_X6_allOf l D cI cJ cZ y mw th hh r0 r1 r2 r3 mb given mrew sz mk mc ms md mf mst mth mdr msh mpo mpa mde mj fwt kh (by first | assumption | omega)) hx hb hml hown hts hN hK hA hP hD hS 6 0 rfl rfl bw_534 bw_536 bs_10 bw_7 bw_537 1 rfl (by decide +kernel) ⟨by decide, by decide⟩ [0, 1] [] [0, 1] rfl rfl (by decide) (fun _ => rfl) hl.1 rfl (Nat.le_of_ble_eq_true rfl) dX6_isGood_16 ⟨Nat.zero_le _, Nat.zero_le _⟩ (fun r_16 u_u H locs w_16 hP hD hS => ?_)
  have hP : va_P D cl_A [ob_J y 6 [.int th, .int (nI hh), .int r0, .int r1, .int r2, .int r3, .ref mb, .int given, .int mrew, .int (nI sz), .ref mk, .ref mc, .ref ms, .ref md, .ref mf, .ref mst, .ref mth, .ref mdr, .ref mw, .ref msh, .ref mpo, .ref mpa, .ref mde, .ref mj], ar_I mw cI 808 fwt] H := hP
  have hD : va_D A [ob_J y 6 [.int th, .int (nI hh), .int r0, .int r1, .int r2, .int r3, .ref mb, .int given, .int mrew, .int (nI sz), .ref mk, .ref mc, .ref ms, .ref md, .ref mf, .ref mst, .ref mth, .ref mdr, .ref mw, .ref msh, .ref mpo, .ref mpa, .ref mde, .ref mj], ar_I mw cI 808 fwt] := hD
  have w_16 : r_16 = sI_ (fun n => fwt (kh * 8 + n)) 8 := w_16
  subst w_16
  refine lv_i2l (v := (sI_ (fun n => fwt (kh * 8 + n)) 8).toInt64) hx hb dX6_isGood_19 (rfl) ?_
  refine lv_lmul hx hb dX6_isGood_20 ?_
  refine W.lcmp hx hb dX6_isGood_21 ?_
  refine lv_if_le (tgt := 29) hx hb dX6_isGood_22 (by decide) (fun c_22 => ?_) (fun c_22 => ?_)
  · have c_22 := lc_le c_22
    refine lv_iconst (v := 0) hx hb dX6_isGood_29 (by decide) ?_
    exact re_I (w1 := fun u_u : Unit => [ob_J y 6 [.int th, .int (nI hh), .int r0, .int r1, .int r2, .int r3, .ref mb, .int given, .int mrew, .int (nI sz), .ref mk, .ref mc, .ref ms, .ref md, .ref mf, .ref mst, .ref mth, .ref mdr, .ref mw, .ref msh, .ref mpo, .ref mpa, .ref mde, .ref mj], ar_I mw cI 808 fwt]) (v := 0) hx hb hr hlk hK hS rfl () hP hD (show _ = if 2 * fal kh < 3 * wo_ fwt kh b 8 then _ else _ from (if_neg (fun z => c_22 ((gd_e hV hAl hh_).mpr z))).symm) dX6_isGood_30
  · have c_22 := lc_nle c_22
    refine lv_iconst (v := 1) hx hb dX6_isGood_25 (by decide) ?_
    refine lv_goto (tgt := 30) hx hb dX6_isGood_26 (by decide) ?_
    exact re_I (w1 := fun u_u : Unit => [ob_J y 6 [.int th, .int (nI hh), .int r0, .int r1, .int r2, .int r3, .ref mb, .int given, .int mrew, .int (nI sz), .ref mk, .ref mc, .ref ms, .ref md, .ref mf, .ref mst, .ref mth, .ref mdr, .ref mw, .ref msh, .ref mpo, .ref mpa, .ref mde, .ref mj], ar_I mw cI 808 fwt]) (v := 1) hx hb hr hlk hK hS rfl () hP hD (show _ = if 2 * fal kh < 3 * wo_ fwt kh b 8 then _ else _ from (if_pos ((gd_e hV hAl hh_).mp c_22)).symm) dX6_isGood_30

set_option maxHeartbeats 4000000 in
set_option maxRecDepth 100000 in
theorem k_X6_may (l : Launch) (D : va_G) (cI cJ cZ : ClassId) (y : Nat) (mw : Nat) (th : Int32) (hh : Nat) (r0 : Int32) (r1 : Int32) (r2 : Int32) (r3 : Int32) (mb : Nat) (given : Int32) (mrew : Int32) (sz : Nat) (mk : Nat) (mc : Nat) (ms : Nat) (md : Nat) (mf : Nat) (mst : Nat) (mth : Nat) (mdr : Nat) (msh : Nat) (mpo : Nat) (mpa : Nat) (mde : Nat) (mj : Nat) (fwt : Nat → Int32) (kf : Nat) (kt : Nat) (b : Nat) (fal : Nat → Int32) (hf : kf ≤ 100) (ht : kt ≤ 100) (hbb : b < 256) (hV : IV_ fwt) (hAl : IA_ fwt fal) : mt_I l yX6_may cX6_may 4 .boolean 2 46 D cI cJ cZ [ob_J y 6 [.int th, .int (nI hh), .int r0, .int r1, .int r2, .int r3, .ref mb, .int given, .int mrew, .int (nI sz), .ref mk, .ref mc, .ref ms, .ref md, .ref mf, .ref mst, .ref mth, .ref mdr, .ref mw, .ref msh, .ref mpo, .ref mpa, .ref mde, .ref mj], ar_I mw cI 808 fwt] [.ref y, .int (nI kf), .int (nI kt), .int (nI b)] (fun r (_ : Unit) => r = if 2 * fal kt < 3 * wo_ fwt kt b 8 ∧ fal kf < 3 * wo_ fwt kf b 8 then 1 else 0) (fun u_u : Unit => [ob_J y 6 [.int th, .int (nI hh), .int r0, .int r1, .int r2, .int r3, .ref mb, .int given, .int mrew, .int (nI sz), .ref mk, .ref mc, .ref ms, .ref md, .ref mf, .ref mst, .ref mth, .ref mdr, .ref mw, .ref msh, .ref mpo, .ref mpa, .ref mde, .ref mj], ar_I mw cI 808 fwt]) := by
  refine en_I (by decide) (Nat.le_of_ble_eq_true rfl) ?_
  intro p e s m below meth c A ls H locs hx hb hr hml hts hown hlk hN hK hA hP hD hS hl
  have hown : s.vm.findClass RX6 = some m.cls := hown
  have hl : lv_has ls 4 [(0, .ref y), (1, .int (nI kf)), (2, .int (nI kt)), (3, .int (nI b))] := hl
  refine lv_aload_n hx hb dX6_may_0 rfl (lv_at hl 0 rfl) ?_
  refine lv_iload_n hx hb dX6_may_1 rfl (lv_at hl 2 rfl) ?_
  refine lv_iload_n hx hb dX6_may_2 rfl (lv_at hl 3 rfl) ?_
  refine ca_VI (rest := []) (wr := []) (w2 := fun u_u => [ob_J y 6 [.int th, .int (nI hh), .int r0, .int r1, .int r2, .int r3, .ref mb, .int given, .int mrew, .int (nI sz), .ref mk, .ref mc, .ref ms, .ref md, .ref mf, .ref mst, .ref mth, .ref mdr, .ref mw, .ref msh, .ref mpo, .ref mpa, .ref mde, .ref mj], ar_I mw cI 808 fwt]) (k_X6_isGood l D cI cJ cZ y mw th hh r0 r1 r2 r3 mb given mrew sz mk mc ms md mf mst mth mdr msh mpo mpa mde mj fwt kt b fal (by first | assumption | omega) (by first | assumption | omega) (by first | assumption | omega) (by first | assumption | omega)) hx hb hml hown hts hN hK hA hP hD hS 6 0 rfl rfl bw_591 bw_593 bs_17 bw_7 bw_594 2 rfl (by decide +kernel) ⟨by decide, by decide⟩ [0, 1] [] [0, 1] rfl rfl (by decide) (fun _ => rfl) hl.1 rfl (Nat.le_of_ble_eq_true rfl) dX6_may_3 ⟨Nat.zero_le _, Nat.zero_le _⟩ (fun r_3 u_u H locs w_3 hP hD hS => ?_)
  have hP : va_P D cl_A [ob_J y 6 [.int th, .int (nI hh), .int r0, .int r1, .int r2, .int r3, .ref mb, .int given, .int mrew, .int (nI sz), .ref mk, .ref mc, .ref ms, .ref md, .ref mf, .ref mst, .ref mth, .ref mdr, .ref mw, .ref msh, .ref mpo, .ref mpa, .ref mde, .ref mj], ar_I mw cI 808 fwt] H := hP
  have hD : va_D A [ob_J y 6 [.int th, .int (nI hh), .int r0, .int r1, .int r2, .int r3, .ref mb, .int given, .int mrew, .int (nI sz), .ref mk, .ref mc, .ref ms, .ref md, .ref mf, .ref mst, .ref mth, .ref mdr, .ref mw, .ref msh, .ref mpo, .ref mpa, .ref mde, .ref mj], ar_I mw cI 808 fwt] := hD
  have w_3 : r_3 = if 2 * fal kt < 3 * wo_ fwt kt b 8 then 1 else 0 := w_3
  by_cases h_3 : 2 * fal kt < 3 * wo_ fwt kt b 8
  · rw [if_pos h_3] at w_3; subst w_3
    refine lv_if_eq (tgt := 34) hx hb dX6_may_6 (by decide) (fun h9 => absurd h9 (by decide)) (fun _ => ?_)
    refine lv_ldc2 hx hb hown (hts _ bw_595) dX6_may_9 ?_
    refine tp_l (x' := (Int32.toInt64 3)) (by decide) ?_
    refine lv_aload_n hx hb dX6_may_12 rfl (lv_at hl 0 rfl) ?_
    refine lv_iload_n hx hb dX6_may_13 rfl (lv_at hl 1 rfl) ?_
    refine lv_iload_n hx hb dX6_may_14 rfl (lv_at hl 3 rfl) ?_
    refine ca_VI (rest := [.long (Int32.toInt64 3)]) (wr := []) (w2 := fun u_u => [ob_J y 6 [.int th, .int (nI hh), .int r0, .int r1, .int r2, .int r3, .ref mb, .int given, .int mrew, .int (nI sz), .ref mk, .ref mc, .ref ms, .ref md, .ref mf, .ref mst, .ref mth, .ref mdr, .ref mw, .ref msh, .ref mpo, .ref mpa, .ref mde, .ref mj], ar_I mw cI 808 fwt]) (k_X6_weightOf l D cI cJ cZ y mw th hh r0 r1 r2 r3 mb given mrew sz mk mc ms md mf mst mth mdr msh mpo mpa mde mj fwt kf b (by first | assumption | omega) (by first | assumption | omega)) hx hb hml hown hts hN hK hA hP hD hS 6 0 rfl rfl bw_596 bw_598 bs_18 bw_7 bw_599 2 rfl (by decide +kernel) ⟨by decide, by decide⟩ [0, 1] [] [0, 1] rfl rfl (by decide) (fun _ => rfl) hl.1 rfl (Nat.le_of_ble_eq_true rfl) dX6_may_15 ⟨Nat.zero_le _, Nat.zero_le _⟩ (fun r_15 u_u H locs w_15 hP hD hS => ?_)
    have hP : va_P D cl_A [ob_J y 6 [.int th, .int (nI hh), .int r0, .int r1, .int r2, .int r3, .ref mb, .int given, .int mrew, .int (nI sz), .ref mk, .ref mc, .ref ms, .ref md, .ref mf, .ref mst, .ref mth, .ref mdr, .ref mw, .ref msh, .ref mpo, .ref mpa, .ref mde, .ref mj], ar_I mw cI 808 fwt] H := hP
    have hD : va_D A [ob_J y 6 [.int th, .int (nI hh), .int r0, .int r1, .int r2, .int r3, .ref mb, .int given, .int mrew, .int (nI sz), .ref mk, .ref mc, .ref ms, .ref md, .ref mf, .ref mst, .ref mth, .ref mdr, .ref mw, .ref msh, .ref mpo, .ref mpa, .ref mde, .ref mj], ar_I mw cI 808 fwt] := hD
    have w_15 : r_15 = wo_ fwt kf b 8 := w_15
    subst w_15
    refine lv_i2l (v := (wo_ fwt kf b 8).toInt64) hx hb dX6_may_18 (rfl) ?_
    refine lv_lmul hx hb dX6_may_19 ?_
    refine lv_aload_n hx hb dX6_may_20 rfl (lv_at hl 0 rfl) ?_
    refine lv_iload_n hx hb dX6_may_21 rfl (lv_at hl 1 rfl) ?_
    refine ca_VI (rest := [.long ((Int32.toInt64 3) * ((wo_ fwt kf b 8).toInt64))]) (wr := []) (w2 := fun u_u => [ob_J y 6 [.int th, .int (nI hh), .int r0, .int r1, .int r2, .int r3, .ref mb, .int given, .int mrew, .int (nI sz), .ref mk, .ref mc, .ref ms, .ref md, .ref mf, .ref mst, .ref mth, .ref mdr, .ref mw, .ref msh, .ref mpo, .ref mpa, .ref mde, .ref mj], ar_I mw cI 808 fwt]) (k_X6_allOf l D cI cJ cZ y mw th hh r0 r1 r2 r3 mb given mrew sz mk mc ms md mf mst mth mdr msh mpo mpa mde mj fwt kf (by first | assumption | omega)) hx hb hml hown hts hN hK hA hP hD hS 6 0 rfl rfl bw_534 bw_536 bs_10 bw_7 bw_537 1 rfl (by decide +kernel) ⟨by decide, by decide⟩ [0, 1] [] [0, 1] rfl rfl (by decide) (fun _ => rfl) hl.1 rfl (Nat.le_of_ble_eq_true rfl) dX6_may_22 ⟨Nat.zero_le _, Nat.zero_le _⟩ (fun r_22 u_u H locs w_22 hP hD hS => ?_)
    have hP : va_P D cl_A [ob_J y 6 [.int th, .int (nI hh), .int r0, .int r1, .int r2, .int r3, .ref mb, .int given, .int mrew, .int (nI sz), .ref mk, .ref mc, .ref ms, .ref md, .ref mf, .ref mst, .ref mth, .ref mdr, .ref mw, .ref msh, .ref mpo, .ref mpa, .ref mde, .ref mj], ar_I mw cI 808 fwt] H := hP
    have hD : va_D A [ob_J y 6 [.int th, .int (nI hh), .int r0, .int r1, .int r2, .int r3, .ref mb, .int given, .int mrew, .int (nI sz), .ref mk, .ref mc, .ref ms, .ref md, .ref mf, .ref mst, .ref mth, .ref mdr, .ref mw, .ref msh, .ref mpo, .ref mpa, .ref mde, .ref mj], ar_I mw cI 808 fwt] := hD
    have w_22 : r_22 = sI_ (fun n => fwt (kf * 8 + n)) 8 := w_22
    subst w_22
    refine lv_i2l (v := (sI_ (fun n => fwt (kf * 8 + n)) 8).toInt64) hx hb dX6_may_25 (rfl) ?_
    refine W.lcmp hx hb dX6_may_26 ?_
    refine lv_if_le (tgt := 34) hx hb dX6_may_27 (by decide) (fun c_27 => ?_) (fun c_27 => ?_)
    · have c_27 := lc_le c_27
      refine lv_iconst (v := 0) hx hb dX6_may_34 (by decide) ?_
      exact re_I (w1 := fun u_u : Unit => [ob_J y 6 [.int th, .int (nI hh), .int r0, .int r1, .int r2, .int r3, .ref mb, .int given, .int mrew, .int (nI sz), .ref mk, .ref mc, .ref ms, .ref md, .ref mf, .ref mst, .ref mth, .ref mdr, .ref mw, .ref msh, .ref mpo, .ref mpa, .ref mde, .ref mj], ar_I mw cI 808 fwt]) (v := 0) hx hb hr hlk hK hS rfl () hP hD (show _ = if 2 * fal kt < 3 * wo_ fwt kt b 8 ∧ fal kf < 3 * wo_ fwt kf b 8 then _ else _ from (if_neg (fun z => c_27 ((gm_e hV hAl hf).mpr z.2))).symm) dX6_may_35
    · have c_27 := lc_nle c_27
      refine lv_iconst (v := 1) hx hb dX6_may_30 (by decide) ?_
      refine lv_goto (tgt := 35) hx hb dX6_may_31 (by decide) ?_
      exact re_I (w1 := fun u_u : Unit => [ob_J y 6 [.int th, .int (nI hh), .int r0, .int r1, .int r2, .int r3, .ref mb, .int given, .int mrew, .int (nI sz), .ref mk, .ref mc, .ref ms, .ref md, .ref mf, .ref mst, .ref mth, .ref mdr, .ref mw, .ref msh, .ref mpo, .ref mpa, .ref mde, .ref mj], ar_I mw cI 808 fwt]) (v := 1) hx hb hr hlk hK hS rfl () hP hD (show _ = if 2 * fal kt < 3 * wo_ fwt kt b 8 ∧ fal kf < 3 * wo_ fwt kf b 8 then _ else _ from (if_pos ⟨h_3, (gm_e hV hAl hf).mp c_27⟩).symm) dX6_may_35
  · rw [if_neg h_3] at w_3; subst w_3
    refine lv_if_eq (tgt := 34) hx hb dX6_may_6 (by decide) (fun _ => ?_) (fun h9 => absurd (by decide) h9)
    refine lv_iconst (v := 0) hx hb dX6_may_34 (by decide) ?_
    exact re_I (w1 := fun u_u : Unit => [ob_J y 6 [.int th, .int (nI hh), .int r0, .int r1, .int r2, .int r3, .ref mb, .int given, .int mrew, .int (nI sz), .ref mk, .ref mc, .ref ms, .ref md, .ref mf, .ref mst, .ref mth, .ref mdr, .ref mw, .ref msh, .ref mpo, .ref mpa, .ref mde, .ref mj], ar_I mw cI 808 fwt]) (v := 0) hx hb hr hlk hK hS rfl () hP hD (show _ = if 2 * fal kt < 3 * wo_ fwt kt b 8 ∧ fal kf < 3 * wo_ fwt kf b 8 then _ else _ from (if_neg (fun z => h_3 z.1)).symm) dX6_may_35

set_option maxHeartbeats 4000000 in
set_option maxRecDepth 100000 in
theorem k_X6_judge (l : Launch) (D : va_G) (cI cJ cZ : ClassId) (y : Nat) (mw : Nat) (th : Int32) (hh : Nat) (r0 : Int32) (r1 : Int32) (r2 : Int32) (r3 : Int32) (mb : Nat) (given : Int32) (mrew : Int32) (sz : Nat) (mk : Nat) (mc : Nat) (ms : Nat) (md : Nat) (mf : Nat) (mst : Nat) (mth : Nat) (mdr : Nat) (msh : Nat) (mpo : Nat) (mpa : Nat) (mde : Nat) (mj : Nat) (fwt : Nat → Int32) (q : Int32) (bits : Int32) (fal : Nat → Int32) (hsz : sz ≤ 8) (hhh : hh ≤ 100) (hV : IV_ fwt) (hAl : IA_ fwt fal) : mt_I l yX6_judge cX6_judge 3 .int 2 46 D cI cJ cZ [ob_J y 6 [.int th, .int (nI hh), .int r0, .int r1, .int r2, .int r3, .ref mb, .int given, .int mrew, .int (nI sz), .ref mk, .ref mc, .ref ms, .ref md, .ref mf, .ref mst, .ref mth, .ref mdr, .ref mw, .ref msh, .ref mpo, .ref mpa, .ref mde, .ref mj], ar_I mw cI 808 fwt] [.ref y, .int q, .int bits] (fun r (u_u : Unit) => r = rr_judge hh sz fwt fal q bits) (fun u_u : Unit => [ob_J y 6 [.int 0, .int (nI hh), .int r0, .int r1, .int r2, .int r3, .ref mb, .int given, .int mrew, .int (nI sz), .ref mk, .ref mc, .ref ms, .ref md, .ref mf, .ref mst, .ref mth, .ref mdr, .ref mw, .ref msh, .ref mpo, .ref mpa, .ref mde, .ref mj], ar_I mw cI 808 fwt]) := by
  refine en_I (by decide) (Nat.le_of_ble_eq_true rfl) ?_
  intro p e s m below meth c A ls H locs hx hb hr hml hts hown hlk hN hK hA hP hD hS hl
  have hown : s.vm.findClass RX6 = some m.cls := hown
  have hl : lv_has ls 3 [(0, .ref y), (1, .int q), (2, .int bits)] := hl
  refine lv_aload_n hx hb dX6_judge_0 rfl (lv_at hl 0 rfl) ?_
  refine lv_iconst (v := 0) hx hb dX6_judge_1 (by decide) ?_
  refine va_put (ci := 6) (v := .int 0) (ty := .int) (C := RX6) (T := TX6) (N := 24) hx hb hts bi_6 tyX6 tyX6_ok nmX6 hown hK hP hD hS 0 rfl rfl 0 (by decide) (hts _ bw_405) (fun _ h9 => h9) rfl (by decide +kernel) rfl rfl (Nat.le_of_ble_eq_true rfl) dX6_judge_2 (fun H locs hP hD hS => ?_)
  have hP : va_P D cl_A [ob_J y 6 [.int 0, .int (nI hh), .int r0, .int r1, .int r2, .int r3, .ref mb, .int given, .int mrew, .int (nI sz), .ref mk, .ref mc, .ref ms, .ref md, .ref mf, .ref mst, .ref mth, .ref mdr, .ref mw, .ref msh, .ref mpo, .ref mpa, .ref mde, .ref mj], ar_I mw cI 808 fwt] H := hP
  have hD : va_D A [ob_J y 6 [.int 0, .int (nI hh), .int r0, .int r1, .int r2, .int r3, .ref mb, .int given, .int mrew, .int (nI sz), .ref mk, .ref mc, .ref ms, .ref md, .ref mf, .ref mst, .ref mth, .ref mdr, .ref mw, .ref msh, .ref mpo, .ref mpa, .ref mde, .ref mj], ar_I mw cI 808 fwt] := hD
  refine lv_aload_n hx hb dX6_judge_5 rfl (lv_at hl 0 rfl) ?_
  refine lv_iload_n hx hb dX6_judge_6 rfl (lv_at hl 1 rfl) ?_
  refine ca_VI (rest := []) (wr := [ar_I mw cI 808 fwt]) (w2 := fun u_u => [ob_J y 6 [.int 0, .int (nI hh), .int r0, .int r1, .int r2, .int r3, .ref mb, .int given, .int mrew, .int (nI sz), .ref mk, .ref mc, .ref ms, .ref md, .ref mf, .ref mst, .ref mth, .ref mdr, .ref mw, .ref msh, .ref mpo, .ref mpa, .ref mde, .ref mj], ar_I mw cI 808 fwt]) (k_X6_noHeight l D cI cJ cZ y 0 hh r0 r1 r2 r3 mb given mrew sz mk mc ms md mf mst mth mdr mw msh mpo mpa mde mj q ) hx hb hml hown hts hN hK hA hP hD hS 6 0 rfl rfl bw_575 bw_577 bs_15 bw_7 bw_578 1 rfl (by decide +kernel) ⟨by decide, by decide⟩ [0] [1] [1, 0] rfl rfl (by decide) (fun _ => rfl) hl.1 rfl (Nat.le_of_ble_eq_true rfl) dX6_judge_7 ⟨Nat.zero_le _, Nat.zero_le _⟩ (fun r_7 u_u H locs w_7 hP hD hS => ?_)
  have hP : va_P D cl_A [ob_J y 6 [.int 0, .int (nI hh), .int r0, .int r1, .int r2, .int r3, .ref mb, .int given, .int mrew, .int (nI sz), .ref mk, .ref mc, .ref ms, .ref md, .ref mf, .ref mst, .ref mth, .ref mdr, .ref mw, .ref msh, .ref mpo, .ref mpa, .ref mde, .ref mj], ar_I mw cI 808 fwt] H := hP
  have hD : va_D A [ob_J y 6 [.int 0, .int (nI hh), .int r0, .int r1, .int r2, .int r3, .ref mb, .int given, .int mrew, .int (nI sz), .ref mk, .ref mc, .ref ms, .ref md, .ref mf, .ref mst, .ref mth, .ref mdr, .ref mw, .ref msh, .ref mpo, .ref mpa, .ref mde, .ref mj], ar_I mw cI 808 fwt] := hD
  have w_7 : r_7 = if ¬ (0 ≤ q ∧ q ≤ nI hh) then 1 else 0 := w_7
  by_cases h_7 : ¬ (0 ≤ q ∧ q ≤ nI hh)
  · rw [if_pos h_7] at w_7; subst w_7
    refine lv_if_ne (tgt := 21) hx hb dX6_judge_10 (by decide) (fun _ => ?_) (fun h9 => absurd h9 (by decide))
    refine lv_iconst (v := (-1)) hx hb dX6_judge_21 (by decide) ?_
    refine lv_goto (tgt := 39) hx hb dX6_judge_22 (by decide) ?_
    exact re_I (w1 := fun u_u : Unit => [ob_J y 6 [.int 0, .int (nI hh), .int r0, .int r1, .int r2, .int r3, .ref mb, .int given, .int mrew, .int (nI sz), .ref mk, .ref mc, .ref ms, .ref md, .ref mf, .ref mst, .ref mth, .ref mdr, .ref mw, .ref msh, .ref mpo, .ref mpa, .ref mde, .ref mj], ar_I mw cI 808 fwt]) (v := (-1)) hx hb hr hlk hK hS rfl () hP hD (show (-1) = rr_judge hh sz fwt fal q bits from by simp [rr_judge, hs_P, ha_P, h_7]) dX6_judge_39
  · rw [if_neg h_7] at w_7; subst w_7
    have h_7 := Decidable.not_not.mp h_7
    obtain ⟨iq, h_iq, rfl⟩ : ∃ z : Nat, z < (hh + 1) ∧ q = nI z := ix_hs (by omega) h_7
    have t_iq := tn_nI (n := iq) (by omega)
    refine lv_if_ne (tgt := 21) hx hb dX6_judge_10 (by decide) (fun h9 => absurd (by decide) h9) (fun _ => ?_)
    refine lv_aload_n hx hb dX6_judge_13 rfl (lv_at hl 0 rfl) ?_
    refine lv_iload_n hx hb dX6_judge_14 rfl (lv_at hl 2 rfl) ?_
    refine ca_VI (rest := []) (wr := [ar_I mw cI 808 fwt]) (w2 := fun u_u => [ob_J y 6 [.int 0, .int (nI hh), .int r0, .int r1, .int r2, .int r3, .ref mb, .int given, .int mrew, .int (nI sz), .ref mk, .ref mc, .ref ms, .ref md, .ref mf, .ref mst, .ref mth, .ref mdr, .ref mw, .ref msh, .ref mpo, .ref mpa, .ref mde, .ref mj], ar_I mw cI 808 fwt]) (k_X6_noBits l D cI cJ cZ y 0 hh r0 r1 r2 r3 mb given mrew sz mk mc ms md mf mst mth mdr mw msh mpo mpa mde mj bits (by first | assumption | omega)) hx hb hml hown hts hN hK hA hP hD hS 6 0 rfl rfl bw_587 bw_589 bs_16 bw_7 bw_590 1 rfl (by decide +kernel) ⟨by decide, by decide⟩ [0] [1] [1, 0] rfl rfl (by decide) (fun _ => rfl) hl.1 rfl (Nat.le_of_ble_eq_true rfl) dX6_judge_15 ⟨Nat.zero_le _, Nat.zero_le _⟩ (fun r_15 u_u H locs w_15 hP hD hS => ?_)
    have hP : va_P D cl_A [ob_J y 6 [.int 0, .int (nI hh), .int r0, .int r1, .int r2, .int r3, .ref mb, .int given, .int mrew, .int (nI sz), .ref mk, .ref mc, .ref ms, .ref md, .ref mf, .ref mst, .ref mth, .ref mdr, .ref mw, .ref msh, .ref mpo, .ref mpa, .ref mde, .ref mj], ar_I mw cI 808 fwt] H := hP
    have hD : va_D A [ob_J y 6 [.int 0, .int (nI hh), .int r0, .int r1, .int r2, .int r3, .ref mb, .int given, .int mrew, .int (nI sz), .ref mk, .ref mc, .ref ms, .ref md, .ref mf, .ref mst, .ref mth, .ref mdr, .ref mw, .ref msh, .ref mpo, .ref mpa, .ref mde, .ref mj], ar_I mw cI 808 fwt] := hD
    have w_15 : r_15 = if ¬ (bits.toUInt32 >>> ((nI sz).toUInt32 &&& Int32.toUInt32 31)).toInt32 = 0 then 1 else 0 := w_15
    by_cases h_15 : ¬ (bits.toUInt32 >>> ((nI sz).toUInt32 &&& Int32.toUInt32 31)).toInt32 = 0
    · rw [if_pos h_15] at w_15; subst w_15
      refine lv_if_eq (tgt := 25) hx hb dX6_judge_18 (by decide) (fun h9 => absurd h9 (by decide)) (fun _ => ?_)
      refine lv_iconst (v := (-1)) hx hb dX6_judge_21 (by decide) ?_
      refine lv_goto (tgt := 39) hx hb dX6_judge_22 (by decide) ?_
      exact re_I (w1 := fun u_u : Unit => [ob_J y 6 [.int 0, .int (nI hh), .int r0, .int r1, .int r2, .int r3, .ref mb, .int given, .int mrew, .int (nI sz), .ref mk, .ref mc, .ref ms, .ref md, .ref mf, .ref mst, .ref mth, .ref mdr, .ref mw, .ref msh, .ref mpo, .ref mpa, .ref mde, .ref mj], ar_I mw cI 808 fwt]) (v := (-1)) hx hb hr hlk hK hS rfl () hP hD (show (-1) = rr_judge hh sz fwt fal (nI iq) bits from by simp [rr_judge, hs_P, ha_P, h_7, t_iq, h_15]) dX6_judge_39
    · rw [if_neg h_15] at w_15; subst w_15
      have h_15 := Decidable.not_not.mp h_15
      obtain ⟨ib, h_ib, rfl⟩ : ∃ z : Nat, z < 256 ∧ bits = nI z := ix_ha hsz h_15
      have t_ib := tn_nI (n := ib) (by omega)
      refine lv_if_eq (tgt := 25) hx hb dX6_judge_18 (by decide) (fun _ => ?_) (fun h9 => absurd (by decide) h9)
      refine lv_aload_n hx hb dX6_judge_25 rfl (lv_at hl 0 rfl) ?_
      refine lv_iload_n hx hb dX6_judge_26 rfl (lv_at hl 1 rfl) ?_
      refine lv_iload_n hx hb dX6_judge_27 rfl (lv_at hl 2 rfl) ?_
      refine ca_VI (rest := []) (wr := []) (w2 := fun u_u => [ob_J y 6 [.int 0, .int (nI hh), .int r0, .int r1, .int r2, .int r3, .ref mb, .int given, .int mrew, .int (nI sz), .ref mk, .ref mc, .ref ms, .ref md, .ref mf, .ref mst, .ref mth, .ref mdr, .ref mw, .ref msh, .ref mpo, .ref mpa, .ref mde, .ref mj], ar_I mw cI 808 fwt]) (k_X6_isGood l D cI cJ cZ y mw 0 hh r0 r1 r2 r3 mb given mrew sz mk mc ms md mf mst mth mdr msh mpo mpa mde mj fwt iq ib fal (by first | assumption | omega) (by first | assumption | omega) (by first | assumption | omega) (by first | assumption | omega)) hx hb hml hown hts hN hK hA hP hD hS 6 0 rfl rfl bw_591 bw_593 bs_17 bw_7 bw_594 2 rfl (by decide +kernel) ⟨by decide, by decide⟩ [0, 1] [] [0, 1] rfl rfl (by decide) (fun _ => rfl) hl.1 rfl (Nat.le_of_ble_eq_true rfl) dX6_judge_28 ⟨Nat.zero_le _, Nat.zero_le _⟩ (fun r_28 u_u H locs w_28 hP hD hS => ?_)
      have hP : va_P D cl_A [ob_J y 6 [.int 0, .int (nI hh), .int r0, .int r1, .int r2, .int r3, .ref mb, .int given, .int mrew, .int (nI sz), .ref mk, .ref mc, .ref ms, .ref md, .ref mf, .ref mst, .ref mth, .ref mdr, .ref mw, .ref msh, .ref mpo, .ref mpa, .ref mde, .ref mj], ar_I mw cI 808 fwt] H := hP
      have hD : va_D A [ob_J y 6 [.int 0, .int (nI hh), .int r0, .int r1, .int r2, .int r3, .ref mb, .int given, .int mrew, .int (nI sz), .ref mk, .ref mc, .ref ms, .ref md, .ref mf, .ref mst, .ref mth, .ref mdr, .ref mw, .ref msh, .ref mpo, .ref mpa, .ref mde, .ref mj], ar_I mw cI 808 fwt] := hD
      have w_28 : r_28 = if 2 * fal iq < 3 * wo_ fwt iq ib 8 then 1 else 0 := w_28
      by_cases h_28 : 2 * fal iq < 3 * wo_ fwt iq ib 8
      · rw [if_pos h_28] at w_28; subst w_28
        refine lv_if_eq (tgt := 38) hx hb dX6_judge_31 (by decide) (fun h9 => absurd h9 (by decide)) (fun _ => ?_)
        refine lv_iconst (v := 1) hx hb dX6_judge_34 (by decide) ?_
        refine lv_goto (tgt := 39) hx hb dX6_judge_35 (by decide) ?_
        exact re_I (w1 := fun u_u : Unit => [ob_J y 6 [.int 0, .int (nI hh), .int r0, .int r1, .int r2, .int r3, .ref mb, .int given, .int mrew, .int (nI sz), .ref mk, .ref mc, .ref ms, .ref md, .ref mf, .ref mst, .ref mth, .ref mdr, .ref mw, .ref msh, .ref mpo, .ref mpa, .ref mde, .ref mj], ar_I mw cI 808 fwt]) (v := 1) hx hb hr hlk hK hS rfl () hP hD (show 1 = rr_judge hh sz fwt fal (nI iq) (nI ib) from by simp [rr_judge, hs_P, ha_P, h_7, t_iq, h_15, t_ib, h_28]) dX6_judge_39
      · rw [if_neg h_28] at w_28; subst w_28
        refine lv_if_eq (tgt := 38) hx hb dX6_judge_31 (by decide) (fun _ => ?_) (fun h9 => absurd (by decide) h9)
        refine lv_iconst (v := 0) hx hb dX6_judge_38 (by decide) ?_
        exact re_I (w1 := fun u_u : Unit => [ob_J y 6 [.int 0, .int (nI hh), .int r0, .int r1, .int r2, .int r3, .ref mb, .int given, .int mrew, .int (nI sz), .ref mk, .ref mc, .ref ms, .ref md, .ref mf, .ref mst, .ref mth, .ref mdr, .ref mw, .ref msh, .ref mpo, .ref mpa, .ref mde, .ref mj], ar_I mw cI 808 fwt]) (v := 0) hx hb hr hlk hK hS rfl () hP hD (show 0 = rr_judge hh sz fwt fal (nI iq) (nI ib) from by simp [rr_judge, hs_P, ha_P, h_7, t_iq, h_15, t_ib, h_28]) dX6_judge_39

set_option maxHeartbeats 4000000 in
set_option maxRecDepth 100000 in
theorem k_X6_jump (l : Launch) (D : va_G) (cI cJ cZ : ClassId) (y : Nat) (mw : Nat) (th : Int32) (hh : Nat) (r0 : Int32) (r1 : Int32) (r2 : Int32) (r3 : Int32) (mb : Nat) (given : Int32) (mrew : Int32) (sz : Nat) (mk : Nat) (mc : Nat) (ms : Nat) (md : Nat) (mf : Nat) (mst : Nat) (mth : Nat) (mdr : Nat) (msh : Nat) (mpo : Nat) (mpa : Nat) (mde : Nat) (mj : Nat) (fwt : Nat → Int32) (f : Int32) (t : Int32) (bits : Int32) (fal : Nat → Int32) (hsz : sz ≤ 8) (hhh : hh ≤ 100) (hV : IV_ fwt) (hAl : IA_ fwt fal) : mt_I l yX6_jump cX6_jump 4 .int 3 69 D cI cJ cZ [ob_J y 6 [.int th, .int (nI hh), .int r0, .int r1, .int r2, .int r3, .ref mb, .int given, .int mrew, .int (nI sz), .ref mk, .ref mc, .ref ms, .ref md, .ref mf, .ref mst, .ref mth, .ref mdr, .ref mw, .ref msh, .ref mpo, .ref mpa, .ref mde, .ref mj], ar_I mw cI 808 fwt] [.ref y, .int f, .int t, .int bits] (fun r (u_u : Unit) => r = rr_jump hh sz fwt fal f t bits) (fun u_u : Unit => [ob_J y 6 [.int 0, .int (nI hh), .int r0, .int r1, .int r2, .int r3, .ref mb, .int given, .int mrew, .int (nI sz), .ref mk, .ref mc, .ref ms, .ref md, .ref mf, .ref mst, .ref mth, .ref mdr, .ref mw, .ref msh, .ref mpo, .ref mpa, .ref mde, .ref mj], ar_I mw cI 808 fwt]) := by
  refine en_I (by decide) (Nat.le_of_ble_eq_true rfl) ?_
  intro p e s m below meth c A ls H locs hx hb hr hml hts hown hlk hN hK hA hP hD hS hl
  have hown : s.vm.findClass RX6 = some m.cls := hown
  have hl : lv_has ls 4 [(0, .ref y), (1, .int f), (2, .int t), (3, .int bits)] := hl
  refine lv_aload_n hx hb dX6_jump_0 rfl (lv_at hl 0 rfl) ?_
  refine lv_iconst (v := 0) hx hb dX6_jump_1 (by decide) ?_
  refine va_put (ci := 6) (v := .int 0) (ty := .int) (C := RX6) (T := TX6) (N := 24) hx hb hts bi_6 tyX6 tyX6_ok nmX6 hown hK hP hD hS 0 rfl rfl 0 (by decide) (hts _ bw_405) (fun _ h9 => h9) rfl (by decide +kernel) rfl rfl (Nat.le_of_ble_eq_true rfl) dX6_jump_2 (fun H locs hP hD hS => ?_)
  have hP : va_P D cl_A [ob_J y 6 [.int 0, .int (nI hh), .int r0, .int r1, .int r2, .int r3, .ref mb, .int given, .int mrew, .int (nI sz), .ref mk, .ref mc, .ref ms, .ref md, .ref mf, .ref mst, .ref mth, .ref mdr, .ref mw, .ref msh, .ref mpo, .ref mpa, .ref mde, .ref mj], ar_I mw cI 808 fwt] H := hP
  have hD : va_D A [ob_J y 6 [.int 0, .int (nI hh), .int r0, .int r1, .int r2, .int r3, .ref mb, .int given, .int mrew, .int (nI sz), .ref mk, .ref mc, .ref ms, .ref md, .ref mf, .ref mst, .ref mth, .ref mdr, .ref mw, .ref msh, .ref mpo, .ref mpa, .ref mde, .ref mj], ar_I mw cI 808 fwt] := hD
  refine lv_aload_n hx hb dX6_jump_5 rfl (lv_at hl 0 rfl) ?_
  refine lv_iload_n hx hb dX6_jump_6 rfl (lv_at hl 1 rfl) ?_
  refine ca_VI (rest := []) (wr := [ar_I mw cI 808 fwt]) (w2 := fun u_u => [ob_J y 6 [.int 0, .int (nI hh), .int r0, .int r1, .int r2, .int r3, .ref mb, .int given, .int mrew, .int (nI sz), .ref mk, .ref mc, .ref ms, .ref md, .ref mf, .ref mst, .ref mth, .ref mdr, .ref mw, .ref msh, .ref mpo, .ref mpa, .ref mde, .ref mj], ar_I mw cI 808 fwt]) (k_X6_noHeight l D cI cJ cZ y 0 hh r0 r1 r2 r3 mb given mrew sz mk mc ms md mf mst mth mdr mw msh mpo mpa mde mj f ) hx hb hml hown hts hN hK hA hP hD hS 6 0 rfl rfl bw_575 bw_577 bs_15 bw_7 bw_578 1 rfl (by decide +kernel) ⟨by decide, by decide⟩ [0] [1] [1, 0] rfl rfl (by decide) (fun _ => rfl) hl.1 rfl (Nat.le_of_ble_eq_true rfl) dX6_jump_7 ⟨Nat.zero_le _, Nat.zero_le _⟩ (fun r_7 u_u H locs w_7 hP hD hS => ?_)
  have hP : va_P D cl_A [ob_J y 6 [.int 0, .int (nI hh), .int r0, .int r1, .int r2, .int r3, .ref mb, .int given, .int mrew, .int (nI sz), .ref mk, .ref mc, .ref ms, .ref md, .ref mf, .ref mst, .ref mth, .ref mdr, .ref mw, .ref msh, .ref mpo, .ref mpa, .ref mde, .ref mj], ar_I mw cI 808 fwt] H := hP
  have hD : va_D A [ob_J y 6 [.int 0, .int (nI hh), .int r0, .int r1, .int r2, .int r3, .ref mb, .int given, .int mrew, .int (nI sz), .ref mk, .ref mc, .ref ms, .ref md, .ref mf, .ref mst, .ref mth, .ref mdr, .ref mw, .ref msh, .ref mpo, .ref mpa, .ref mde, .ref mj], ar_I mw cI 808 fwt] := hD
  have w_7 : r_7 = if ¬ (0 ≤ f ∧ f ≤ nI hh) then 1 else 0 := w_7
  by_cases h_7 : ¬ (0 ≤ f ∧ f ≤ nI hh)
  · rw [if_pos h_7] at w_7; subst w_7
    refine lv_if_ne (tgt := 34) hx hb dX6_jump_10 (by decide) (fun _ => ?_) (fun h9 => absurd h9 (by decide))
    refine lv_iconst (v := (-1)) hx hb dX6_jump_34 (by decide) ?_
    refine lv_goto (tgt := 53) hx hb dX6_jump_35 (by decide) ?_
    exact re_I (w1 := fun u_u : Unit => [ob_J y 6 [.int 0, .int (nI hh), .int r0, .int r1, .int r2, .int r3, .ref mb, .int given, .int mrew, .int (nI sz), .ref mk, .ref mc, .ref ms, .ref md, .ref mf, .ref mst, .ref mth, .ref mdr, .ref mw, .ref msh, .ref mpo, .ref mpa, .ref mde, .ref mj], ar_I mw cI 808 fwt]) (v := (-1)) hx hb hr hlk hK hS rfl () hP hD (show (-1) = rr_jump hh sz fwt fal f t bits from by simp [rr_jump, up_P, ha_P, h_7]) dX6_jump_53
  · rw [if_neg h_7] at w_7; subst w_7
    have h_7 := Decidable.not_not.mp h_7
    obtain ⟨kf, h_kf, rfl⟩ : ∃ z : Nat, z < (hh + 1) ∧ f = nI z := ix_hs (by omega) h_7
    have t_kf := tn_nI (n := kf) (by omega)
    refine lv_if_ne (tgt := 34) hx hb dX6_jump_10 (by decide) (fun h9 => absurd (by decide) h9) (fun _ => ?_)
    refine lv_aload_n hx hb dX6_jump_13 rfl (lv_at hl 0 rfl) ?_
    refine lv_iload_n hx hb dX6_jump_14 rfl (lv_at hl 2 rfl) ?_
    refine ca_VI (rest := []) (wr := [ar_I mw cI 808 fwt]) (w2 := fun u_u => [ob_J y 6 [.int 0, .int (nI hh), .int r0, .int r1, .int r2, .int r3, .ref mb, .int given, .int mrew, .int (nI sz), .ref mk, .ref mc, .ref ms, .ref md, .ref mf, .ref mst, .ref mth, .ref mdr, .ref mw, .ref msh, .ref mpo, .ref mpa, .ref mde, .ref mj], ar_I mw cI 808 fwt]) (k_X6_noHeight l D cI cJ cZ y 0 hh r0 r1 r2 r3 mb given mrew sz mk mc ms md mf mst mth mdr mw msh mpo mpa mde mj t ) hx hb hml hown hts hN hK hA hP hD hS 6 0 rfl rfl bw_575 bw_577 bs_15 bw_7 bw_578 1 rfl (by decide +kernel) ⟨by decide, by decide⟩ [0] [1] [1, 0] rfl rfl (by decide) (fun _ => rfl) hl.1 rfl (Nat.le_of_ble_eq_true rfl) dX6_jump_15 ⟨Nat.zero_le _, Nat.zero_le _⟩ (fun r_15 u_u H locs w_15 hP hD hS => ?_)
    have hP : va_P D cl_A [ob_J y 6 [.int 0, .int (nI hh), .int r0, .int r1, .int r2, .int r3, .ref mb, .int given, .int mrew, .int (nI sz), .ref mk, .ref mc, .ref ms, .ref md, .ref mf, .ref mst, .ref mth, .ref mdr, .ref mw, .ref msh, .ref mpo, .ref mpa, .ref mde, .ref mj], ar_I mw cI 808 fwt] H := hP
    have hD : va_D A [ob_J y 6 [.int 0, .int (nI hh), .int r0, .int r1, .int r2, .int r3, .ref mb, .int given, .int mrew, .int (nI sz), .ref mk, .ref mc, .ref ms, .ref md, .ref mf, .ref mst, .ref mth, .ref mdr, .ref mw, .ref msh, .ref mpo, .ref mpa, .ref mde, .ref mj], ar_I mw cI 808 fwt] := hD
    have w_15 : r_15 = if ¬ (0 ≤ t ∧ t ≤ nI hh) then 1 else 0 := w_15
    by_cases h_15 : ¬ (0 ≤ t ∧ t ≤ nI hh)
    · rw [if_pos h_15] at w_15; subst w_15
      refine lv_if_ne (tgt := 34) hx hb dX6_jump_18 (by decide) (fun _ => ?_) (fun h9 => absurd h9 (by decide))
      refine lv_iconst (v := (-1)) hx hb dX6_jump_34 (by decide) ?_
      refine lv_goto (tgt := 53) hx hb dX6_jump_35 (by decide) ?_
      exact re_I (w1 := fun u_u : Unit => [ob_J y 6 [.int 0, .int (nI hh), .int r0, .int r1, .int r2, .int r3, .ref mb, .int given, .int mrew, .int (nI sz), .ref mk, .ref mc, .ref ms, .ref md, .ref mf, .ref mst, .ref mth, .ref mdr, .ref mw, .ref msh, .ref mpo, .ref mpa, .ref mde, .ref mj], ar_I mw cI 808 fwt]) (v := (-1)) hx hb hr hlk hK hS rfl () hP hD (show (-1) = rr_jump hh sz fwt fal (nI kf) t bits from by simp [rr_jump, up_P, ha_P, h_7, t_kf, h_15]) dX6_jump_53
    · rw [if_neg h_15] at w_15; subst w_15
      have h_15 := Decidable.not_not.mp h_15
      obtain ⟨kt, h_kt, rfl⟩ : ∃ z : Nat, z < (hh + 1) ∧ t = nI z := ix_hs (by omega) h_15
      have t_kt := tn_nI (n := kt) (by omega)
      refine lv_if_ne (tgt := 34) hx hb dX6_jump_18 (by decide) (fun h9 => absurd (by decide) h9) (fun _ => ?_)
      refine lv_iload_n hx hb dX6_jump_21 rfl (lv_at hl 1 rfl) ?_
      refine lv_iload_n hx hb dX6_jump_22 rfl (lv_at hl 2 rfl) ?_
      refine lv_icmp_ge (tgt := 34) hx hb dX6_jump_23 (by decide) (fun c_23 => ?_) (fun c_23 => ?_)
      · have c_23 := qq_ge (a := kf) (b := kt) c_23 (by omega) (by omega)
        have c_23 : ¬ nI kf < nI kt := nI_nlt c_23 (by omega)
        refine lv_iconst (v := (-1)) hx hb dX6_jump_34 (by decide) ?_
        refine lv_goto (tgt := 53) hx hb dX6_jump_35 (by decide) ?_
        exact re_I (w1 := fun u_u : Unit => [ob_J y 6 [.int 0, .int (nI hh), .int r0, .int r1, .int r2, .int r3, .ref mb, .int given, .int mrew, .int (nI sz), .ref mk, .ref mc, .ref ms, .ref md, .ref mf, .ref mst, .ref mth, .ref mdr, .ref mw, .ref msh, .ref mpo, .ref mpa, .ref mde, .ref mj], ar_I mw cI 808 fwt]) (v := (-1)) hx hb hr hlk hK hS rfl () hP hD (show (-1) = rr_jump hh sz fwt fal (nI kf) (nI kt) bits from by simp [rr_jump, up_P, ha_P, h_7, t_kf, h_15, t_kt, c_23]) dX6_jump_53
      · have c_23 := qq_nge (a := kf) (b := kt) c_23 (by omega) (by omega)
        have c_23 : nI kf < nI kt := nI_lt c_23 (by omega)
        refine lv_aload_n hx hb dX6_jump_26 rfl (lv_at hl 0 rfl) ?_
        refine lv_iload_n hx hb dX6_jump_27 rfl (lv_at hl 3 rfl) ?_
        refine ca_VI (rest := []) (wr := [ar_I mw cI 808 fwt]) (w2 := fun u_u => [ob_J y 6 [.int 0, .int (nI hh), .int r0, .int r1, .int r2, .int r3, .ref mb, .int given, .int mrew, .int (nI sz), .ref mk, .ref mc, .ref ms, .ref md, .ref mf, .ref mst, .ref mth, .ref mdr, .ref mw, .ref msh, .ref mpo, .ref mpa, .ref mde, .ref mj], ar_I mw cI 808 fwt]) (k_X6_noBits l D cI cJ cZ y 0 hh r0 r1 r2 r3 mb given mrew sz mk mc ms md mf mst mth mdr mw msh mpo mpa mde mj bits (by first | assumption | omega)) hx hb hml hown hts hN hK hA hP hD hS 6 0 rfl rfl bw_587 bw_589 bs_16 bw_7 bw_590 1 rfl (by decide +kernel) ⟨by decide, by decide⟩ [0] [1] [1, 0] rfl rfl (by decide) (fun _ => rfl) hl.1 rfl (Nat.le_of_ble_eq_true rfl) dX6_jump_28 ⟨Nat.zero_le _, Nat.zero_le _⟩ (fun r_28 u_u H locs w_28 hP hD hS => ?_)
        have hP : va_P D cl_A [ob_J y 6 [.int 0, .int (nI hh), .int r0, .int r1, .int r2, .int r3, .ref mb, .int given, .int mrew, .int (nI sz), .ref mk, .ref mc, .ref ms, .ref md, .ref mf, .ref mst, .ref mth, .ref mdr, .ref mw, .ref msh, .ref mpo, .ref mpa, .ref mde, .ref mj], ar_I mw cI 808 fwt] H := hP
        have hD : va_D A [ob_J y 6 [.int 0, .int (nI hh), .int r0, .int r1, .int r2, .int r3, .ref mb, .int given, .int mrew, .int (nI sz), .ref mk, .ref mc, .ref ms, .ref md, .ref mf, .ref mst, .ref mth, .ref mdr, .ref mw, .ref msh, .ref mpo, .ref mpa, .ref mde, .ref mj], ar_I mw cI 808 fwt] := hD
        have w_28 : r_28 = if ¬ (bits.toUInt32 >>> ((nI sz).toUInt32 &&& Int32.toUInt32 31)).toInt32 = 0 then 1 else 0 := w_28
        by_cases h_28 : ¬ (bits.toUInt32 >>> ((nI sz).toUInt32 &&& Int32.toUInt32 31)).toInt32 = 0
        · rw [if_pos h_28] at w_28; subst w_28
          refine lv_if_eq (tgt := 38) hx hb dX6_jump_31 (by decide) (fun h9 => absurd h9 (by decide)) (fun _ => ?_)
          refine lv_iconst (v := (-1)) hx hb dX6_jump_34 (by decide) ?_
          refine lv_goto (tgt := 53) hx hb dX6_jump_35 (by decide) ?_
          exact re_I (w1 := fun u_u : Unit => [ob_J y 6 [.int 0, .int (nI hh), .int r0, .int r1, .int r2, .int r3, .ref mb, .int given, .int mrew, .int (nI sz), .ref mk, .ref mc, .ref ms, .ref md, .ref mf, .ref mst, .ref mth, .ref mdr, .ref mw, .ref msh, .ref mpo, .ref mpa, .ref mde, .ref mj], ar_I mw cI 808 fwt]) (v := (-1)) hx hb hr hlk hK hS rfl () hP hD (show (-1) = rr_jump hh sz fwt fal (nI kf) (nI kt) bits from by simp [rr_jump, up_P, ha_P, h_7, t_kf, h_15, t_kt, c_23, h_28]) dX6_jump_53
        · rw [if_neg h_28] at w_28; subst w_28
          have h_28 := Decidable.not_not.mp h_28
          obtain ⟨ib, h_ib, rfl⟩ : ∃ z : Nat, z < 256 ∧ bits = nI z := ix_ha hsz h_28
          have t_ib := tn_nI (n := ib) (by omega)
          refine lv_if_eq (tgt := 38) hx hb dX6_jump_31 (by decide) (fun _ => ?_) (fun h9 => absurd (by decide) h9)
          refine lv_aload_n hx hb dX6_jump_38 rfl (lv_at hl 0 rfl) ?_
          refine lv_iload_n hx hb dX6_jump_39 rfl (lv_at hl 1 rfl) ?_
          refine lv_iload_n hx hb dX6_jump_40 rfl (lv_at hl 2 rfl) ?_
          refine lv_iload_n hx hb dX6_jump_41 rfl (lv_at hl 3 rfl) ?_
          refine ca_VI (rest := []) (wr := []) (w2 := fun u_u => [ob_J y 6 [.int 0, .int (nI hh), .int r0, .int r1, .int r2, .int r3, .ref mb, .int given, .int mrew, .int (nI sz), .ref mk, .ref mc, .ref ms, .ref md, .ref mf, .ref mst, .ref mth, .ref mdr, .ref mw, .ref msh, .ref mpo, .ref mpa, .ref mde, .ref mj], ar_I mw cI 808 fwt]) (k_X6_may l D cI cJ cZ y mw 0 hh r0 r1 r2 r3 mb given mrew sz mk mc ms md mf mst mth mdr msh mpo mpa mde mj fwt kf kt ib fal (by first | assumption | omega) (by first | assumption | omega) (by first | assumption | omega) (by first | assumption | omega) (by first | assumption | omega)) hx hb hml hown hts hN hK hA hP hD hS 6 0 rfl rfl bw_605 bw_607 bs_19 bw_7 bw_608 3 rfl (by decide +kernel) ⟨by decide, by decide⟩ [0, 1] [] [0, 1] rfl rfl (by decide) (fun _ => rfl) hl.1 rfl (Nat.le_of_ble_eq_true rfl) dX6_jump_42 ⟨Nat.zero_le _, Nat.zero_le _⟩ (fun r_42 u_u H locs w_42 hP hD hS => ?_)
          have hP : va_P D cl_A [ob_J y 6 [.int 0, .int (nI hh), .int r0, .int r1, .int r2, .int r3, .ref mb, .int given, .int mrew, .int (nI sz), .ref mk, .ref mc, .ref ms, .ref md, .ref mf, .ref mst, .ref mth, .ref mdr, .ref mw, .ref msh, .ref mpo, .ref mpa, .ref mde, .ref mj], ar_I mw cI 808 fwt] H := hP
          have hD : va_D A [ob_J y 6 [.int 0, .int (nI hh), .int r0, .int r1, .int r2, .int r3, .ref mb, .int given, .int mrew, .int (nI sz), .ref mk, .ref mc, .ref ms, .ref md, .ref mf, .ref mst, .ref mth, .ref mdr, .ref mw, .ref msh, .ref mpo, .ref mpa, .ref mde, .ref mj], ar_I mw cI 808 fwt] := hD
          have w_42 : r_42 = if 2 * fal kt < 3 * wo_ fwt kt ib 8 ∧ fal kf < 3 * wo_ fwt kf ib 8 then 1 else 0 := w_42
          by_cases h_42 : 2 * fal kt < 3 * wo_ fwt kt ib 8 ∧ fal kf < 3 * wo_ fwt kf ib 8
          · rw [if_pos h_42] at w_42; subst w_42
            refine lv_if_eq (tgt := 52) hx hb dX6_jump_45 (by decide) (fun h9 => absurd h9 (by decide)) (fun _ => ?_)
            refine lv_iconst (v := 1) hx hb dX6_jump_48 (by decide) ?_
            refine lv_goto (tgt := 53) hx hb dX6_jump_49 (by decide) ?_
            exact re_I (w1 := fun u_u : Unit => [ob_J y 6 [.int 0, .int (nI hh), .int r0, .int r1, .int r2, .int r3, .ref mb, .int given, .int mrew, .int (nI sz), .ref mk, .ref mc, .ref ms, .ref md, .ref mf, .ref mst, .ref mth, .ref mdr, .ref mw, .ref msh, .ref mpo, .ref mpa, .ref mde, .ref mj], ar_I mw cI 808 fwt]) (v := 1) hx hb hr hlk hK hS rfl () hP hD (show 1 = rr_jump hh sz fwt fal (nI kf) (nI kt) (nI ib) from by simp [rr_jump, up_P, ha_P, h_7, t_kf, h_15, t_kt, c_23, h_28, t_ib, h_42]) dX6_jump_53
          · rw [if_neg h_42] at w_42; subst w_42
            refine lv_if_eq (tgt := 52) hx hb dX6_jump_45 (by decide) (fun _ => ?_) (fun h9 => absurd (by decide) h9)
            refine lv_iconst (v := 0) hx hb dX6_jump_52 (by decide) ?_
            exact re_I (w1 := fun u_u : Unit => [ob_J y 6 [.int 0, .int (nI hh), .int r0, .int r1, .int r2, .int r3, .ref mb, .int given, .int mrew, .int (nI sz), .ref mk, .ref mc, .ref ms, .ref md, .ref mf, .ref mst, .ref mth, .ref mdr, .ref mw, .ref msh, .ref mpo, .ref mpa, .ref mde, .ref mj], ar_I mw cI 808 fwt]) (v := 0) hx hb hr hlk hK hS rfl () hP hD (show 0 = rr_jump hh sz fwt fal (nI kf) (nI kt) (nI ib) from by simp [rr_jump, up_P, ha_P, h_7, t_kf, h_15, t_kt, c_23, h_28, t_ib, h_42]) dX6_jump_53

set_option maxHeartbeats 4000000 in
set_option maxRecDepth 100000 in
theorem k_X6_overlap (l : Launch) (D : va_G) (cI cJ cZ : ClassId) (y : Nat) (mw : Nat) (th : Int32) (hh : Nat) (r0 : Int32) (r1 : Int32) (r2 : Int32) (r3 : Int32) (mb : Nat) (given : Int32) (mrew : Int32) (sz : Nat) (mk : Nat) (mc : Nat) (ms : Nat) (md : Nat) (mf : Nat) (mst : Nat) (mth : Nat) (mdr : Nat) (msh : Nat) (mpo : Nat) (mpa : Nat) (mde : Nat) (mj : Nat) (fwt : Nat → Int32) (a : Int32) (b : Int32) (hhh : hh ≤ 100) : mt_I l yX6_overlap cX6_overlap 7 .int 2 46 D cI cJ cZ [ob_J y 6 [.int th, .int (nI hh), .int r0, .int r1, .int r2, .int r3, .ref mb, .int given, .int mrew, .int (nI sz), .ref mk, .ref mc, .ref ms, .ref md, .ref mf, .ref mst, .ref mth, .ref mdr, .ref mw, .ref msh, .ref mpo, .ref mpa, .ref mde, .ref mj], ar_I mw cI 808 fwt] [.ref y, .int a, .int b] (fun r (u_u : Unit) => r = rr_overlap hh fwt a b) (fun u_u : Unit => [ob_J y 6 [.int 0, .int (nI hh), .int r0, .int r1, .int r2, .int r3, .ref mb, .int given, .int mrew, .int (nI sz), .ref mk, .ref mc, .ref ms, .ref md, .ref mf, .ref mst, .ref mth, .ref mdr, .ref mw, .ref msh, .ref mpo, .ref mpa, .ref mde, .ref mj], ar_I mw cI 808 fwt]) := by
  refine en_I (by decide) (Nat.le_of_ble_eq_true rfl) ?_
  intro p e s m below meth c A ls H locs hx hb hr hml hts hown hlk hN hK hA hP hD hS hl
  have hown : s.vm.findClass RX6 = some m.cls := hown
  have hl : lv_has ls 7 [(0, .ref y), (1, .int a), (2, .int b)] := hl
  refine lv_aload_n hx hb dX6_overlap_0 rfl (lv_at hl 0 rfl) ?_
  refine lv_iconst (v := 0) hx hb dX6_overlap_1 (by decide) ?_
  refine va_put (ci := 6) (v := .int 0) (ty := .int) (C := RX6) (T := TX6) (N := 24) hx hb hts bi_6 tyX6 tyX6_ok nmX6 hown hK hP hD hS 0 rfl rfl 0 (by decide) (hts _ bw_405) (fun _ h9 => h9) rfl (by decide +kernel) rfl rfl (Nat.le_of_ble_eq_true rfl) dX6_overlap_2 (fun H locs hP hD hS => ?_)
  have hP : va_P D cl_A [ob_J y 6 [.int 0, .int (nI hh), .int r0, .int r1, .int r2, .int r3, .ref mb, .int given, .int mrew, .int (nI sz), .ref mk, .ref mc, .ref ms, .ref md, .ref mf, .ref mst, .ref mth, .ref mdr, .ref mw, .ref msh, .ref mpo, .ref mpa, .ref mde, .ref mj], ar_I mw cI 808 fwt] H := hP
  have hD : va_D A [ob_J y 6 [.int 0, .int (nI hh), .int r0, .int r1, .int r2, .int r3, .ref mb, .int given, .int mrew, .int (nI sz), .ref mk, .ref mc, .ref ms, .ref md, .ref mf, .ref mst, .ref mth, .ref mdr, .ref mw, .ref msh, .ref mpo, .ref mpa, .ref mde, .ref mj], ar_I mw cI 808 fwt] := hD
  refine lv_aload_n hx hb dX6_overlap_5 rfl (lv_at hl 0 rfl) ?_
  refine lv_iload_n hx hb dX6_overlap_6 rfl (lv_at hl 1 rfl) ?_
  refine ca_VI (rest := []) (wr := [ar_I mw cI 808 fwt]) (w2 := fun u_u => [ob_J y 6 [.int 0, .int (nI hh), .int r0, .int r1, .int r2, .int r3, .ref mb, .int given, .int mrew, .int (nI sz), .ref mk, .ref mc, .ref ms, .ref md, .ref mf, .ref mst, .ref mth, .ref mdr, .ref mw, .ref msh, .ref mpo, .ref mpa, .ref mde, .ref mj], ar_I mw cI 808 fwt]) (k_X6_noHeight l D cI cJ cZ y 0 hh r0 r1 r2 r3 mb given mrew sz mk mc ms md mf mst mth mdr mw msh mpo mpa mde mj a ) hx hb hml hown hts hN hK hA hP hD hS 6 0 rfl rfl bw_575 bw_577 bs_15 bw_7 bw_578 1 rfl (by decide +kernel) ⟨by decide, by decide⟩ [0] [1] [1, 0] rfl rfl (by decide) (fun _ => rfl) hl.1 rfl (Nat.le_of_ble_eq_true rfl) dX6_overlap_7 ⟨Nat.zero_le _, Nat.zero_le _⟩ (fun r_7 u_u H locs w_7 hP hD hS => ?_)
  have hP : va_P D cl_A [ob_J y 6 [.int 0, .int (nI hh), .int r0, .int r1, .int r2, .int r3, .ref mb, .int given, .int mrew, .int (nI sz), .ref mk, .ref mc, .ref ms, .ref md, .ref mf, .ref mst, .ref mth, .ref mdr, .ref mw, .ref msh, .ref mpo, .ref mpa, .ref mde, .ref mj], ar_I mw cI 808 fwt] H := hP
  have hD : va_D A [ob_J y 6 [.int 0, .int (nI hh), .int r0, .int r1, .int r2, .int r3, .ref mb, .int given, .int mrew, .int (nI sz), .ref mk, .ref mc, .ref ms, .ref md, .ref mf, .ref mst, .ref mth, .ref mdr, .ref mw, .ref msh, .ref mpo, .ref mpa, .ref mde, .ref mj], ar_I mw cI 808 fwt] := hD
  have w_7 : r_7 = if ¬ (0 ≤ a ∧ a ≤ nI hh) then 1 else 0 := w_7
  by_cases h_7 : ¬ (0 ≤ a ∧ a ≤ nI hh)
  · rw [if_pos h_7] at w_7; subst w_7
    refine lv_if_ne (tgt := 21) hx hb dX6_overlap_10 (by decide) (fun _ => ?_) (fun h9 => absurd h9 (by decide))
    refine lv_iconst (v := (-1)) hx hb dX6_overlap_21 (by decide) ?_
    exact re_I (w1 := fun u_u : Unit => [ob_J y 6 [.int 0, .int (nI hh), .int r0, .int r1, .int r2, .int r3, .ref mb, .int given, .int mrew, .int (nI sz), .ref mk, .ref mc, .ref ms, .ref md, .ref mf, .ref mst, .ref mth, .ref mdr, .ref mw, .ref msh, .ref mpo, .ref mpa, .ref mde, .ref mj], ar_I mw cI 808 fwt]) (v := (-1)) hx hb hr hlk hK hS rfl () hP hD (show (-1) = rr_overlap hh fwt a b from by simp [rr_overlap, hs_P, h_7]) dX6_overlap_22
  · rw [if_neg h_7] at w_7; subst w_7
    have h_7 := Decidable.not_not.mp h_7
    obtain ⟨ka, h_ka, rfl⟩ : ∃ z : Nat, z < (hh + 1) ∧ a = nI z := ix_hs (by omega) h_7
    have t_ka := tn_nI (n := ka) (by omega)
    refine lv_if_ne (tgt := 21) hx hb dX6_overlap_10 (by decide) (fun h9 => absurd (by decide) h9) (fun _ => ?_)
    refine lv_aload_n hx hb dX6_overlap_13 rfl (lv_at hl 0 rfl) ?_
    refine lv_iload_n hx hb dX6_overlap_14 rfl (lv_at hl 2 rfl) ?_
    refine ca_VI (rest := []) (wr := [ar_I mw cI 808 fwt]) (w2 := fun u_u => [ob_J y 6 [.int 0, .int (nI hh), .int r0, .int r1, .int r2, .int r3, .ref mb, .int given, .int mrew, .int (nI sz), .ref mk, .ref mc, .ref ms, .ref md, .ref mf, .ref mst, .ref mth, .ref mdr, .ref mw, .ref msh, .ref mpo, .ref mpa, .ref mde, .ref mj], ar_I mw cI 808 fwt]) (k_X6_noHeight l D cI cJ cZ y 0 hh r0 r1 r2 r3 mb given mrew sz mk mc ms md mf mst mth mdr mw msh mpo mpa mde mj b ) hx hb hml hown hts hN hK hA hP hD hS 6 0 rfl rfl bw_575 bw_577 bs_15 bw_7 bw_578 1 rfl (by decide +kernel) ⟨by decide, by decide⟩ [0] [1] [1, 0] rfl rfl (by decide) (fun _ => rfl) hl.1 rfl (Nat.le_of_ble_eq_true rfl) dX6_overlap_15 ⟨Nat.zero_le _, Nat.zero_le _⟩ (fun r_15 u_u H locs w_15 hP hD hS => ?_)
    have hP : va_P D cl_A [ob_J y 6 [.int 0, .int (nI hh), .int r0, .int r1, .int r2, .int r3, .ref mb, .int given, .int mrew, .int (nI sz), .ref mk, .ref mc, .ref ms, .ref md, .ref mf, .ref mst, .ref mth, .ref mdr, .ref mw, .ref msh, .ref mpo, .ref mpa, .ref mde, .ref mj], ar_I mw cI 808 fwt] H := hP
    have hD : va_D A [ob_J y 6 [.int 0, .int (nI hh), .int r0, .int r1, .int r2, .int r3, .ref mb, .int given, .int mrew, .int (nI sz), .ref mk, .ref mc, .ref ms, .ref md, .ref mf, .ref mst, .ref mth, .ref mdr, .ref mw, .ref msh, .ref mpo, .ref mpa, .ref mde, .ref mj], ar_I mw cI 808 fwt] := hD
    have w_15 : r_15 = if ¬ (0 ≤ b ∧ b ≤ nI hh) then 1 else 0 := w_15
    by_cases h_15 : ¬ (0 ≤ b ∧ b ≤ nI hh)
    · rw [if_pos h_15] at w_15; subst w_15
      refine lv_if_eq (tgt := 23) hx hb dX6_overlap_18 (by decide) (fun h9 => absurd h9 (by decide)) (fun _ => ?_)
      refine lv_iconst (v := (-1)) hx hb dX6_overlap_21 (by decide) ?_
      exact re_I (w1 := fun u_u : Unit => [ob_J y 6 [.int 0, .int (nI hh), .int r0, .int r1, .int r2, .int r3, .ref mb, .int given, .int mrew, .int (nI sz), .ref mk, .ref mc, .ref ms, .ref md, .ref mf, .ref mst, .ref mth, .ref mdr, .ref mw, .ref msh, .ref mpo, .ref mpa, .ref mde, .ref mj], ar_I mw cI 808 fwt]) (v := (-1)) hx hb hr hlk hK hS rfl () hP hD (show (-1) = rr_overlap hh fwt (nI ka) b from by simp [rr_overlap, hs_P, h_7, t_ka, h_15]) dX6_overlap_22
    · rw [if_neg h_15] at w_15; subst w_15
      have h_15 := Decidable.not_not.mp h_15
      obtain ⟨kb, h_kb, rfl⟩ : ∃ z : Nat, z < (hh + 1) ∧ b = nI z := ix_hs (by omega) h_15
      have t_kb := tn_nI (n := kb) (by omega)
      refine lv_if_eq (tgt := 23) hx hb dX6_overlap_18 (by decide) (fun _ => ?_) (fun h9 => absurd (by decide) h9)
      refine lv_iconst (v := 0) hx hb dX6_overlap_23 (by decide) ?_
      refine lv_istore_n (lv' := [(3, .int 0), (0, .ref y), (1, .int (nI ka)), (2, .int (nI kb))]) hx hb dX6_overlap_24 rfl hl (by decide) rfl (fun ls hl => ?_)
      refine lv_iconst (v := 0) hx hb dX6_overlap_25 (by decide) ?_
      refine lv_istore (lv' := [(4, .int 0), (3, .int 0), (0, .ref y), (1, .int (nI ka)), (2, .int (nI kb))]) hx hb dX6_overlap_26 hl (by decide) rfl (fun ls hl => ?_)
      have hl := lv_sub (l' := [(0, .ref y), (1, .int (nI ka)), (2, .int (nI kb)), (3, .int 0), (4, .int 0)]) hl [2, 3, 4, 1, 0] rfl
      have q_1 : 0 = (sI_ (fun n => if fwt (kb * 8 + n) < fwt (ka * 8 + n) then fwt (kb * 8 + n) else fwt (ka * 8 + n)) 0) := rfl
      have hl := cs_L (fun z_z => [(0, .ref y), (1, .int (nI ka)), (2, .int (nI kb)), (3, .int z_z), (4, .int 0)]) q_1 hl
      have q_2 : 0 = (nI 0) := rfl
      have hl := cs_L (fun z_z => [(0, .ref y), (1, .int (nI ka)), (2, .int (nI kb)), (3, .int (sI_ (fun n => if fwt (kb * 8 + n) < fwt (ka * 8 + n) then fwt (kb * 8 + n) else fwt (ka * 8 + n)) 0)), (4, .int z_z)]) q_2 hl
      have hl : lv_has ls 7 [(0, .ref y), (1, .int (nI ka)), (2, .int (nI kb)), (3, .int (sI_ (fun n => if fwt (kb * 8 + n) < fwt (ka * 8 + n) then fwt (kb * 8 + n) else fwt (ka * 8 + n)) 0)), (4, .int (nI 0))] := hl
      refine lp_g (σ := Nat) (fun i => 8 - i) (fun i => [ob_J y 6 [.int 0, .int (nI hh), .int r0, .int r1, .int r2, .int r3, .ref mb, .int given, .int mrew, .int (nI sz), .ref mk, .ref mc, .ref ms, .ref md, .ref mf, .ref mst, .ref mth, .ref mdr, .ref mw, .ref msh, .ref mpo, .ref mpa, .ref mde, .ref mj], ar_I mw cI 808 fwt]) (fun i => [(0, .ref y), (1, .int (nI ka)), (2, .int (nI kb)), (3, .int (sI_ (fun n => if fwt (kb * 8 + n) < fwt (ka * 8 + n) then fwt (kb * 8 + n) else fwt (ka * 8 + n)) i)), (4, .int (nI i))]) (fun i => (i ≤ 8)) ?_ 0 (show (0 ≤ 8) from by omega) hP hD hS hl
      intro i H locs ls hF hP hD hS hl ih_28
      have hF : (i ≤ 8) := hF
      have hi := hF
      have hP : va_P D cl_A [ob_J y 6 [.int 0, .int (nI hh), .int r0, .int r1, .int r2, .int r3, .ref mb, .int given, .int mrew, .int (nI sz), .ref mk, .ref mc, .ref ms, .ref md, .ref mf, .ref mst, .ref mth, .ref mdr, .ref mw, .ref msh, .ref mpo, .ref mpa, .ref mde, .ref mj], ar_I mw cI 808 fwt] H := hP
      have hD : va_D A [ob_J y 6 [.int 0, .int (nI hh), .int r0, .int r1, .int r2, .int r3, .ref mb, .int given, .int mrew, .int (nI sz), .ref mk, .ref mc, .ref ms, .ref md, .ref mf, .ref mst, .ref mth, .ref mdr, .ref mw, .ref msh, .ref mpo, .ref mpa, .ref mde, .ref mj], ar_I mw cI 808 fwt] := hD
      have hl : lv_has ls 7 [(0, .ref y), (1, .int (nI ka)), (2, .int (nI kb)), (3, .int (sI_ (fun n => if fwt (kb * 8 + n) < fwt (ka * 8 + n) then fwt (kb * 8 + n) else fwt (ka * 8 + n)) i)), (4, .int (nI i))] := hl
      refine lv_iload hx hb dX6_overlap_28 (lv_at hl 4 rfl) ?_
      refine lv_bipush (v := 8) hx hb dX6_overlap_30 (by decide) ?_
      refine lv_icmp_ge (tgt := 86) hx hb dX6_overlap_32 (by decide) (fun c_32 => ?_) (fun c_32 => ?_)
      · have c_32 := qq_ge (a := i) (b := 8) c_32 (by omega) (by omega)
        refine lv_iload_n hx hb dX6_overlap_86 rfl (lv_at hl 3 rfl) ?_
        exact re_I (w1 := fun u_u : Unit => [ob_J y 6 [.int 0, .int (nI hh), .int r0, .int r1, .int r2, .int r3, .ref mb, .int given, .int mrew, .int (nI sz), .ref mk, .ref mc, .ref ms, .ref md, .ref mf, .ref mst, .ref mth, .ref mdr, .ref mw, .ref msh, .ref mpo, .ref mpa, .ref mde, .ref mj], ar_I mw cI 808 fwt]) (v := sI_ (fun n => if fwt (kb * 8 + n) < fwt (ka * 8 + n) then fwt (kb * 8 + n) else fwt (ka * 8 + n)) i) hx hb hr hlk hK hS rfl () hP hD (show (sI_ (fun n => if fwt (kb * 8 + n) < fwt (ka * 8 + n) then fwt (kb * 8 + n) else fwt (ka * 8 + n)) i) = rr_overlap hh fwt (nI ka) (nI kb) from by rw [show i = 8 by omega]; simp [rr_overlap, hs_P, h_7, h_15, t_ka, t_kb]) dX6_overlap_87
      · have c_32 := qq_nge (a := i) (b := 8) c_32 (by omega) (by omega)
        refine lv_aload_n hx hb dX6_overlap_35 rfl (lv_at hl 0 rfl) ?_
        refine va_get (ci := 6) (v := .ref mw) (C := RX6) (T := TX6) (N := 24) hx hb hts bi_6 hown hK hP 0 rfl rfl 18 (by decide) (hts _ bw_423) (fun _ h9 => h9) rfl dX6_overlap_36 ?_
        refine lv_bipush (v := 8) hx hb dX6_overlap_39 (by decide) ?_
        refine lv_iload_n hx hb dX6_overlap_41 rfl (lv_at hl 1 rfl) ?_
        refine lv_imul hx hb dX6_overlap_42 ?_
        refine tp_i (x' := nI (ka * 8)) (nn_mulc rfl rfl) ?_
        refine lv_iload hx hb dX6_overlap_43 (lv_at hl 4 rfl) ?_
        refine lv_iadd hx hb dX6_overlap_45 ?_
        refine tp_i (x' := nI ((ka * 8) + i)) (nn_add rfl rfl) ?_
        refine ar_ld hx hb hK hP 1 (k := (ka * 8) + i) rfl rfl (by omega) (by decide) dX6_overlap_46 ?_
        refine lv_istore (lv' := [(5, .int (fwt ((ka * 8) + i))), (0, .ref y), (1, .int (nI ka)), (2, .int (nI kb)), (3, .int (sI_ (fun n => if fwt (kb * 8 + n) < fwt (ka * 8 + n) then fwt (kb * 8 + n) else fwt (ka * 8 + n)) i)), (4, .int (nI i))]) hx hb dX6_overlap_47 hl (by decide) rfl (fun ls hl => ?_)
        refine lv_aload_n hx hb dX6_overlap_49 rfl (lv_at hl 1 rfl) ?_
        refine va_get (ci := 6) (v := .ref mw) (C := RX6) (T := TX6) (N := 24) hx hb hts bi_6 hown hK hP 0 rfl rfl 18 (by decide) (hts _ bw_423) (fun _ h9 => h9) rfl dX6_overlap_50 ?_
        refine lv_bipush (v := 8) hx hb dX6_overlap_53 (by decide) ?_
        refine lv_iload_n hx hb dX6_overlap_55 rfl (lv_at hl 3 rfl) ?_
        refine lv_imul hx hb dX6_overlap_56 ?_
        refine tp_i (x' := nI (kb * 8)) (nn_mulc rfl rfl) ?_
        refine lv_iload hx hb dX6_overlap_57 (lv_at hl 5 rfl) ?_
        refine lv_iadd hx hb dX6_overlap_59 ?_
        refine tp_i (x' := nI ((kb * 8) + i)) (nn_add rfl rfl) ?_
        refine ar_ld hx hb hK hP 1 (k := (kb * 8) + i) rfl rfl (by omega) (by decide) dX6_overlap_60 ?_
        refine lv_istore (lv' := [(6, .int (fwt ((kb * 8) + i))), (5, .int (fwt ((ka * 8) + i))), (0, .ref y), (1, .int (nI ka)), (2, .int (nI kb)), (3, .int (sI_ (fun n => if fwt (kb * 8 + n) < fwt (ka * 8 + n) then fwt (kb * 8 + n) else fwt (ka * 8 + n)) i)), (4, .int (nI i))]) hx hb dX6_overlap_61 hl (by decide) rfl (fun ls hl => ?_)
        refine lv_iload_n hx hb dX6_overlap_63 rfl (lv_at hl 5 rfl) ?_
        refine lv_iload hx hb dX6_overlap_64 (lv_at hl 1 rfl) ?_
        refine lv_iload hx hb dX6_overlap_66 (lv_at hl 0 rfl) ?_
        refine lv_icmp_ge (tgt := 76) hx hb dX6_overlap_68 (by decide) (fun c_68 => ?_) (fun c_68 => ?_)
        · refine lv_iload hx hb dX6_overlap_76 (lv_at hl 0 rfl) ?_
          refine lv_iadd hx hb dX6_overlap_78 ?_
          refine lv_istore_n (lv' := [(3, .int ((sI_ (fun n => if fwt (kb * 8 + n) < fwt (ka * 8 + n) then fwt (kb * 8 + n) else fwt (ka * 8 + n)) i) + (fwt ((kb * 8) + i)))), (6, .int (fwt ((kb * 8) + i))), (5, .int (fwt ((ka * 8) + i))), (0, .ref y), (1, .int (nI ka)), (2, .int (nI kb)), (4, .int (nI i))]) hx hb dX6_overlap_79 rfl hl (by decide) rfl (fun ls hl => ?_)
          refine lv_iinc (v := nI (i + 1)) (lv' := [(4, .int (nI (i + 1))), (3, .int ((sI_ (fun n => if fwt (kb * 8 + n) < fwt (ka * 8 + n) then fwt (kb * 8 + n) else fwt (ka * 8 + n)) i) + (fwt ((kb * 8) + i)))), (6, .int (fwt ((kb * 8) + i))), (5, .int (fwt ((ka * 8) + i))), (0, .ref y), (1, .int (nI ka)), (2, .int (nI kb))]) hx hb dX6_overlap_80 hl (k := 6) rfl (nI_1 _) (by decide) rfl (fun ls hl => ?_)
          refine lv_goto (tgt := 28) hx hb dX6_overlap_83 (by decide) ?_
          have hl := lv_sub (l' := [(0, .ref y), (1, .int (nI ka)), (2, .int (nI kb)), (3, .int ((sI_ (fun n => if fwt (kb * 8 + n) < fwt (ka * 8 + n) then fwt (kb * 8 + n) else fwt (ka * 8 + n)) i) + (fwt ((kb * 8) + i)))), (4, .int (nI (i + 1)))]) hl [4, 5, 6, 1, 0] rfl
          have q_3 : ((sI_ (fun n => if fwt (kb * 8 + n) < fwt (ka * 8 + n) then fwt (kb * 8 + n) else fwt (ka * 8 + n)) i) + (fwt ((kb * 8) + i))) = (sI_ (fun n => if fwt (kb * 8 + n) < fwt (ka * 8 + n) then fwt (kb * 8 + n) else fwt (ka * 8 + n)) (i + 1)) := by rw [← sI_s]; exact congrArg _ (((if_neg (Int32.not_lt.mpr c_68)).symm).trans (mn_e _ _))
          have hl := cs_L (fun z_z => [(0, .ref y), (1, .int (nI ka)), (2, .int (nI kb)), (3, .int z_z), (4, .int (nI (i + 1)))]) q_3 hl
          have hl : lv_has ls 7 [(0, .ref y), (1, .int (nI ka)), (2, .int (nI kb)), (3, .int (sI_ (fun n => if fwt (kb * 8 + n) < fwt (ka * 8 + n) then fwt (kb * 8 + n) else fwt (ka * 8 + n)) (i + 1))), (4, .int (nI (i + 1)))] := hl
          exact ih_28 (i + 1) (show 8 - (i + 1) < 8 - i from by omega) (show ((i + 1) ≤ 8) from by omega) H locs ls hP hD hS hl
        · refine lv_iload hx hb dX6_overlap_71 (lv_at hl 1 rfl) ?_
          refine lv_goto (tgt := 78) hx hb dX6_overlap_73 (by decide) ?_
          refine lv_iadd hx hb dX6_overlap_78 ?_
          refine lv_istore_n (lv' := [(3, .int ((sI_ (fun n => if fwt (kb * 8 + n) < fwt (ka * 8 + n) then fwt (kb * 8 + n) else fwt (ka * 8 + n)) i) + (fwt ((ka * 8) + i)))), (6, .int (fwt ((kb * 8) + i))), (5, .int (fwt ((ka * 8) + i))), (0, .ref y), (1, .int (nI ka)), (2, .int (nI kb)), (4, .int (nI i))]) hx hb dX6_overlap_79 rfl hl (by decide) rfl (fun ls hl => ?_)
          refine lv_iinc (v := nI (i + 1)) (lv' := [(4, .int (nI (i + 1))), (3, .int ((sI_ (fun n => if fwt (kb * 8 + n) < fwt (ka * 8 + n) then fwt (kb * 8 + n) else fwt (ka * 8 + n)) i) + (fwt ((ka * 8) + i)))), (6, .int (fwt ((kb * 8) + i))), (5, .int (fwt ((ka * 8) + i))), (0, .ref y), (1, .int (nI ka)), (2, .int (nI kb))]) hx hb dX6_overlap_80 hl (k := 6) rfl (nI_1 _) (by decide) rfl (fun ls hl => ?_)
          refine lv_goto (tgt := 28) hx hb dX6_overlap_83 (by decide) ?_
          have hl := lv_sub (l' := [(0, .ref y), (1, .int (nI ka)), (2, .int (nI kb)), (3, .int ((sI_ (fun n => if fwt (kb * 8 + n) < fwt (ka * 8 + n) then fwt (kb * 8 + n) else fwt (ka * 8 + n)) i) + (fwt ((ka * 8) + i)))), (4, .int (nI (i + 1)))]) hl [4, 5, 6, 1, 0] rfl
          have q_4 : ((sI_ (fun n => if fwt (kb * 8 + n) < fwt (ka * 8 + n) then fwt (kb * 8 + n) else fwt (ka * 8 + n)) i) + (fwt ((ka * 8) + i))) = (sI_ (fun n => if fwt (kb * 8 + n) < fwt (ka * 8 + n) then fwt (kb * 8 + n) else fwt (ka * 8 + n)) (i + 1)) := by rw [← sI_s]; exact congrArg _ (((if_pos (Int32.not_le.mp c_68)).symm).trans (mn_e _ _))
          have hl := cs_L (fun z_z => [(0, .ref y), (1, .int (nI ka)), (2, .int (nI kb)), (3, .int z_z), (4, .int (nI (i + 1)))]) q_4 hl
          have hl : lv_has ls 7 [(0, .ref y), (1, .int (nI ka)), (2, .int (nI kb)), (3, .int (sI_ (fun n => if fwt (kb * 8 + n) < fwt (ka * 8 + n) then fwt (kb * 8 + n) else fwt (ka * 8 + n)) (i + 1))), (4, .int (nI (i + 1)))] := hl
          exact ih_28 (i + 1) (show 8 - (i + 1) < 8 - i from by omega) (show ((i + 1) ≤ 8) from by omega) H locs ls hP hD hS hl

set_option maxHeartbeats 4000000 in
set_option maxRecDepth 100000 in
theorem k_X6_present (l : Launch) (D : va_G) (cI cJ cZ : ClassId) (y : Nat) (mw : Nat) (th : Int32) (hh : Nat) (r0 : Int32) (r1 : Int32) (r2 : Int32) (r3 : Int32) (mb : Nat) (given : Int32) (mrew : Int32) (sz : Nat) (mk : Nat) (mc : Nat) (ms : Nat) (md : Nat) (mf : Nat) (mst : Nat) (mth : Nat) (mdr : Nat) (msh : Nat) (mpo : Nat) (mpa : Nat) (mde : Nat) (mj : Nat) (fwt : Nat → Int32) (kh : Nat) (hh_ : kh ≤ 100) (hV : IV_ fwt) : mt_I l yX6_present cX6_present 4 .int 0 0 D cI cJ cZ [ob_J y 6 [.int th, .int (nI hh), .int r0, .int r1, .int r2, .int r3, .ref mb, .int given, .int mrew, .int (nI sz), .ref mk, .ref mc, .ref ms, .ref md, .ref mf, .ref mst, .ref mth, .ref mdr, .ref mw, .ref msh, .ref mpo, .ref mpa, .ref mde, .ref mj], ar_I mw cI 808 fwt] [.ref y, .int (nI kh)] (fun r (u_u : Unit) => r = nI (pb_ (fun n => tn_X (fwt (kh * 8 + n))) 8)) (fun u_u : Unit => [ob_J y 6 [.int th, .int (nI hh), .int r0, .int r1, .int r2, .int r3, .ref mb, .int given, .int mrew, .int (nI sz), .ref mk, .ref mc, .ref ms, .ref md, .ref mf, .ref mst, .ref mth, .ref mdr, .ref mw, .ref msh, .ref mpo, .ref mpa, .ref mde, .ref mj], ar_I mw cI 808 fwt]) := by
  refine en_I (by decide) (Nat.le_of_ble_eq_true rfl) ?_
  intro p e s m below meth c A ls H locs hx hb hr hml hts hown hlk hN hK hA hP hD hS hl
  have hown : s.vm.findClass RX6 = some m.cls := hown
  have hl : lv_has ls 4 [(0, .ref y), (1, .int (nI kh))] := hl
  refine lv_iconst (v := 0) hx hb dX6_present_0 (by decide) ?_
  refine lv_istore_n (lv' := [(2, .int 0), (0, .ref y), (1, .int (nI kh))]) hx hb dX6_present_1 rfl hl (by decide) rfl (fun ls hl => ?_)
  refine lv_iconst (v := 0) hx hb dX6_present_2 (by decide) ?_
  refine lv_istore_n (lv' := [(3, .int 0), (2, .int 0), (0, .ref y), (1, .int (nI kh))]) hx hb dX6_present_3 rfl hl (by decide) rfl (fun ls hl => ?_)
  have hl := lv_sub (l' := [(0, .ref y), (1, .int (nI kh)), (2, .int 0), (3, .int 0)]) hl [2, 3, 1, 0] rfl
  have q_1 : 0 = (nI (pb_ (fun n => tn_X (fwt (kh * 8 + n))) 0)) := rfl
  have hl := cs_L (fun z_z => [(0, .ref y), (1, .int (nI kh)), (2, .int z_z), (3, .int 0)]) q_1 hl
  have q_2 : 0 = (nI 0) := rfl
  have hl := cs_L (fun z_z => [(0, .ref y), (1, .int (nI kh)), (2, .int (nI (pb_ (fun n => tn_X (fwt (kh * 8 + n))) 0))), (3, .int z_z)]) q_2 hl
  have hl : lv_has ls 4 [(0, .ref y), (1, .int (nI kh)), (2, .int (nI (pb_ (fun n => tn_X (fwt (kh * 8 + n))) 0))), (3, .int (nI 0))] := hl
  refine lp_g (σ := Nat) (fun i => 8 - i) (fun i => [ob_J y 6 [.int th, .int (nI hh), .int r0, .int r1, .int r2, .int r3, .ref mb, .int given, .int mrew, .int (nI sz), .ref mk, .ref mc, .ref ms, .ref md, .ref mf, .ref mst, .ref mth, .ref mdr, .ref mw, .ref msh, .ref mpo, .ref mpa, .ref mde, .ref mj], ar_I mw cI 808 fwt]) (fun i => [(0, .ref y), (1, .int (nI kh)), (2, .int (nI (pb_ (fun n => tn_X (fwt (kh * 8 + n))) i))), (3, .int (nI i))]) (fun i => (i ≤ 8)) ?_ 0 (show (0 ≤ 8) from by omega) hP hD hS hl
  intro i H locs ls hF hP hD hS hl ih_4
  have hF : (i ≤ 8) := hF
  have hi := hF
  have hP : va_P D cl_A [ob_J y 6 [.int th, .int (nI hh), .int r0, .int r1, .int r2, .int r3, .ref mb, .int given, .int mrew, .int (nI sz), .ref mk, .ref mc, .ref ms, .ref md, .ref mf, .ref mst, .ref mth, .ref mdr, .ref mw, .ref msh, .ref mpo, .ref mpa, .ref mde, .ref mj], ar_I mw cI 808 fwt] H := hP
  have hD : va_D A [ob_J y 6 [.int th, .int (nI hh), .int r0, .int r1, .int r2, .int r3, .ref mb, .int given, .int mrew, .int (nI sz), .ref mk, .ref mc, .ref ms, .ref md, .ref mf, .ref mst, .ref mth, .ref mdr, .ref mw, .ref msh, .ref mpo, .ref mpa, .ref mde, .ref mj], ar_I mw cI 808 fwt] := hD
  have hl : lv_has ls 4 [(0, .ref y), (1, .int (nI kh)), (2, .int (nI (pb_ (fun n => tn_X (fwt (kh * 8 + n))) i))), (3, .int (nI i))] := hl
  refine lv_iload_n hx hb dX6_present_4 rfl (lv_at hl 3 rfl) ?_
  refine lv_bipush (v := 8) hx hb dX6_present_5 (by decide) ?_
  refine lv_icmp_ge (tgt := 40) hx hb dX6_present_7 (by decide) (fun c_7 => ?_) (fun c_7 => ?_)
  · have c_7 := qq_ge (a := i) (b := 8) c_7 (by omega) (by omega)
    refine lv_iload_n hx hb dX6_present_40 rfl (lv_at hl 2 rfl) ?_
    exact re_I (w1 := fun u_u : Unit => [ob_J y 6 [.int th, .int (nI hh), .int r0, .int r1, .int r2, .int r3, .ref mb, .int given, .int mrew, .int (nI sz), .ref mk, .ref mc, .ref ms, .ref md, .ref mf, .ref mst, .ref mth, .ref mdr, .ref mw, .ref msh, .ref mpo, .ref mpa, .ref mde, .ref mj], ar_I mw cI 808 fwt]) (v := nI (pb_ (fun n => tn_X (fwt (kh * 8 + n))) i)) hx hb hr hlk hK hS rfl () hP hD (show (nI (pb_ (fun n => tn_X (fwt (kh * 8 + n))) i)) = nI (pb_ (fun n => tn_X (fwt (kh * 8 + n))) 8) from by rw [show i = 8 by omega]) dX6_present_41
  · have c_7 := qq_nge (a := i) (b := 8) c_7 (by omega) (by omega)
    refine lv_aload_n hx hb dX6_present_10 rfl (lv_at hl 0 rfl) ?_
    refine va_get (ci := 6) (v := .ref mw) (C := RX6) (T := TX6) (N := 24) hx hb hts bi_6 hown hK hP 0 rfl rfl 18 (by decide) (hts _ bw_423) (fun _ h9 => h9) rfl dX6_present_11 ?_
    refine lv_bipush (v := 8) hx hb dX6_present_14 (by decide) ?_
    refine lv_iload_n hx hb dX6_present_16 rfl (lv_at hl 1 rfl) ?_
    refine lv_imul hx hb dX6_present_17 ?_
    refine tp_i (x' := nI (kh * 8)) (nn_mulc rfl rfl) ?_
    refine lv_iload_n hx hb dX6_present_18 rfl (lv_at hl 3 rfl) ?_
    refine lv_iadd hx hb dX6_present_19 ?_
    refine tp_i (x' := nI ((kh * 8) + i)) (nn_add rfl rfl) ?_
    refine ar_ld hx hb hK hP 1 (k := (kh * 8) + i) rfl rfl (by omega) (by decide) dX6_present_20 ?_
    refine tp_i (x' := nI (tn_X (fwt (kh * 8 + i)))) (hV.1 kh i hh_ (by omega)) ?_
    have htl := tn_lt (fwt (kh * 8 + i))
    refine lv_if_le (tgt := 32) hx hb dX6_present_21 (by decide) (fun c_21 => ?_) (fun c_21 => ?_)
    · have c_21 := qq_le (a := tn_X (fwt (kh * 8 + i))) (b := 0) c_21 (by omega) (by omega)
      refine lv_iload_n hx hb dX6_present_32 rfl (lv_at hl 2 rfl) ?_
      refine lv_istore_n (lv' := [(2, .int (nI (pb_ (fun n => tn_X (fwt (kh * 8 + n))) i))), (0, .ref y), (1, .int (nI kh)), (3, .int (nI i))]) hx hb dX6_present_33 rfl hl (by decide) rfl (fun ls hl => ?_)
      refine lv_iinc (v := nI (i + 1)) (lv' := [(3, .int (nI (i + 1))), (2, .int (nI (pb_ (fun n => tn_X (fwt (kh * 8 + n))) i))), (0, .ref y), (1, .int (nI kh))]) hx hb dX6_present_34 hl (k := 3) rfl (nI_1 _) (by decide) rfl (fun ls hl => ?_)
      refine lv_goto (tgt := 4) hx hb dX6_present_37 (by decide) ?_
      have hl := lv_sub (l' := [(0, .ref y), (1, .int (nI kh)), (2, .int (nI (pb_ (fun n => tn_X (fwt (kh * 8 + n))) i))), (3, .int (nI (i + 1)))]) hl [2, 3, 1, 0] rfl
      have q_3 : (nI (pb_ (fun n => tn_X (fwt (kh * 8 + n))) i)) = (nI (pb_ (fun n => tn_X (fwt (kh * 8 + n))) (i + 1))) := congrArg nI (by rw [pb_s, if_pos (show tn_X (fwt (kh * 8 + i)) = 0 by omega)])
      have hl := cs_L (fun z_z => [(0, .ref y), (1, .int (nI kh)), (2, .int z_z), (3, .int (nI (i + 1)))]) q_3 hl
      have hl : lv_has ls 4 [(0, .ref y), (1, .int (nI kh)), (2, .int (nI (pb_ (fun n => tn_X (fwt (kh * 8 + n))) (i + 1)))), (3, .int (nI (i + 1)))] := hl
      exact ih_4 (i + 1) (show 8 - (i + 1) < 8 - i from by omega) (show ((i + 1) ≤ 8) from by omega) H locs ls hP hD hS hl
    · have c_21 := qq_nle (a := tn_X (fwt (kh * 8 + i))) (b := 0) c_21 (by omega) (by omega)
      refine lv_iload_n hx hb dX6_present_24 rfl (lv_at hl 2 rfl) ?_
      refine lv_iconst (v := 1) hx hb dX6_present_25 (by decide) ?_
      refine lv_iload_n hx hb dX6_present_26 rfl (lv_at hl 3 rfl) ?_
      refine lv_ishl hx hb dX6_present_27 ?_
      refine lv_ior hx hb dX6_present_28 ?_
      refine tp_i (x' := nI (pb_ (fun n => tn_X (fwt (kh * 8 + n))) i + 2 ^ i)) (or_0 i (by omega) _ (pb_lt _ _)) ?_
      refine lv_goto (tgt := 33) hx hb dX6_present_29 (by decide) ?_
      refine lv_istore_n (lv' := [(2, .int (nI (pb_ (fun n => tn_X (fwt (kh * 8 + n))) i + 2 ^ i))), (0, .ref y), (1, .int (nI kh)), (3, .int (nI i))]) hx hb dX6_present_33 rfl hl (by decide) rfl (fun ls hl => ?_)
      refine lv_iinc (v := nI (i + 1)) (lv' := [(3, .int (nI (i + 1))), (2, .int (nI (pb_ (fun n => tn_X (fwt (kh * 8 + n))) i + 2 ^ i))), (0, .ref y), (1, .int (nI kh))]) hx hb dX6_present_34 hl (k := 3) rfl (nI_1 _) (by decide) rfl (fun ls hl => ?_)
      refine lv_goto (tgt := 4) hx hb dX6_present_37 (by decide) ?_
      have hl := lv_sub (l' := [(0, .ref y), (1, .int (nI kh)), (2, .int (nI (pb_ (fun n => tn_X (fwt (kh * 8 + n))) i + 2 ^ i))), (3, .int (nI (i + 1)))]) hl [2, 3, 1, 0] rfl
      have q_4 : (nI (pb_ (fun n => tn_X (fwt (kh * 8 + n))) i + 2 ^ i)) = (nI (pb_ (fun n => tn_X (fwt (kh * 8 + n))) (i + 1))) := congrArg nI (by rw [pb_s, if_neg (show ¬ tn_X (fwt (kh * 8 + i)) = 0 by omega)])
      have hl := cs_L (fun z_z => [(0, .ref y), (1, .int (nI kh)), (2, .int z_z), (3, .int (nI (i + 1)))]) q_4 hl
      have hl : lv_has ls 4 [(0, .ref y), (1, .int (nI kh)), (2, .int (nI (pb_ (fun n => tn_X (fwt (kh * 8 + n))) (i + 1)))), (3, .int (nI (i + 1)))] := hl
      exact ih_4 (i + 1) (show 8 - (i + 1) < 8 - i from by omega) (show ((i + 1) ≤ 8) from by omega) H locs ls hP hD hS hl

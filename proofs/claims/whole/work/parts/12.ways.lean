set_option maxHeartbeats 4000000 in
set_option maxRecDepth 100000 in
theorem k_X4_isShorter (l : Launch) (D : va_G) (cI cJ cZ : ClassId) (wy : Nat) (jp : Nat) (nx : Nat) (fjp : Nat → Int32) (kh : Nat) (kv : Nat) (hh : kh ≤ 100) (hv : kv ≤ 100) : mt_I l yX4_isShorter cX4_isShorter 3 .boolean 0 0 D cI cJ cZ [ob_J wy 4 [.ref jp, .ref nx], ar_I jp cI 101 fjp] [.ref wy, .int (nI kh), .int (nI kv)] (fun r (_ : Unit) => r = if ¬ fjp kv = -2 ∧ (fjp kh = -2 ∨ fjp kv + 1 < fjp kh) then 1 else 0) (fun u_u : Unit => [ob_J wy 4 [.ref jp, .ref nx], ar_I jp cI 101 fjp]) := by
  refine en_I (by decide) (Nat.le_of_ble_eq_true rfl) ?_
  intro p e s m below meth c A ls H locs hx hb hr hml hts hown hlk hN hK hA hP hD hS hl
  have hown : s.vm.findClass RX4 = some m.cls := hown
  have hl : lv_has ls 3 [(0, .ref wy), (1, .int (nI kh)), (2, .int (nI kv))] := hl
  refine lv_aload_n hx hb dX4_isShorter_0 rfl (lv_at hl 0 rfl) ?_
  refine va_get (ci := 4) (v := .ref jp) (C := RX4) (T := TX4) (N := 2) hx hb hts bi_4 hown hK hP 0 rfl rfl 0 (by decide) (hts _ bw_125) (fun _ h9 => h9) rfl dX4_isShorter_1 ?_
  refine lv_iload_n hx hb dX4_isShorter_4 rfl (lv_at hl 2 rfl) ?_
  refine ar_ld hx hb hK hP 1 (k := kv) rfl rfl (by omega) (by decide) dX4_isShorter_5 ?_
  refine lv_bipush (v := (-2)) hx hb dX4_isShorter_6 (by decide) ?_
  refine lv_icmp_eq (tgt := 43) hx hb dX4_isShorter_8 (by decide) (fun c_8 => ?_) (fun c_8 => ?_)
  · refine lv_iconst (v := 0) hx hb dX4_isShorter_43 (by decide) ?_
    exact re_I (w1 := fun u_u : Unit => [ob_J wy 4 [.ref jp, .ref nx], ar_I jp cI 101 fjp]) (v := 0) hx hb hr hlk hK hS rfl () hP hD (show _ = if ¬ fjp kv = -2 ∧ (fjp kh = -2 ∨ fjp kv + 1 < fjp kh) then _ else _ from (if_neg (fun z => z.1 c_8)).symm) dX4_isShorter_44
  · refine lv_aload_n hx hb dX4_isShorter_11 rfl (lv_at hl 0 rfl) ?_
    refine va_get (ci := 4) (v := .ref jp) (C := RX4) (T := TX4) (N := 2) hx hb hts bi_4 hown hK hP 0 rfl rfl 0 (by decide) (hts _ bw_125) (fun _ h9 => h9) rfl dX4_isShorter_12 ?_
    refine lv_iload_n hx hb dX4_isShorter_15 rfl (lv_at hl 1 rfl) ?_
    refine ar_ld hx hb hK hP 1 (k := kh) rfl rfl (by omega) (by decide) dX4_isShorter_16 ?_
    refine lv_bipush (v := (-2)) hx hb dX4_isShorter_17 (by decide) ?_
    refine lv_icmp_eq (tgt := 39) hx hb dX4_isShorter_19 (by decide) (fun c_19 => ?_) (fun c_19 => ?_)
    · refine lv_iconst (v := 1) hx hb dX4_isShorter_39 (by decide) ?_
      refine lv_goto (tgt := 44) hx hb dX4_isShorter_40 (by decide) ?_
      exact re_I (w1 := fun u_u : Unit => [ob_J wy 4 [.ref jp, .ref nx], ar_I jp cI 101 fjp]) (v := 1) hx hb hr hlk hK hS rfl () hP hD (show _ = if ¬ fjp kv = -2 ∧ (fjp kh = -2 ∨ fjp kv + 1 < fjp kh) then _ else _ from (if_pos ⟨c_8, Or.inl c_19⟩).symm) dX4_isShorter_44
    · refine lv_aload_n hx hb dX4_isShorter_22 rfl (lv_at hl 0 rfl) ?_
      refine va_get (ci := 4) (v := .ref jp) (C := RX4) (T := TX4) (N := 2) hx hb hts bi_4 hown hK hP 0 rfl rfl 0 (by decide) (hts _ bw_125) (fun _ h9 => h9) rfl dX4_isShorter_23 ?_
      refine lv_iload_n hx hb dX4_isShorter_26 rfl (lv_at hl 2 rfl) ?_
      refine ar_ld hx hb hK hP 1 (k := kv) rfl rfl (by omega) (by decide) dX4_isShorter_27 ?_
      refine lv_iconst (v := 1) hx hb dX4_isShorter_28 (by decide) ?_
      refine lv_iadd hx hb dX4_isShorter_29 ?_
      refine lv_aload_n hx hb dX4_isShorter_30 rfl (lv_at hl 0 rfl) ?_
      refine va_get (ci := 4) (v := .ref jp) (C := RX4) (T := TX4) (N := 2) hx hb hts bi_4 hown hK hP 0 rfl rfl 0 (by decide) (hts _ bw_125) (fun _ h9 => h9) rfl dX4_isShorter_31 ?_
      refine lv_iload_n hx hb dX4_isShorter_34 rfl (lv_at hl 1 rfl) ?_
      refine ar_ld hx hb hK hP 1 (k := kh) rfl rfl (by omega) (by decide) dX4_isShorter_35 ?_
      refine lv_icmp_ge (tgt := 43) hx hb dX4_isShorter_36 (by decide) (fun c_36 => ?_) (fun c_36 => ?_)
      · refine lv_iconst (v := 0) hx hb dX4_isShorter_43 (by decide) ?_
        exact re_I (w1 := fun u_u : Unit => [ob_J wy 4 [.ref jp, .ref nx], ar_I jp cI 101 fjp]) (v := 0) hx hb hr hlk hK hS rfl () hP hD (show _ = if ¬ fjp kv = -2 ∧ (fjp kh = -2 ∨ fjp kv + 1 < fjp kh) then _ else _ from (if_neg (fun z => z.2.elim c_19 (fun q => absurd q (Int32.not_lt.mpr c_36)))).symm) dX4_isShorter_44
      · refine lv_iconst (v := 1) hx hb dX4_isShorter_39 (by decide) ?_
        refine lv_goto (tgt := 44) hx hb dX4_isShorter_40 (by decide) ?_
        exact re_I (w1 := fun u_u : Unit => [ob_J wy 4 [.ref jp, .ref nx], ar_I jp cI 101 fjp]) (v := 1) hx hb hr hlk hK hS rfl () hP hD (show _ = if ¬ fjp kv = -2 ∧ (fjp kh = -2 ∨ fjp kv + 1 < fjp kh) then _ else _ from (if_pos ⟨c_8, Or.inr (Int32.not_le.mp c_36)⟩).symm) dX4_isShorter_44

set_option maxHeartbeats 4000000 in
set_option maxRecDepth 100000 in
theorem k_X4_planFrom (l : Launch) (D : va_G) (cI cJ cZ : ClassId) (wy : Nat) (jp : Nat) (nx : Nat) (st : Nat) (wt : Nat) (al : Nat) (br : Nat) (fjp : Nat → Int32) (fnx : Nat → Int32) (rw : Nat) (fx : Nat) (fwt : Nat → Int32) (fal : Nat → Int32) (fbr : Nat → Int32) (h : Nat) (to_ : Nat) (bb : Nat → Nat) (J : Nat → Nat) (hto : to_ ≤ 100) (hh : h < to_) (hbr : ∀ t, t ≤ to_ → fbr t = nI (bb t) ∧ bb t < 256) (hJ : ∀ v, h < v → v ≤ to_ → fjp v = jc_ (J v) ∧ (J v = 200 ∨ J v + v ≤ to_)) : mt_V l yX4_planFrom cX4_planFrom 5 4 90 D cI cJ cZ [ob_J wy 4 [.ref jp, .ref nx], ar_I jp cI 101 fjp, ar_I nx cI 101 fnx, ob_J st 2 [.ref wt, .ref rw, .ref al, .ref br, .ref fx], ar_I wt cI 808 fwt, ar_I al cI 101 fal, ar_I br cI 101 fbr] [.ref wy, .ref st, .int (nI h), .int (nI to_)] (fun u_u : (Nat) × (Nat) => ps_ (my_ fwt fal bb) J to_ h u_u.1 u_u.2) (fun u_u : (Nat) × (Nat) => [ob_J wy 4 [.ref jp, .ref nx], ar_I jp cI 101 (upd fjp h (jc_ u_u.1)), ar_I nx cI 101 (upd fnx h (nI u_u.2)), ob_J st 2 [.ref wt, .ref rw, .ref al, .ref br, .ref fx], ar_I wt cI 808 fwt, ar_I al cI 101 fal, ar_I br cI 101 fbr]) := by
  refine en_V (by decide) (Nat.le_of_ble_eq_true rfl) ?_
  intro p e s m below meth c A ls H locs hx hb hr hml hts hown hlk hN hK hA hP hD hS hl
  have hown : s.vm.findClass RX4 = some m.cls := hown
  have hl : lv_has ls 5 [(0, .ref wy), (1, .ref st), (2, .int (nI h)), (3, .int (nI to_))] := hl
  refine lv_aload_n hx hb dX4_planFrom_0 rfl (lv_at hl 0 rfl) ?_
  refine va_get (ci := 4) (v := .ref jp) (C := RX4) (T := TX4) (N := 2) hx hb hts bi_4 hown hK hP 0 rfl rfl 0 (by decide) (hts _ bw_125) (fun _ h9 => h9) rfl dX4_planFrom_1 ?_
  refine lv_iload_n hx hb dX4_planFrom_4 rfl (lv_at hl 2 rfl) ?_
  refine lv_bipush (v := (-2)) hx hb dX4_planFrom_5 (by decide) ?_
  refine ar_st hx hb hK hP hD hS 1 (k := h) rfl rfl (by omega) (by decide) dX4_planFrom_7 _ rfl (fun H locs hP hD hS => ?_)
  have hP : va_P D cl_A [ob_J wy 4 [.ref jp, .ref nx], ar_I jp cI 101 (upd fjp h (-2)), ar_I nx cI 101 fnx, ob_J st 2 [.ref wt, .ref rw, .ref al, .ref br, .ref fx], ar_I wt cI 808 fwt, ar_I al cI 101 fal, ar_I br cI 101 fbr] H := hP
  have hD : va_D A [ob_J wy 4 [.ref jp, .ref nx], ar_I jp cI 101 (upd fjp h (-2)), ar_I nx cI 101 fnx, ob_J st 2 [.ref wt, .ref rw, .ref al, .ref br, .ref fx], ar_I wt cI 808 fwt, ar_I al cI 101 fal, ar_I br cI 101 fbr] := hD
  refine lv_aload_n hx hb dX4_planFrom_8 rfl (lv_at hl 0 rfl) ?_
  refine va_get (ci := 4) (v := .ref nx) (C := RX4) (T := TX4) (N := 2) hx hb hts bi_4 hown hK hP 0 rfl rfl 1 (by decide) (hts _ bw_127) (fun _ h9 => h9) rfl dX4_planFrom_9 ?_
  refine lv_iload_n hx hb dX4_planFrom_12 rfl (lv_at hl 2 rfl) ?_
  refine lv_iload_n hx hb dX4_planFrom_13 rfl (lv_at hl 2 rfl) ?_
  refine ar_st hx hb hK hP hD hS 2 (k := h) rfl rfl (by omega) (by decide) dX4_planFrom_14 _ rfl (fun H locs hP hD hS => ?_)
  have hP : va_P D cl_A [ob_J wy 4 [.ref jp, .ref nx], ar_I jp cI 101 (upd fjp h (-2)), ar_I nx cI 101 (upd fnx h (nI h)), ob_J st 2 [.ref wt, .ref rw, .ref al, .ref br, .ref fx], ar_I wt cI 808 fwt, ar_I al cI 101 fal, ar_I br cI 101 fbr] H := hP
  have hD : va_D A [ob_J wy 4 [.ref jp, .ref nx], ar_I jp cI 101 (upd fjp h (-2)), ar_I nx cI 101 (upd fnx h (nI h)), ob_J st 2 [.ref wt, .ref rw, .ref al, .ref br, .ref fx], ar_I wt cI 808 fwt, ar_I al cI 101 fal, ar_I br cI 101 fbr] := hD
  refine lv_iload_n hx hb dX4_planFrom_15 rfl (lv_at hl 3 rfl) ?_
  refine lv_istore (lv' := [(4, .int (nI to_)), (0, .ref wy), (1, .ref st), (2, .int (nI h)), (3, .int (nI to_))]) hx hb dX4_planFrom_16 hl (by decide) rfl (fun ls hl => ?_)
  have q_1 : upd fjp h (-2) = upd fjp h (jc_ 200) := rfl
  obtain ⟨hP, hD⟩ := cs_W (fun z_z => [ob_J wy 4 [.ref jp, .ref nx], ar_I jp cI 101 z_z, ar_I nx cI 101 (upd fnx h (nI h)), ob_J st 2 [.ref wt, .ref rw, .ref al, .ref br, .ref fx], ar_I wt cI 808 fwt, ar_I al cI 101 fal, ar_I br cI 101 fbr]) q_1 hP hD
  have hl := lv_sub (l' := [(0, .ref wy), (1, .ref st), (2, .int (nI h)), (3, .int (nI to_)), (4, .int (nI to_))]) hl [1, 2, 3, 4, 0] rfl
  have hl : lv_has ls 5 [(0, .ref wy), (1, .ref st), (2, .int (nI h)), (3, .int (nI to_)), (4, .int (nI to_))] := hl
  refine lp_g (σ := (Nat) × (Nat) × (Nat)) (fun x_x => x_x.1) (fun x_x => [ob_J wy 4 [.ref jp, .ref nx], ar_I jp cI 101 (upd fjp h (jc_ x_x.2.1)), ar_I nx cI 101 (upd fnx h (nI x_x.2.2)), ob_J st 2 [.ref wt, .ref rw, .ref al, .ref br, .ref fx], ar_I wt cI 808 fwt, ar_I al cI 101 fal, ar_I br cI 101 fbr]) (fun x_x => [(0, .ref wy), (1, .ref st), (2, .int (nI h)), (3, .int (nI to_)), (4, .int (nI x_x.1))]) (fun x_x => (h ≤ x_x.1) ∧ (x_x.1 ≤ to_) ∧ (pp_ (my_ fwt fal bb) J to_ h x_x.1 x_x.2.1 x_x.2.2)) ?_ (to_, 200, h) (show (h ≤ to_) ∧ (to_ ≤ to_) ∧ (pp_ (my_ fwt fal bb) J to_ h to_ 200 h) from ⟨by omega, by omega, pp_0 _ _ _ _⟩) hP hD hS hl
  intro x_x H locs ls hF hP hD hS hl ih_18
  obtain ⟨v, j, b⟩ := x_x
  have hF : (h ≤ v) ∧ (v ≤ to_) ∧ (pp_ (my_ fwt fal bb) J to_ h v j b) := hF
  obtain ⟨hv, hvt, hpp⟩ := hF
  have hP : va_P D cl_A [ob_J wy 4 [.ref jp, .ref nx], ar_I jp cI 101 (upd fjp h (jc_ j)), ar_I nx cI 101 (upd fnx h (nI b)), ob_J st 2 [.ref wt, .ref rw, .ref al, .ref br, .ref fx], ar_I wt cI 808 fwt, ar_I al cI 101 fal, ar_I br cI 101 fbr] H := hP
  have hD : va_D A [ob_J wy 4 [.ref jp, .ref nx], ar_I jp cI 101 (upd fjp h (jc_ j)), ar_I nx cI 101 (upd fnx h (nI b)), ob_J st 2 [.ref wt, .ref rw, .ref al, .ref br, .ref fx], ar_I wt cI 808 fwt, ar_I al cI 101 fal, ar_I br cI 101 fbr] := hD
  have hl : lv_has ls 5 [(0, .ref wy), (1, .ref st), (2, .int (nI h)), (3, .int (nI to_)), (4, .int (nI v))] := hl
  have hjb := pp_j hpp hv (fun v h1 h2 => (hJ v h1 h2).2) hto
  refine lv_iload hx hb dX4_planFrom_18 (lv_at hl 4 rfl) ?_
  refine lv_iload_n hx hb dX4_planFrom_20 rfl (lv_at hl 2 rfl) ?_
  refine lv_icmp_le (tgt := 90) hx hb dX4_planFrom_21 (by decide) (fun c_21 => ?_) (fun c_21 => ?_)
  · have c_21 := qq_le (a := v) (b := h) c_21 (by omega) (by omega)
    exact re_V (w1 := fun u_u : (Nat) × (Nat) => [ob_J wy 4 [.ref jp, .ref nx], ar_I jp cI 101 (upd fjp h (jc_ u_u.1)), ar_I nx cI 101 (upd fnx h (nI u_u.2)), ob_J st 2 [.ref wt, .ref rw, .ref al, .ref br, .ref fx], ar_I wt cI 808 fwt, ar_I al cI 101 fal, ar_I br cI 101 fbr]) hx hb hr hlk hK hS (j, b) hP hD (show ps_ (my_ fwt fal bb) J to_ h j b from by exact pp_e1 hpp (by omega)) dX4_planFrom_90
  · have c_21 := qq_nle (a := v) (b := h) c_21 (by omega) (by omega)
    have hJv := (hJ v (by omega) hvt).2
    refine lv_aload_n hx hb dX4_planFrom_24 rfl (lv_at hl 0 rfl) ?_
    refine va_get (ci := 4) (v := .ref jp) (C := RX4) (T := TX4) (N := 2) hx hb hts bi_4 hown hK hP 0 rfl rfl 0 (by decide) (hts _ bw_125) (fun _ h9 => h9) rfl dX4_planFrom_25 ?_
    refine lv_iload_n hx hb dX4_planFrom_28 rfl (lv_at hl 2 rfl) ?_
    refine ar_ld hx hb hK hP 1 (k := h) rfl rfl (by omega) (by decide) dX4_planFrom_29 ?_
    refine tp_i (x' := jc_ j) (up_i _ _ _) ?_
    refine lv_iconst (v := 1) hx hb dX4_planFrom_30 (by decide) ?_
    refine lv_icmp_eq (tgt := 90) hx hb dX4_planFrom_31 (by decide) (fun c_31 => ?_) (fun c_31 => ?_)
    · exact re_V (w1 := fun u_u : (Nat) × (Nat) => [ob_J wy 4 [.ref jp, .ref nx], ar_I jp cI 101 (upd fjp h (jc_ u_u.1)), ar_I nx cI 101 (upd fnx h (nI u_u.2)), ob_J st 2 [.ref wt, .ref rw, .ref al, .ref br, .ref fx], ar_I wt cI 808 fwt, ar_I al cI 101 fal, ar_I br cI 101 fbr]) hx hb hr hlk hK hS (j, b) hP hD (show ps_ (my_ fwt fal bb) J to_ h j b from by exact pp_e2 hpp hv (jc_1 hjb c_31)) dX4_planFrom_90
    · refine lv_aload_n hx hb dX4_planFrom_34 rfl (lv_at hl 0 rfl) ?_
      refine lv_iload_n hx hb dX4_planFrom_35 rfl (lv_at hl 2 rfl) ?_
      refine lv_iload hx hb dX4_planFrom_36 (lv_at hl 4 rfl) ?_
      refine ca_VI (rest := []) (wr := [ar_I nx cI 101 (upd fnx h (nI b)), ob_J st 2 [.ref wt, .ref rw, .ref al, .ref br, .ref fx], ar_I wt cI 808 fwt, ar_I al cI 101 fal, ar_I br cI 101 fbr]) (w2 := fun u_u => [ob_J wy 4 [.ref jp, .ref nx], ar_I jp cI 101 (upd fjp h (jc_ j)), ar_I nx cI 101 (upd fnx h (nI b)), ob_J st 2 [.ref wt, .ref rw, .ref al, .ref br, .ref fx], ar_I wt cI 808 fwt, ar_I al cI 101 fal, ar_I br cI 101 fbr]) (k_X4_isShorter l D cI cJ cZ wy jp nx (upd fjp h (jc_ j)) h v (by first | assumption | omega) (by first | assumption | omega)) hx hb hml hown hts hN hK hA hP hD hS 4 0 rfl rfl bw_371 bw_372 bw_373 bw_6 bw_374 2 rfl (by decide +kernel) ⟨by decide, by decide⟩ [0, 1] [2, 3, 4, 5, 6] [5, 6, 0, 1, 2, 3, 4] rfl rfl (by decide) (fun _ => rfl) hl.1 rfl (Nat.le_of_ble_eq_true rfl) dX4_planFrom_38 ⟨Nat.zero_le _, Nat.zero_le _⟩ (fun r_38 u_u H locs w_38 hP hD hS => ?_)
      have hP : va_P D cl_A [ob_J wy 4 [.ref jp, .ref nx], ar_I jp cI 101 (upd fjp h (jc_ j)), ar_I nx cI 101 (upd fnx h (nI b)), ob_J st 2 [.ref wt, .ref rw, .ref al, .ref br, .ref fx], ar_I wt cI 808 fwt, ar_I al cI 101 fal, ar_I br cI 101 fbr] H := hP
      have hD : va_D A [ob_J wy 4 [.ref jp, .ref nx], ar_I jp cI 101 (upd fjp h (jc_ j)), ar_I nx cI 101 (upd fnx h (nI b)), ob_J st 2 [.ref wt, .ref rw, .ref al, .ref br, .ref fx], ar_I wt cI 808 fwt, ar_I al cI 101 fal, ar_I br cI 101 fbr] := hD
      have w_38 : r_38 = if ¬ (upd fjp h (jc_ j)) v = -2 ∧ ((upd fjp h (jc_ j)) h = -2 ∨ (upd fjp h (jc_ j)) v + 1 < (upd fjp h (jc_ j)) h) then 1 else 0 := w_38
      by_cases h_38 : ¬ (upd fjp h (jc_ j)) v = -2 ∧ ((upd fjp h (jc_ j)) h = -2 ∨ (upd fjp h (jc_ j)) v + 1 < (upd fjp h (jc_ j)) h)
      · rw [if_pos h_38] at w_38; subst w_38
        have hsh := (is_n (up_n _ _ _ _ (by omega) |>.trans (hJ v (by omega) hvt).1) (up_i _ _ _) (by omega) (by omega)).mp h_38
        refine lv_if_eq (tgt := 84) hx hb dX4_planFrom_41 (by decide) (fun h9 => absurd h9 (by decide)) (fun _ => ?_)
        refine lv_aload_n hx hb dX4_planFrom_44 rfl (lv_at hl 1 rfl) ?_
        refine lv_iload_n hx hb dX4_planFrom_45 rfl (lv_at hl 2 rfl) ?_
        refine lv_iload hx hb dX4_planFrom_46 (lv_at hl 4 rfl) ?_
        refine lv_aload_n hx hb dX4_planFrom_48 rfl (lv_at hl 1 rfl) ?_
        refine va_get (ci := 2) (v := .ref br) (C := RX2) (T := TX2) (N := 5) hx hb hts bi_2 hown hK hP 3 rfl rfl 3 (by decide) (hts _ bw_90) (fun _ h9 => h9) rfl dX4_planFrom_49 ?_
        refine lv_iload hx hb dX4_planFrom_52 (lv_at hl 4 rfl) ?_
        refine ar_ld hx hb hK hP 6 (k := v) rfl rfl (by omega) (by decide) dX4_planFrom_54 ?_
        refine tp_i (x' := nI (bb v)) ((hbr v hvt).1) ?_
        refine ca_VI (rest := []) (wr := [ob_J wy 4 [.ref jp, .ref nx], ar_I jp cI 101 (upd fjp h (jc_ j)), ar_I nx cI 101 (upd fnx h (nI b)), ar_I br cI 101 fbr]) (w2 := fun u_u => [ob_J wy 4 [.ref jp, .ref nx], ar_I jp cI 101 (upd fjp h (jc_ j)), ar_I nx cI 101 (upd fnx h (nI b)), ob_J st 2 [.ref wt, .ref rw, .ref al, .ref br, .ref fx], ar_I wt cI 808 fwt, ar_I al cI 101 fal, ar_I br cI 101 fbr]) (k_X2_allowsJump l D cI cJ cZ st wt al rw br fx fwt fal h v (bb v) (by first | assumption | omega) (by first | assumption | omega) ((hbr v hvt).2)) hx hb hml hown hts hN hK hA hP hD hS 2 0 rfl rfl bw_375 bw_346 bw_347 bw_4 bw_348 3 rfl (by decide +kernel) ⟨by decide, by decide⟩ [3, 4, 5] [0, 1, 2, 6] [0, 1, 2, 4, 5, 6, 3] rfl rfl (by decide) (fun _ => rfl) hl.1 rfl (Nat.le_of_ble_eq_true rfl) dX4_planFrom_55 ⟨Nat.zero_le _, Nat.zero_le _⟩ (fun r_55 u_u H locs w_55 hP hD hS => ?_)
        have hP : va_P D cl_A [ob_J wy 4 [.ref jp, .ref nx], ar_I jp cI 101 (upd fjp h (jc_ j)), ar_I nx cI 101 (upd fnx h (nI b)), ob_J st 2 [.ref wt, .ref rw, .ref al, .ref br, .ref fx], ar_I wt cI 808 fwt, ar_I al cI 101 fal, ar_I br cI 101 fbr] H := hP
        have hD : va_D A [ob_J wy 4 [.ref jp, .ref nx], ar_I jp cI 101 (upd fjp h (jc_ j)), ar_I nx cI 101 (upd fnx h (nI b)), ob_J st 2 [.ref wt, .ref rw, .ref al, .ref br, .ref fx], ar_I wt cI 808 fwt, ar_I al cI 101 fal, ar_I br cI 101 fbr] := hD
        have w_55 : r_55 = if 2 * fal v < 3 * wo_ fwt v (bb v) 8 ∧ fal h < 3 * wo_ fwt h (bb v) 8 then 1 else 0 := w_55
        by_cases h_55 : 2 * fal v < 3 * wo_ fwt v (bb v) 8 ∧ fal h < 3 * wo_ fwt h (bb v) 8
        · rw [if_pos h_55] at w_55; subst w_55
          refine lv_if_eq (tgt := 84) hx hb dX4_planFrom_58 (by decide) (fun h9 => absurd h9 (by decide)) (fun _ => ?_)
          refine lv_aload_n hx hb dX4_planFrom_61 rfl (lv_at hl 0 rfl) ?_
          refine va_get (ci := 4) (v := .ref jp) (C := RX4) (T := TX4) (N := 2) hx hb hts bi_4 hown hK hP 0 rfl rfl 0 (by decide) (hts _ bw_125) (fun _ h9 => h9) rfl dX4_planFrom_62 ?_
          refine lv_iload_n hx hb dX4_planFrom_65 rfl (lv_at hl 2 rfl) ?_
          refine lv_aload_n hx hb dX4_planFrom_66 rfl (lv_at hl 0 rfl) ?_
          refine va_get (ci := 4) (v := .ref jp) (C := RX4) (T := TX4) (N := 2) hx hb hts bi_4 hown hK hP 0 rfl rfl 0 (by decide) (hts _ bw_125) (fun _ h9 => h9) rfl dX4_planFrom_67 ?_
          refine lv_iload hx hb dX4_planFrom_70 (lv_at hl 4 rfl) ?_
          refine ar_ld hx hb hK hP 1 (k := v) rfl rfl (by omega) (by decide) dX4_planFrom_72 ?_
          refine tp_i (x' := nI (J v)) ((up_n _ _ _ _ (by omega)).trans ((hJ v (by omega) hvt).1.trans (jc_n hsh.1))) ?_
          refine lv_iconst (v := 1) hx hb dX4_planFrom_73 (by decide) ?_
          refine lv_iadd hx hb dX4_planFrom_74 ?_
          refine tp_i (x' := nI ((J v) + 1)) (nn_add rfl rfl) ?_
          refine ar_st hx hb hK hP hD hS 1 (k := h) rfl rfl (by omega) (by decide) dX4_planFrom_75 _ rfl (fun H locs hP hD hS => ?_)
          have hP : va_P D cl_A [ob_J wy 4 [.ref jp, .ref nx], ar_I jp cI 101 (upd (upd fjp h (jc_ j)) h (nI ((J v) + 1))), ar_I nx cI 101 (upd fnx h (nI b)), ob_J st 2 [.ref wt, .ref rw, .ref al, .ref br, .ref fx], ar_I wt cI 808 fwt, ar_I al cI 101 fal, ar_I br cI 101 fbr] H := hP
          have hD : va_D A [ob_J wy 4 [.ref jp, .ref nx], ar_I jp cI 101 (upd (upd fjp h (jc_ j)) h (nI ((J v) + 1))), ar_I nx cI 101 (upd fnx h (nI b)), ob_J st 2 [.ref wt, .ref rw, .ref al, .ref br, .ref fx], ar_I wt cI 808 fwt, ar_I al cI 101 fal, ar_I br cI 101 fbr] := hD
          refine lv_aload_n hx hb dX4_planFrom_76 rfl (lv_at hl 0 rfl) ?_
          refine va_get (ci := 4) (v := .ref nx) (C := RX4) (T := TX4) (N := 2) hx hb hts bi_4 hown hK hP 0 rfl rfl 1 (by decide) (hts _ bw_127) (fun _ h9 => h9) rfl dX4_planFrom_77 ?_
          refine lv_iload_n hx hb dX4_planFrom_80 rfl (lv_at hl 2 rfl) ?_
          refine lv_iload hx hb dX4_planFrom_81 (lv_at hl 4 rfl) ?_
          refine ar_st hx hb hK hP hD hS 2 (k := h) rfl rfl (by omega) (by decide) dX4_planFrom_83 _ rfl (fun H locs hP hD hS => ?_)
          have hP : va_P D cl_A [ob_J wy 4 [.ref jp, .ref nx], ar_I jp cI 101 (upd (upd fjp h (jc_ j)) h (nI ((J v) + 1))), ar_I nx cI 101 (upd (upd fnx h (nI b)) h (nI v)), ob_J st 2 [.ref wt, .ref rw, .ref al, .ref br, .ref fx], ar_I wt cI 808 fwt, ar_I al cI 101 fal, ar_I br cI 101 fbr] H := hP
          have hD : va_D A [ob_J wy 4 [.ref jp, .ref nx], ar_I jp cI 101 (upd (upd fjp h (jc_ j)) h (nI ((J v) + 1))), ar_I nx cI 101 (upd (upd fnx h (nI b)) h (nI v)), ob_J st 2 [.ref wt, .ref rw, .ref al, .ref br, .ref fx], ar_I wt cI 808 fwt, ar_I al cI 101 fal, ar_I br cI 101 fbr] := hD
          refine lv_iinc (v := nI (v - 1)) (lv' := [(4, .int (nI (v - 1))), (0, .ref wy), (1, .ref st), (2, .int (nI h)), (3, .int (nI to_))]) hx hb dX4_planFrom_84 hl (k := 4) rfl (nn_dec (by omega)) (by decide) rfl (fun ls hl => ?_)
          refine lv_goto (tgt := 18) hx hb dX4_planFrom_87 (by decide) ?_
          have q_2 : upd (upd fjp h (jc_ j)) h (nI ((J v) + 1)) = upd fjp h (jc_ (J v + 1)) := by rw [up_uu, jc_n (by omega)]
          obtain ⟨hP, hD⟩ := cs_W (fun z_z => [ob_J wy 4 [.ref jp, .ref nx], ar_I jp cI 101 z_z, ar_I nx cI 101 (upd (upd fnx h (nI b)) h (nI v)), ob_J st 2 [.ref wt, .ref rw, .ref al, .ref br, .ref fx], ar_I wt cI 808 fwt, ar_I al cI 101 fal, ar_I br cI 101 fbr]) q_2 hP hD
          have q_3 : upd (upd fnx h (nI b)) h (nI v) = upd fnx h (nI v) := up_uu _ _ _ _
          obtain ⟨hP, hD⟩ := cs_W (fun z_z => [ob_J wy 4 [.ref jp, .ref nx], ar_I jp cI 101 (upd fjp h (jc_ (J v + 1))), ar_I nx cI 101 z_z, ob_J st 2 [.ref wt, .ref rw, .ref al, .ref br, .ref fx], ar_I wt cI 808 fwt, ar_I al cI 101 fal, ar_I br cI 101 fbr]) q_3 hP hD
          have hl := lv_sub (l' := [(0, .ref wy), (1, .ref st), (2, .int (nI h)), (3, .int (nI to_)), (4, .int (nI (v - 1)))]) hl [1, 2, 3, 4, 0] rfl
          have hl : lv_has ls 5 [(0, .ref wy), (1, .ref st), (2, .int (nI h)), (3, .int (nI to_)), (4, .int (nI (v - 1)))] := hl
          exact ih_18 (v - 1, J v + 1, v) (show (v - 1) < v from by omega) (show (h ≤ (v - 1)) ∧ ((v - 1) ≤ to_) ∧ (pp_ (my_ fwt fal bb) J to_ h (v - 1) (J v + 1) v) from ⟨by omega, by omega, pp_1 hpp c_21 hvt hsh.1 hsh.2 h_55 (fun v h1 h2 => (hJ v h1 h2).2) hto⟩) H locs ls hP hD hS hl
        · rw [if_neg h_55] at w_55; subst w_55
          refine lv_if_eq (tgt := 84) hx hb dX4_planFrom_58 (by decide) (fun _ => ?_) (fun h9 => absurd (by decide) h9)
          refine lv_iinc (v := nI (v - 1)) (lv' := [(4, .int (nI (v - 1))), (0, .ref wy), (1, .ref st), (2, .int (nI h)), (3, .int (nI to_))]) hx hb dX4_planFrom_84 hl (k := 4) rfl (nn_dec (by omega)) (by decide) rfl (fun ls hl => ?_)
          refine lv_goto (tgt := 18) hx hb dX4_planFrom_87 (by decide) ?_
          have hl := lv_sub (l' := [(0, .ref wy), (1, .ref st), (2, .int (nI h)), (3, .int (nI to_)), (4, .int (nI (v - 1)))]) hl [1, 2, 3, 4, 0] rfl
          have hl : lv_has ls 5 [(0, .ref wy), (1, .ref st), (2, .int (nI h)), (3, .int (nI to_)), (4, .int (nI (v - 1)))] := hl
          exact ih_18 (v - 1, j, b) (show (v - 1) < v from by omega) (show (h ≤ (v - 1)) ∧ ((v - 1) ≤ to_) ∧ (pp_ (my_ fwt fal bb) J to_ h (v - 1) j b) from ⟨by omega, by omega, pp_2 hpp c_21 (fun z => h_55 z.2.2)⟩) H locs ls hP hD hS hl
      · rw [if_neg h_38] at w_38; subst w_38
        refine lv_if_eq (tgt := 84) hx hb dX4_planFrom_41 (by decide) (fun _ => ?_) (fun h9 => absurd (by decide) h9)
        refine lv_iinc (v := nI (v - 1)) (lv' := [(4, .int (nI (v - 1))), (0, .ref wy), (1, .ref st), (2, .int (nI h)), (3, .int (nI to_))]) hx hb dX4_planFrom_84 hl (k := 4) rfl (nn_dec (by omega)) (by decide) rfl (fun ls hl => ?_)
        refine lv_goto (tgt := 18) hx hb dX4_planFrom_87 (by decide) ?_
        have hl := lv_sub (l' := [(0, .ref wy), (1, .ref st), (2, .int (nI h)), (3, .int (nI to_)), (4, .int (nI (v - 1)))]) hl [1, 2, 3, 4, 0] rfl
        have hl : lv_has ls 5 [(0, .ref wy), (1, .ref st), (2, .int (nI h)), (3, .int (nI to_)), (4, .int (nI (v - 1)))] := hl
        exact ih_18 (v - 1, j, b) (show (v - 1) < v from by omega) (show (h ≤ (v - 1)) ∧ ((v - 1) ≤ to_) ∧ (pp_ (my_ fwt fal bb) J to_ h (v - 1) j b) from ⟨by omega, by omega, pp_2 hpp c_21 (fun z => h_38 ((is_n (up_n _ _ _ _ (by omega) |>.trans (hJ v (by omega) hvt).1) (up_i _ _ _) (by omega) (by omega)).mpr ⟨z.1, z.2.1⟩))⟩) H locs ls hP hD hS hl

set_option maxHeartbeats 4000000 in
set_option maxRecDepth 100000 in
theorem k_X4_plan (l : Launch) (D : va_G) (cI cJ cZ : ClassId) (wy : Nat) (jp : Nat) (nx : Nat) (st : Nat) (wt : Nat) (al : Nat) (br : Nat) (fjp : Nat → Int32) (fnx : Nat → Int32) (rw : Nat) (fx : Nat) (fwt : Nat → Int32) (fal : Nat → Int32) (fbr : Nat → Int32) (fr_ : Nat) (to_ : Nat) (bb : Nat → Nat) (hto : to_ ≤ 100) (hft : fr_ < to_) (hbr : ∀ t, t ≤ to_ → fbr t = nI (bb t) ∧ bb t < 256) : mt_V l yX4_plan cX4_plan 5 5 114 D cI cJ cZ [ob_J wy 4 [.ref jp, .ref nx], ar_I jp cI 101 fjp, ar_I nx cI 101 fnx, ob_J st 2 [.ref wt, .ref rw, .ref al, .ref br, .ref fx], ar_I wt cI 808 fwt, ar_I al cI 101 fal, ar_I br cI 101 fbr] [.ref wy, .ref st, .int (nI fr_), .int (nI to_)] (fun u_u : (Nat → Int32) × (Nat → Int32) × (Nat → Nat) × (Nat → Nat) => PL_ (my_ fwt fal bb) u_u.2.2.1 u_u.2.2.2 fr_ to_ ∧ ∀ v, fr_ ≤ v → v ≤ to_ → u_u.1 v = jc_ (u_u.2.2.1 v) ∧ u_u.2.1 v = nI (u_u.2.2.2 v)) (fun u_u : (Nat → Int32) × (Nat → Int32) × (Nat → Nat) × (Nat → Nat) => [ob_J wy 4 [.ref jp, .ref nx], ar_I jp cI 101 u_u.1, ar_I nx cI 101 u_u.2.1, ob_J st 2 [.ref wt, .ref rw, .ref al, .ref br, .ref fx], ar_I wt cI 808 fwt, ar_I al cI 101 fal, ar_I br cI 101 fbr]) := by
  refine en_V (by decide) (Nat.le_of_ble_eq_true rfl) ?_
  intro p e s m below meth c A ls H locs hx hb hr hml hts hown hlk hN hK hA hP hD hS hl
  have hown : s.vm.findClass RX4 = some m.cls := hown
  have hl : lv_has ls 5 [(0, .ref wy), (1, .ref st), (2, .int (nI fr_)), (3, .int (nI to_))] := hl
  refine lv_aload_n hx hb dX4_plan_0 rfl (lv_at hl 0 rfl) ?_
  refine va_get (ci := 4) (v := .ref jp) (C := RX4) (T := TX4) (N := 2) hx hb hts bi_4 hown hK hP 0 rfl rfl 0 (by decide) (hts _ bw_125) (fun _ h9 => h9) rfl dX4_plan_1 ?_
  refine lv_iload_n hx hb dX4_plan_4 rfl (lv_at hl 3 rfl) ?_
  refine lv_iconst (v := 0) hx hb dX4_plan_5 (by decide) ?_
  refine ar_st hx hb hK hP hD hS 1 (k := to_) rfl rfl (by omega) (by decide) dX4_plan_6 _ rfl (fun H locs hP hD hS => ?_)
  have hP : va_P D cl_A [ob_J wy 4 [.ref jp, .ref nx], ar_I jp cI 101 (upd fjp to_ 0), ar_I nx cI 101 fnx, ob_J st 2 [.ref wt, .ref rw, .ref al, .ref br, .ref fx], ar_I wt cI 808 fwt, ar_I al cI 101 fal, ar_I br cI 101 fbr] H := hP
  have hD : va_D A [ob_J wy 4 [.ref jp, .ref nx], ar_I jp cI 101 (upd fjp to_ 0), ar_I nx cI 101 fnx, ob_J st 2 [.ref wt, .ref rw, .ref al, .ref br, .ref fx], ar_I wt cI 808 fwt, ar_I al cI 101 fal, ar_I br cI 101 fbr] := hD
  refine lv_aload_n hx hb dX4_plan_7 rfl (lv_at hl 0 rfl) ?_
  refine va_get (ci := 4) (v := .ref nx) (C := RX4) (T := TX4) (N := 2) hx hb hts bi_4 hown hK hP 0 rfl rfl 1 (by decide) (hts _ bw_127) (fun _ h9 => h9) rfl dX4_plan_8 ?_
  refine lv_iload_n hx hb dX4_plan_11 rfl (lv_at hl 3 rfl) ?_
  refine lv_iload_n hx hb dX4_plan_12 rfl (lv_at hl 3 rfl) ?_
  refine ar_st hx hb hK hP hD hS 2 (k := to_) rfl rfl (by omega) (by decide) dX4_plan_13 _ rfl (fun H locs hP hD hS => ?_)
  have hP : va_P D cl_A [ob_J wy 4 [.ref jp, .ref nx], ar_I jp cI 101 (upd fjp to_ 0), ar_I nx cI 101 (upd fnx to_ (nI to_)), ob_J st 2 [.ref wt, .ref rw, .ref al, .ref br, .ref fx], ar_I wt cI 808 fwt, ar_I al cI 101 fal, ar_I br cI 101 fbr] H := hP
  have hD : va_D A [ob_J wy 4 [.ref jp, .ref nx], ar_I jp cI 101 (upd fjp to_ 0), ar_I nx cI 101 (upd fnx to_ (nI to_)), ob_J st 2 [.ref wt, .ref rw, .ref al, .ref br, .ref fx], ar_I wt cI 808 fwt, ar_I al cI 101 fal, ar_I br cI 101 fbr] := hD
  refine lv_iload_n hx hb dX4_plan_14 rfl (lv_at hl 3 rfl) ?_
  refine lv_iconst (v := 1) hx hb dX4_plan_15 (by decide) ?_
  refine lv_isub hx hb dX4_plan_16 ?_
  refine tp_i (x' := nI (to_ - 1)) (nn_sub rfl rfl (by omega)) ?_
  refine lv_istore (lv' := [(4, .int (nI (to_ - 1))), (0, .ref wy), (1, .ref st), (2, .int (nI fr_)), (3, .int (nI to_))]) hx hb dX4_plan_17 hl (by decide) rfl (fun ls hl => ?_)
  have hl := lv_sub (l' := [(0, .ref wy), (1, .ref st), (2, .int (nI fr_)), (3, .int (nI to_)), (4, .int (nI (to_ - 1)))]) hl [1, 2, 3, 4, 0] rfl
  have q_1 : nI (to_ - 1) = (nI to_) + (-1) := by rw [← sb_m1 (by omega)]
  have hl := cs_L (fun z_z => [(0, .ref wy), (1, .ref st), (2, .int (nI fr_)), (3, .int (nI to_)), (4, .int z_z)]) q_1 hl
  have hl : lv_has ls 5 [(0, .ref wy), (1, .ref st), (2, .int (nI fr_)), (3, .int (nI to_)), (4, .int ((nI to_) + (-1)))] := hl
  refine lp_g (σ := (Nat) × (Nat → Int32) × (Nat → Int32) × (Nat → Nat) × (Nat → Nat)) (fun x_x => x_x.1) (fun x_x => [ob_J wy 4 [.ref jp, .ref nx], ar_I jp cI 101 x_x.2.1, ar_I nx cI 101 x_x.2.2.1, ob_J st 2 [.ref wt, .ref rw, .ref al, .ref br, .ref fx], ar_I wt cI 808 fwt, ar_I al cI 101 fal, ar_I br cI 101 fbr]) (fun x_x => [(0, .ref wy), (1, .ref st), (2, .int (nI fr_)), (3, .int (nI to_)), (4, .int ((nI x_x.1) + (-1)))]) (fun x_x => (fr_ ≤ x_x.1) ∧ (x_x.1 ≤ to_) ∧ (PL_ (my_ fwt fal bb) x_x.2.2.2.1 x_x.2.2.2.2 x_x.1 to_) ∧ (∀ v, x_x.1 ≤ v → v ≤ to_ → x_x.2.1 v = jc_ (x_x.2.2.2.1 v) ∧ x_x.2.2.1 v = nI (x_x.2.2.2.2 v))) ?_ (to_, upd fjp to_ 0, upd fnx to_ (nI to_), fun _ => 0, fun _ => to_) (show (fr_ ≤ to_) ∧ (to_ ≤ to_) ∧ (PL_ (my_ fwt fal bb) (fun _ => 0) (fun _ => to_) to_ to_) ∧ (∀ v, to_ ≤ v → v ≤ to_ → (upd fjp to_ 0) v = jc_ ((fun _ => 0) v) ∧ (upd fnx to_ (nI to_)) v = nI ((fun _ => to_) v)) from ⟨by omega, by omega, pl_0, fun v h1 h2 => by
    have e : v = to_ := by omega
    subst e
    exact ⟨up_i _ _ _, up_i _ _ _⟩⟩) hP hD hS hl
  intro x_x H locs ls hF hP hD hS hl ih_19
  obtain ⟨k, fj, fn, J, B⟩ := x_x
  have hF : (fr_ ≤ k) ∧ (k ≤ to_) ∧ (PL_ (my_ fwt fal bb) J B k to_) ∧ (∀ v, k ≤ v → v ≤ to_ → fj v = jc_ (J v) ∧ fn v = nI (B v)) := hF
  obtain ⟨hk1, hk2, hpl, hfj⟩ := hF
  have hP : va_P D cl_A [ob_J wy 4 [.ref jp, .ref nx], ar_I jp cI 101 fj, ar_I nx cI 101 fn, ob_J st 2 [.ref wt, .ref rw, .ref al, .ref br, .ref fx], ar_I wt cI 808 fwt, ar_I al cI 101 fal, ar_I br cI 101 fbr] H := hP
  have hD : va_D A [ob_J wy 4 [.ref jp, .ref nx], ar_I jp cI 101 fj, ar_I nx cI 101 fn, ob_J st 2 [.ref wt, .ref rw, .ref al, .ref br, .ref fx], ar_I wt cI 808 fwt, ar_I al cI 101 fal, ar_I br cI 101 fbr] := hD
  have hl : lv_has ls 5 [(0, .ref wy), (1, .ref st), (2, .int (nI fr_)), (3, .int (nI to_)), (4, .int ((nI k) + (-1)))] := hl
  refine lv_iload hx hb dX4_plan_19 (lv_at hl 4 rfl) ?_
  refine lv_iload_n hx hb dX4_plan_21 rfl (lv_at hl 2 rfl) ?_
  refine lv_icmp_lt (tgt := 39) hx hb dX4_plan_22 (by decide) (fun c_22 => ?_) (fun c_22 => ?_)
  · exact re_V (w1 := fun u_u : (Nat → Int32) × (Nat → Int32) × (Nat → Nat) × (Nat → Nat) => [ob_J wy 4 [.ref jp, .ref nx], ar_I jp cI 101 u_u.1, ar_I nx cI 101 u_u.2.1, ob_J st 2 [.ref wt, .ref rw, .ref al, .ref br, .ref fx], ar_I wt cI 808 fwt, ar_I al cI 101 fal, ar_I br cI 101 fbr]) hx hb hr hlk hK hS (fj, fn, J, B) hP hD (show PL_ (my_ fwt fal bb) J B fr_ to_ ∧ ∀ v, fr_ ≤ v → v ≤ to_ → fj v = jc_ (J v) ∧ fn v = nI (B v) from by rw [dn_ge (by omega) hk1 c_22] at hpl hfj; exact ⟨hpl, hfj⟩) dX4_plan_39
  · have hkf : fr_ < k := dn_lt (by omega) hk1 c_22
    have q_2 : (nI k) + (-1) = nI (k - 1) := sb_m1 (by omega)
    have hl := cs_L (fun z_z => [(0, .ref wy), (1, .ref st), (2, .int (nI fr_)), (3, .int (nI to_)), (4, .int z_z)]) q_2 hl
    have hl : lv_has ls 5 [(0, .ref wy), (1, .ref st), (2, .int (nI fr_)), (3, .int (nI to_)), (4, .int (nI (k - 1)))] := hl
    refine lv_aload_n hx hb dX4_plan_25 rfl (lv_at hl 0 rfl) ?_
    refine lv_aload_n hx hb dX4_plan_26 rfl (lv_at hl 1 rfl) ?_
    refine lv_iload hx hb dX4_plan_27 (lv_at hl 4 rfl) ?_
    refine lv_iload_n hx hb dX4_plan_29 rfl (lv_at hl 3 rfl) ?_
    refine ca_VV (rest := []) (wr := []) (w2 := fun u_u => [ob_J wy 4 [.ref jp, .ref nx], ar_I jp cI 101 (upd fj (k - 1) (jc_ u_u.1)), ar_I nx cI 101 (upd fn (k - 1) (nI u_u.2)), ob_J st 2 [.ref wt, .ref rw, .ref al, .ref br, .ref fx], ar_I wt cI 808 fwt, ar_I al cI 101 fal, ar_I br cI 101 fbr]) (k_X4_planFrom l D cI cJ cZ wy jp nx st wt al br fj fn rw fx fwt fal fbr (k - 1) to_ bb J (by first | assumption | omega) (by first | assumption | omega) (hbr) (fun v h1 h2 => ⟨(hfj v (by omega) h2).1, pl_b hpl (to_ - v) v (Nat.le_refl _) (by omega) h2⟩)) hx hb hml hown hts hN hK hA hP hD hS 4 0 rfl rfl bw_367 bw_368 bw_369 bw_6 bw_370 3 rfl (by decide +kernel) ⟨by decide, by decide⟩ [0, 1, 2, 3, 4, 5, 6] [] [0, 1, 2, 3, 4, 5, 6] rfl rfl (by decide) (fun _ => rfl) hl.1 rfl (Nat.le_of_ble_eq_true rfl) dX4_plan_30 ⟨Nat.zero_le _, Nat.zero_le _⟩ (fun u_u H locs w_30 hP hD hS => ?_)
    obtain ⟨zj_3, zb_4⟩ := u_u
    have hP : va_P D cl_A [ob_J wy 4 [.ref jp, .ref nx], ar_I jp cI 101 (upd fj (k - 1) (jc_ zj_3)), ar_I nx cI 101 (upd fn (k - 1) (nI zb_4)), ob_J st 2 [.ref wt, .ref rw, .ref al, .ref br, .ref fx], ar_I wt cI 808 fwt, ar_I al cI 101 fal, ar_I br cI 101 fbr] H := hP
    have hD : va_D A [ob_J wy 4 [.ref jp, .ref nx], ar_I jp cI 101 (upd fj (k - 1) (jc_ zj_3)), ar_I nx cI 101 (upd fn (k - 1) (nI zb_4)), ob_J st 2 [.ref wt, .ref rw, .ref al, .ref br, .ref fx], ar_I wt cI 808 fwt, ar_I al cI 101 fal, ar_I br cI 101 fbr] := hD
    have w_30 : ps_ (my_ fwt fal bb) J to_ (k - 1) zj_3 zb_4 := w_30
    refine lv_iinc (v := (nI (k - 1)) + (-1)) (lv' := [(4, .int ((nI (k - 1)) + (-1))), (0, .ref wy), (1, .ref st), (2, .int (nI fr_)), (3, .int (nI to_))]) hx hb dX4_plan_33 hl (k := 4) rfl (rfl) (by decide) rfl (fun ls hl => ?_)
    refine lv_goto (tgt := 19) hx hb dX4_plan_36 (by decide) ?_
    have hl := lv_sub (l' := [(0, .ref wy), (1, .ref st), (2, .int (nI fr_)), (3, .int (nI to_)), (4, .int ((nI (k - 1)) + (-1)))]) hl [1, 2, 3, 4, 0] rfl
    have hl : lv_has ls 5 [(0, .ref wy), (1, .ref st), (2, .int (nI fr_)), (3, .int (nI to_)), (4, .int ((nI (k - 1)) + (-1)))] := hl
    exact ih_19 (k - 1, upd fj (k - 1) (jc_ zj_3), upd fn (k - 1) (nI zb_4), un_ J (k - 1) zj_3, un_ B (k - 1) zb_4) (show (k - 1) < k from by omega) (show (fr_ ≤ (k - 1)) ∧ ((k - 1) ≤ to_) ∧ (PL_ (my_ fwt fal bb) (un_ J (k - 1) zj_3) (un_ B (k - 1) zb_4) (k - 1) to_) ∧ (∀ v, (k - 1) ≤ v → v ≤ to_ → (upd fj (k - 1) (jc_ zj_3)) v = jc_ ((un_ J (k - 1) zj_3) v) ∧ (upd fn (k - 1) (nI zb_4)) v = nI ((un_ B (k - 1) zb_4) v)) from ⟨by omega, by omega, pl_s hpl (by omega) hk2 w_30, fun v h1 h2 => by
      by_cases e : v = k - 1
      · subst e; exact ⟨by rw [up_i, un_i], by rw [up_i, un_i]⟩
      · rw [up_n _ _ _ _ e, up_n _ _ _ _ e, un_n e, un_n e]; exact hfj v (by omega) h2⟩) H locs ls hP hD hS hl

set_option maxHeartbeats 4000000 in
set_option maxRecDepth 100000 in
theorem k_X4_heightAt (l : Launch) (D : va_G) (cI cJ cZ : ClassId) (wy : Nat) (nx : Nat) (jp : Nat) (fnx : Nat → Int32) (fr_ : Nat) (to_ : Nat) (i_ : Nat) (B : Nat → Nat) (hto : to_ ≤ 100) (hft : fr_ ≤ to_) (hi_ : i_ < 1000) (hBt : B to_ = to_) (hB : ∀ v, fr_ ≤ v → v ≤ to_ → fnx v = nI (B v)) (hit : ∀ n, fr_ ≤ it_ B fr_ n ∧ it_ B fr_ n ≤ to_) : mt_I l yX4_heightAt cX4_heightAt 6 .int 0 0 D cI cJ cZ [ob_J wy 4 [.ref jp, .ref nx], ar_I nx cI 101 fnx] [.ref wy, .int (nI fr_), .int (nI to_), .int (nI i_)] (fun r (u_u : Unit) => r = nI (it_ B fr_ i_)) (fun u_u : Unit => [ob_J wy 4 [.ref jp, .ref nx], ar_I nx cI 101 fnx]) := by
  refine en_I (by decide) (Nat.le_of_ble_eq_true rfl) ?_
  intro p e s m below meth c A ls H locs hx hb hr hml hts hown hlk hN hK hA hP hD hS hl
  have hown : s.vm.findClass RX4 = some m.cls := hown
  have hl : lv_has ls 6 [(0, .ref wy), (1, .int (nI fr_)), (2, .int (nI to_)), (3, .int (nI i_))] := hl
  refine lv_iload_n hx hb dX4_heightAt_0 rfl (lv_at hl 1 rfl) ?_
  refine lv_istore (lv' := [(4, .int (nI fr_)), (0, .ref wy), (1, .int (nI fr_)), (2, .int (nI to_)), (3, .int (nI i_))]) hx hb dX4_heightAt_1 hl (by decide) rfl (fun ls hl => ?_)
  refine lv_iconst (v := 0) hx hb dX4_heightAt_3 (by decide) ?_
  refine lv_istore (lv' := [(5, .int 0), (4, .int (nI fr_)), (0, .ref wy), (1, .int (nI fr_)), (2, .int (nI to_)), (3, .int (nI i_))]) hx hb dX4_heightAt_4 hl (by decide) rfl (fun ls hl => ?_)
  have hl := lv_sub (l' := [(0, .ref wy), (1, .int (nI fr_)), (2, .int (nI to_)), (3, .int (nI i_)), (4, .int (nI fr_)), (5, .int 0)]) hl [2, 3, 4, 5, 1, 0] rfl
  have q_1 : nI fr_ = nI (it_ B fr_ 0) := rfl
  have hl := cs_L (fun z_z => [(0, .ref wy), (1, .int (nI fr_)), (2, .int (nI to_)), (3, .int (nI i_)), (4, .int z_z), (5, .int 0)]) q_1 hl
  have q_2 : 0 = nI 0 := rfl
  have hl := cs_L (fun z_z => [(0, .ref wy), (1, .int (nI fr_)), (2, .int (nI to_)), (3, .int (nI i_)), (4, .int (nI (it_ B fr_ 0))), (5, .int z_z)]) q_2 hl
  have hl : lv_has ls 6 [(0, .ref wy), (1, .int (nI fr_)), (2, .int (nI to_)), (3, .int (nI i_)), (4, .int (nI (it_ B fr_ 0))), (5, .int (nI 0))] := hl
  refine lp_g (σ := Nat) (fun k => i_ - k) (fun k => [ob_J wy 4 [.ref jp, .ref nx], ar_I nx cI 101 fnx]) (fun k => [(0, .ref wy), (1, .int (nI fr_)), (2, .int (nI to_)), (3, .int (nI i_)), (4, .int (nI (it_ B fr_ k))), (5, .int (nI k))]) (fun k => (k ≤ i_)) ?_ 0 (show (0 ≤ i_) from by omega) hP hD hS hl
  intro k H locs ls hF hP hD hS hl ih_6
  have hF : (k ≤ i_) := hF
  have hk := hF
  have hP : va_P D cl_A [ob_J wy 4 [.ref jp, .ref nx], ar_I nx cI 101 fnx] H := hP
  have hD : va_D A [ob_J wy 4 [.ref jp, .ref nx], ar_I nx cI 101 fnx] := hD
  have hl : lv_has ls 6 [(0, .ref wy), (1, .int (nI fr_)), (2, .int (nI to_)), (3, .int (nI i_)), (4, .int (nI (it_ B fr_ k))), (5, .int (nI k))] := hl
  have hik := hit k
  refine lv_iload hx hb dX4_heightAt_6 (lv_at hl 5 rfl) ?_
  refine lv_iload_n hx hb dX4_heightAt_8 rfl (lv_at hl 3 rfl) ?_
  refine lv_icmp_ge (tgt := 33) hx hb dX4_heightAt_9 (by decide) (fun c_9 => ?_) (fun c_9 => ?_)
  · have c_9 := qq_ge (a := k) (b := i_) c_9 (by omega) (by omega)
    refine lv_iload hx hb dX4_heightAt_33 (lv_at hl 4 rfl) ?_
    exact re_I (w1 := fun u_u : Unit => [ob_J wy 4 [.ref jp, .ref nx], ar_I nx cI 101 fnx]) (v := nI (it_ B fr_ k)) hx hb hr hlk hK hS rfl () hP hD (show nI (it_ B fr_ k) = nI (it_ B fr_ i_) from by rw [show k = i_ by omega]) dX4_heightAt_35
  · have c_9 := qq_nge (a := k) (b := i_) c_9 (by omega) (by omega)
    refine lv_iload hx hb dX4_heightAt_12 (lv_at hl 4 rfl) ?_
    refine lv_iload_n hx hb dX4_heightAt_14 rfl (lv_at hl 2 rfl) ?_
    refine lv_icmp_ge (tgt := 33) hx hb dX4_heightAt_15 (by decide) (fun c_15 => ?_) (fun c_15 => ?_)
    · have c_15 := qq_ge (a := it_ B fr_ k) (b := to_) c_15 (by omega) (by omega)
      refine lv_iload hx hb dX4_heightAt_33 (lv_at hl 4 rfl) ?_
      exact re_I (w1 := fun u_u : Unit => [ob_J wy 4 [.ref jp, .ref nx], ar_I nx cI 101 fnx]) (v := nI (it_ B fr_ k)) hx hb hr hlk hK hS rfl () hP hD (show nI (it_ B fr_ k) = nI (it_ B fr_ i_) from congrArg nI (it_fin hBt ⟨c_15, hik.2⟩ hk)) dX4_heightAt_35
    · have c_15 := qq_nge (a := it_ B fr_ k) (b := to_) c_15 (by omega) (by omega)
      refine lv_aload_n hx hb dX4_heightAt_18 rfl (lv_at hl 0 rfl) ?_
      refine va_get (ci := 4) (v := .ref nx) (C := RX4) (T := TX4) (N := 2) hx hb hts bi_4 hown hK hP 0 rfl rfl 1 (by decide) (hts _ bw_127) (fun _ h9 => h9) rfl dX4_heightAt_19 ?_
      refine lv_iload hx hb dX4_heightAt_22 (lv_at hl 4 rfl) ?_
      refine ar_ld hx hb hK hP 1 (k := it_ B fr_ k) rfl rfl (by omega) (by decide) dX4_heightAt_24 ?_
      refine tp_i (x' := nI (B (it_ B fr_ k))) (hB _ hik.1 hik.2) ?_
      refine lv_istore (lv' := [(4, .int (nI (B (it_ B fr_ k)))), (0, .ref wy), (1, .int (nI fr_)), (2, .int (nI to_)), (3, .int (nI i_)), (5, .int (nI k))]) hx hb dX4_heightAt_25 hl (by decide) rfl (fun ls hl => ?_)
      refine lv_iinc (v := nI (k + 1)) (lv' := [(5, .int (nI (k + 1))), (4, .int (nI (B (it_ B fr_ k)))), (0, .ref wy), (1, .int (nI fr_)), (2, .int (nI to_)), (3, .int (nI i_))]) hx hb dX4_heightAt_27 hl (k := 5) rfl (nI_1 _) (by decide) rfl (fun ls hl => ?_)
      refine lv_goto (tgt := 6) hx hb dX4_heightAt_30 (by decide) ?_
      have hl := lv_sub (l' := [(0, .ref wy), (1, .int (nI fr_)), (2, .int (nI to_)), (3, .int (nI i_)), (4, .int (nI (B (it_ B fr_ k)))), (5, .int (nI (k + 1)))]) hl [2, 3, 4, 5, 1, 0] rfl
      have q_3 : nI (B (it_ B fr_ k)) = nI (it_ B fr_ (k + 1)) := rfl
      have hl := cs_L (fun z_z => [(0, .ref wy), (1, .int (nI fr_)), (2, .int (nI to_)), (3, .int (nI i_)), (4, .int z_z), (5, .int (nI (k + 1)))]) q_3 hl
      have hl : lv_has ls 6 [(0, .ref wy), (1, .int (nI fr_)), (2, .int (nI to_)), (3, .int (nI i_)), (4, .int (nI (it_ B fr_ (k + 1)))), (5, .int (nI (k + 1)))] := hl
      exact ih_6 (k + 1) (show i_ - (k + 1) < i_ - k from by omega) (show ((k + 1) ≤ i_) from by omega) H locs ls hP hD hS hl

set_option maxHeartbeats 4000000 in
set_option maxRecDepth 100000 in
theorem k_X6_deal (l : Launch) (D : va_G) (cI cJ cZ : ClassId) (y : Nat) (mpa : Nat) (mde : Nat) (th : Int32) (hh : Nat) (r0 : Int32) (r1 : Int32) (r2 : Int32) (r3 : Int32) (mb : Nat) (given : Int32) (mrew : Int32) (sz : Nat) (mk : Nat) (mc : Nat) (ms : Nat) (md : Nat) (mf : Nat) (mst : Nat) (mth : Nat) (mdr : Nat) (mw : Nat) (msh : Nat) (mpo : Nat) (mj : Nat) (fpa : Nat → Int64) (fde : Nat → Int32) (am : Nat) (n : Nat) (pp : Nat → Nat) (hn1 : 1 ≤ n) (hn : n ≤ 10) (ham : am ≤ 10000) (hT : 0 < sN_ pp n) (hpp : ∀ i, i < n → fpa i = lN (pp i) ∧ pp i ≤ 2000000) : mt_V l yX6_deal cX6_deal 12 0 0 D cI cJ cZ [ob_J y 6 [.int th, .int (nI hh), .int r0, .int r1, .int r2, .int r3, .ref mb, .int given, .int mrew, .int (nI sz), .ref mk, .ref mc, .ref ms, .ref md, .ref mf, .ref mst, .ref mth, .ref mdr, .ref mw, .ref msh, .ref mpo, .ref mpa, .ref mde, .ref mj], ar_L mpa cJ 10 fpa, ar_I mde cI 10 fde] [.ref y, .int (nI am), .int (nI n)] (fun u_u : Unit => True) (fun u_u : Unit => [ob_J y 6 [.int th, .int (nI hh), .int r0, .int r1, .int r2, .int r3, .ref mb, .int given, .int mrew, .int (nI sz), .ref mk, .ref mc, .ref ms, .ref md, .ref mf, .ref mst, .ref mth, .ref mdr, .ref mw, .ref msh, .ref mpo, .ref mpa, .ref mde, .ref mj], ar_L mpa cJ 10 fpa, ar_I mde cI 10 (se_v fde (fun k => nI (sh_ am pp n k)) n)]) := by
  refine en_V (by decide) (Nat.le_of_ble_eq_true rfl) ?_
  intro p e s m below meth c A ls H locs hx hb hr hml hts hown hlk hN hK hA hP hD hS hl
  have hown : s.vm.findClass RX6 = some m.cls := hown
  have hl : lv_has ls 12 [(0, .ref y), (1, .int (nI am)), (2, .int (nI n))] := hl
  refine lv_lconst (v := lN 0) hx hb dX6_deal_0 (by decide) ?_
  refine lv_lstore_n (lv' := [(3, .long (lN 0)), (0, .ref y), (1, .int (nI am)), (2, .int (nI n))]) hx hb dX6_deal_1 rfl hl (by decide) rfl (fun ls hl => ?_)
  refine lv_iconst (v := 0) hx hb dX6_deal_2 (by decide) ?_
  refine lv_istore (lv' := [(5, .int 0), (3, .long (lN 0)), (0, .ref y), (1, .int (nI am)), (2, .int (nI n))]) hx hb dX6_deal_3 hl (by decide) rfl (fun ls hl => ?_)
  have hl := lv_sub (l' := [(0, .ref y), (1, .int (nI am)), (2, .int (nI n)), (3, .long (lN 0)), (5, .int 0)]) hl [2, 3, 4, 1, 0] rfl
  have q_1 : (lN 0) = (lN (sN_ pp 0)) := rfl
  have hl := cs_L (fun z_z => [(0, .ref y), (1, .int (nI am)), (2, .int (nI n)), (3, .long z_z), (5, .int 0)]) q_1 hl
  have q_2 : 0 = (nI 0) := rfl
  have hl := cs_L (fun z_z => [(0, .ref y), (1, .int (nI am)), (2, .int (nI n)), (3, .long (lN (sN_ pp 0))), (5, .int z_z)]) q_2 hl
  have hl : lv_has ls 12 [(0, .ref y), (1, .int (nI am)), (2, .int (nI n)), (3, .long (lN (sN_ pp 0))), (5, .int (nI 0))] := hl
  refine lp_g (σ := Nat) (fun i => n - i) (fun i => [ob_J y 6 [.int th, .int (nI hh), .int r0, .int r1, .int r2, .int r3, .ref mb, .int given, .int mrew, .int (nI sz), .ref mk, .ref mc, .ref ms, .ref md, .ref mf, .ref mst, .ref mth, .ref mdr, .ref mw, .ref msh, .ref mpo, .ref mpa, .ref mde, .ref mj], ar_L mpa cJ 10 fpa, ar_I mde cI 10 fde]) (fun i => [(0, .ref y), (1, .int (nI am)), (2, .int (nI n)), (3, .long (lN (sN_ pp i))), (5, .int (nI i))]) (fun i => (i ≤ n)) ?_ 0 (show (0 ≤ n) from by omega) hP hD hS hl
  intro i H locs ls hF hP hD hS hl ih_5
  have hF : (i ≤ n) := hF
  have hi := hF
  have hP : va_P D cl_A [ob_J y 6 [.int th, .int (nI hh), .int r0, .int r1, .int r2, .int r3, .ref mb, .int given, .int mrew, .int (nI sz), .ref mk, .ref mc, .ref ms, .ref md, .ref mf, .ref mst, .ref mth, .ref mdr, .ref mw, .ref msh, .ref mpo, .ref mpa, .ref mde, .ref mj], ar_L mpa cJ 10 fpa, ar_I mde cI 10 fde] H := hP
  have hD : va_D A [ob_J y 6 [.int th, .int (nI hh), .int r0, .int r1, .int r2, .int r3, .ref mb, .int given, .int mrew, .int (nI sz), .ref mk, .ref mc, .ref ms, .ref md, .ref mf, .ref mst, .ref mth, .ref mdr, .ref mw, .ref msh, .ref mpo, .ref mpa, .ref mde, .ref mj], ar_L mpa cJ 10 fpa, ar_I mde cI 10 fde] := hD
  have hl : lv_has ls 12 [(0, .ref y), (1, .int (nI am)), (2, .int (nI n)), (3, .long (lN (sN_ pp i))), (5, .int (nI i))] := hl
  refine lv_iload hx hb dX6_deal_5 (lv_at hl 4 rfl) ?_
  refine lv_iload_n hx hb dX6_deal_7 rfl (lv_at hl 2 rfl) ?_
  refine lv_icmp_ge (tgt := 27) hx hb dX6_deal_8 (by decide) (fun c_8 => ?_) (fun c_8 => ?_)
  · have c_8 := qq_ge (a := i) (b := n) c_8 (by omega) (by omega)
    obtain rfl : n = i := by omega
    have hTb : sN_ pp n ≤ n * 2000000 := sN_bd (fun k hk => (hpp k hk).2)
    refine lv_iload_n hx hb dX6_deal_27 rfl (lv_at hl 1 rfl) ?_
    refine lv_istore (lv' := [(5, .int (nI am)), (0, .ref y), (1, .int (nI am)), (2, .int (nI n)), (3, .long (lN (sN_ pp n)))]) hx hb dX6_deal_28 hl (by decide) rfl (fun ls hl => ?_)
    refine lv_iconst (v := 0) hx hb dX6_deal_30 (by decide) ?_
    refine lv_istore (lv' := [(6, .int 0), (5, .int (nI am)), (0, .ref y), (1, .int (nI am)), (2, .int (nI n)), (3, .long (lN (sN_ pp n)))]) hx hb dX6_deal_31 hl (by decide) rfl (fun ls hl => ?_)
    have q_3 : fde = (se_v fde (fun k => nI (qo_ am pp (sN_ pp n) k)) 0) := se_0 _ _
    obtain ⟨hP, hD⟩ := cs_W (fun z_z => [ob_J y 6 [.int th, .int (nI hh), .int r0, .int r1, .int r2, .int r3, .ref mb, .int given, .int mrew, .int (nI sz), .ref mk, .ref mc, .ref ms, .ref md, .ref mf, .ref mst, .ref mth, .ref mdr, .ref mw, .ref msh, .ref mpo, .ref mpa, .ref mde, .ref mj], ar_L mpa cJ 10 fpa, ar_I mde cI 10 z_z]) q_3 hP hD
    have hl := lv_sub (l' := [(0, .ref y), (1, .int (nI am)), (2, .int (nI n)), (3, .long (lN (sN_ pp n))), (5, .int (nI am)), (6, .int 0)]) hl [2, 3, 4, 5, 1, 0] rfl
    have q_4 : (nI am) = (nI (am - sN_ (qo_ am pp (sN_ pp n)) 0)) := rfl
    have hl := cs_L (fun z_z => [(0, .ref y), (1, .int (nI am)), (2, .int (nI n)), (3, .long (lN (sN_ pp n))), (5, .int z_z), (6, .int 0)]) q_4 hl
    have q_5 : 0 = (nI 0) := rfl
    have hl := cs_L (fun z_z => [(0, .ref y), (1, .int (nI am)), (2, .int (nI n)), (3, .long (lN (sN_ pp n))), (5, .int (nI (am - sN_ (qo_ am pp (sN_ pp n)) 0))), (6, .int z_z)]) q_5 hl
    have hl : lv_has ls 12 [(0, .ref y), (1, .int (nI am)), (2, .int (nI n)), (3, .long (lN (sN_ pp n))), (5, .int (nI (am - sN_ (qo_ am pp (sN_ pp n)) 0))), (6, .int (nI 0))] := hl
    refine lp_g (σ := Nat) (fun i => n - i) (fun i => [ob_J y 6 [.int th, .int (nI hh), .int r0, .int r1, .int r2, .int r3, .ref mb, .int given, .int mrew, .int (nI sz), .ref mk, .ref mc, .ref ms, .ref md, .ref mf, .ref mst, .ref mth, .ref mdr, .ref mw, .ref msh, .ref mpo, .ref mpa, .ref mde, .ref mj], ar_L mpa cJ 10 fpa, ar_I mde cI 10 (se_v fde (fun k => nI (qo_ am pp (sN_ pp n) k)) i)]) (fun i => [(0, .ref y), (1, .int (nI am)), (2, .int (nI n)), (3, .long (lN (sN_ pp n))), (5, .int (nI (am - sN_ (qo_ am pp (sN_ pp n)) i))), (6, .int (nI i))]) (fun i => (i ≤ n)) ?_ 0 (show (0 ≤ n) from by omega) hP hD hS hl
    intro i H locs ls hF hP hD hS hl ih_33
    have hF : (i ≤ n) := hF
    have hi := hF
    have hP : va_P D cl_A [ob_J y 6 [.int th, .int (nI hh), .int r0, .int r1, .int r2, .int r3, .ref mb, .int given, .int mrew, .int (nI sz), .ref mk, .ref mc, .ref ms, .ref md, .ref mf, .ref mst, .ref mth, .ref mdr, .ref mw, .ref msh, .ref mpo, .ref mpa, .ref mde, .ref mj], ar_L mpa cJ 10 fpa, ar_I mde cI 10 (se_v fde (fun k => nI (qo_ am pp (sN_ pp n) k)) i)] H := hP
    have hD : va_D A [ob_J y 6 [.int th, .int (nI hh), .int r0, .int r1, .int r2, .int r3, .ref mb, .int given, .int mrew, .int (nI sz), .ref mk, .ref mc, .ref ms, .ref md, .ref mf, .ref mst, .ref mth, .ref mdr, .ref mw, .ref msh, .ref mpo, .ref mpa, .ref mde, .ref mj], ar_L mpa cJ 10 fpa, ar_I mde cI 10 (se_v fde (fun k => nI (qo_ am pp (sN_ pp n) k)) i)] := hD
    have hl : lv_has ls 12 [(0, .ref y), (1, .int (nI am)), (2, .int (nI n)), (3, .long (lN (sN_ pp n))), (5, .int (nI (am - sN_ (qo_ am pp (sN_ pp n)) i))), (6, .int (nI i))] := hl
    refine lv_iload hx hb dX6_deal_33 (lv_at hl 5 rfl) ?_
    refine lv_iload_n hx hb dX6_deal_35 rfl (lv_at hl 2 rfl) ?_
    refine lv_icmp_ge (tgt := 77) hx hb dX6_deal_36 (by decide) (fun c_36 => ?_) (fun c_36 => ?_)
    · have c_36 := qq_ge (a := i) (b := n) c_36 (by omega) (by omega)
      obtain rfl : n = i := by omega
      refine lv_iconst (v := 0) hx hb dX6_deal_77 (by decide) ?_
      refine lv_istore (lv' := [(6, .int 0), (0, .ref y), (1, .int (nI am)), (2, .int (nI n)), (3, .long (lN (sN_ pp n))), (5, .int (nI (am - sN_ (qo_ am pp (sN_ pp n)) n)))]) hx hb dX6_deal_78 hl (by decide) rfl (fun ls hl => ?_)
      have hlf : lf_ am pp n ≤ n := lf_le hT
      have q_6 : (se_v fde (fun k => nI (qo_ am pp (sN_ pp n) k)) n) = (gj_ fde am pp n 0) := gj_0b _ _ _ _
      obtain ⟨hP, hD⟩ := cs_W (fun z_z => [ob_J y 6 [.int th, .int (nI hh), .int r0, .int r1, .int r2, .int r3, .ref mb, .int given, .int mrew, .int (nI sz), .ref mk, .ref mc, .ref ms, .ref md, .ref mf, .ref mst, .ref mth, .ref mdr, .ref mw, .ref msh, .ref mpo, .ref mpa, .ref mde, .ref mj], ar_L mpa cJ 10 fpa, ar_I mde cI 10 z_z]) q_6 hP hD
      have hl := lv_sub (l' := [(0, .ref y), (1, .int (nI am)), (2, .int (nI n)), (3, .long (lN (sN_ pp n))), (5, .int (nI (am - sN_ (qo_ am pp (sN_ pp n)) n))), (6, .int 0)]) hl [1, 2, 3, 4, 5, 0] rfl
      have q_7 : (nI (am - sN_ (qo_ am pp (sN_ pp n)) n)) = (nI (lf_ am pp n)) := rfl
      have hl := cs_L (fun z_z => [(0, .ref y), (1, .int (nI am)), (2, .int (nI n)), (3, .long (lN (sN_ pp n))), (5, .int z_z), (6, .int 0)]) q_7 hl
      have q_8 : 0 = (nI 0) := rfl
      have hl := cs_L (fun z_z => [(0, .ref y), (1, .int (nI am)), (2, .int (nI n)), (3, .long (lN (sN_ pp n))), (5, .int (nI (lf_ am pp n))), (6, .int z_z)]) q_8 hl
      have hl : lv_has ls 12 [(0, .ref y), (1, .int (nI am)), (2, .int (nI n)), (3, .long (lN (sN_ pp n))), (5, .int (nI (lf_ am pp n))), (6, .int (nI 0))] := hl
      refine lp_g (σ := Nat) (fun i => n - i) (fun i => [ob_J y 6 [.int th, .int (nI hh), .int r0, .int r1, .int r2, .int r3, .ref mb, .int given, .int mrew, .int (nI sz), .ref mk, .ref mc, .ref ms, .ref md, .ref mf, .ref mst, .ref mth, .ref mdr, .ref mw, .ref msh, .ref mpo, .ref mpa, .ref mde, .ref mj], ar_L mpa cJ 10 fpa, ar_I mde cI 10 (gj_ fde am pp n i)]) (fun i => [(0, .ref y), (1, .int (nI am)), (2, .int (nI n)), (3, .long (lN (sN_ pp n))), (5, .int (nI (lf_ am pp n))), (6, .int (nI i))]) (fun i => (i ≤ lf_ am pp n)) ?_ 0 (show (0 ≤ lf_ am pp n) from by omega) hP hD hS hl
      intro i H locs ls hF hP hD hS hl ih_80
      have hF : (i ≤ lf_ am pp n) := hF
      have hi := hF
      have hP : va_P D cl_A [ob_J y 6 [.int th, .int (nI hh), .int r0, .int r1, .int r2, .int r3, .ref mb, .int given, .int mrew, .int (nI sz), .ref mk, .ref mc, .ref ms, .ref md, .ref mf, .ref mst, .ref mth, .ref mdr, .ref mw, .ref msh, .ref mpo, .ref mpa, .ref mde, .ref mj], ar_L mpa cJ 10 fpa, ar_I mde cI 10 (gj_ fde am pp n i)] H := hP
      have hD : va_D A [ob_J y 6 [.int th, .int (nI hh), .int r0, .int r1, .int r2, .int r3, .ref mb, .int given, .int mrew, .int (nI sz), .ref mk, .ref mc, .ref ms, .ref md, .ref mf, .ref mst, .ref mth, .ref mdr, .ref mw, .ref msh, .ref mpo, .ref mpa, .ref mde, .ref mj], ar_L mpa cJ 10 fpa, ar_I mde cI 10 (gj_ fde am pp n i)] := hD
      have hl : lv_has ls 12 [(0, .ref y), (1, .int (nI am)), (2, .int (nI n)), (3, .long (lN (sN_ pp n))), (5, .int (nI (lf_ am pp n))), (6, .int (nI i))] := hl
      refine lv_iload hx hb dX6_deal_80 (lv_at hl 5 rfl) ?_
      refine lv_iload hx hb dX6_deal_82 (lv_at hl 4 rfl) ?_
      refine lv_icmp_ge (tgt := 218) hx hb dX6_deal_84 (by decide) (fun c_84 => ?_) (fun c_84 => ?_)
      · have c_84 := qq_ge (a := i) (b := lf_ am pp n) c_84 (by omega) (by omega)
        have q_9 : (gj_ fde am pp n i) = (se_v fde (fun k => nI (sh_ am pp n k)) n) := by rw [show i = lf_ am pp n by omega]; exact gj_e hT
        obtain ⟨hP, hD⟩ := cs_W (fun z_z => [ob_J y 6 [.int th, .int (nI hh), .int r0, .int r1, .int r2, .int r3, .ref mb, .int given, .int mrew, .int (nI sz), .ref mk, .ref mc, .ref ms, .ref md, .ref mf, .ref mst, .ref mth, .ref mdr, .ref mw, .ref msh, .ref mpo, .ref mpa, .ref mde, .ref mj], ar_L mpa cJ 10 fpa, ar_I mde cI 10 z_z]) q_9 hP hD
        exact re_V (w1 := fun u_u : Unit => [ob_J y 6 [.int th, .int (nI hh), .int r0, .int r1, .int r2, .int r3, .ref mb, .int given, .int mrew, .int (nI sz), .ref mk, .ref mc, .ref ms, .ref md, .ref mf, .ref mst, .ref mth, .ref mdr, .ref mw, .ref msh, .ref mpo, .ref mpa, .ref mde, .ref mj], ar_L mpa cJ 10 fpa, ar_I mde cI 10 (se_v fde (fun k => nI (sh_ am pp n k)) n)]) hx hb hr hlk hK hS () hP hD trivial dX6_deal_218
      · have c_84 := qq_nge (a := i) (b := lf_ am pp n) c_84 (by omega) (by omega)
        refine lv_iconst (v := 0) hx hb dX6_deal_87 (by decide) ?_
        refine lv_istore (lv' := [(7, .int 0), (0, .ref y), (1, .int (nI am)), (2, .int (nI n)), (3, .long (lN (sN_ pp n))), (5, .int (nI (lf_ am pp n))), (6, .int (nI i))]) hx hb dX6_deal_88 hl (by decide) rfl (fun ls hl => ?_)
        have q_10 : (gj_ fde am pp n i) = (se_v (gj_ fde am pp n i) (gj_ fde am pp n (i + 1)) 0) := se_0 _ _
        obtain ⟨hP, hD⟩ := cs_W (fun z_z => [ob_J y 6 [.int th, .int (nI hh), .int r0, .int r1, .int r2, .int r3, .ref mb, .int given, .int mrew, .int (nI sz), .ref mk, .ref mc, .ref ms, .ref md, .ref mf, .ref mst, .ref mth, .ref mdr, .ref mw, .ref msh, .ref mpo, .ref mpa, .ref mde, .ref mj], ar_L mpa cJ 10 fpa, ar_I mde cI 10 z_z]) q_10 hP hD
        have hl := lv_sub (l' := [(0, .ref y), (1, .int (nI am)), (2, .int (nI n)), (3, .long (lN (sN_ pp n))), (5, .int (nI (lf_ am pp n))), (6, .int (nI i)), (7, .int 0)]) hl [1, 2, 3, 4, 5, 6, 0] rfl
        have q_11 : 0 = (nI 0) := rfl
        have hl := cs_L (fun z_z => [(0, .ref y), (1, .int (nI am)), (2, .int (nI n)), (3, .long (lN (sN_ pp n))), (5, .int (nI (lf_ am pp n))), (6, .int (nI i)), (7, .int z_z)]) q_11 hl
        have hl : lv_has ls 12 [(0, .ref y), (1, .int (nI am)), (2, .int (nI n)), (3, .long (lN (sN_ pp n))), (5, .int (nI (lf_ am pp n))), (6, .int (nI i)), (7, .int (nI 0))] := hl
        refine lp_g (σ := Nat) (fun k => n - k) (fun k => [ob_J y 6 [.int th, .int (nI hh), .int r0, .int r1, .int r2, .int r3, .ref mb, .int given, .int mrew, .int (nI sz), .ref mk, .ref mc, .ref ms, .ref md, .ref mf, .ref mst, .ref mth, .ref mdr, .ref mw, .ref msh, .ref mpo, .ref mpa, .ref mde, .ref mj], ar_L mpa cJ 10 fpa, ar_I mde cI 10 (se_v (gj_ fde am pp n i) (gj_ fde am pp n (i + 1)) k)]) (fun k => [(0, .ref y), (1, .int (nI am)), (2, .int (nI n)), (3, .long (lN (sN_ pp n))), (5, .int (nI (lf_ am pp n))), (6, .int (nI i)), (7, .int (nI k))]) (fun k => (k ≤ n)) ?_ 0 (show (0 ≤ n) from by omega) hP hD hS hl
        intro k H locs ls hF hP hD hS hl ih_90
        have hF : (k ≤ n) := hF
        have hk := hF
        have hP : va_P D cl_A [ob_J y 6 [.int th, .int (nI hh), .int r0, .int r1, .int r2, .int r3, .ref mb, .int given, .int mrew, .int (nI sz), .ref mk, .ref mc, .ref ms, .ref md, .ref mf, .ref mst, .ref mth, .ref mdr, .ref mw, .ref msh, .ref mpo, .ref mpa, .ref mde, .ref mj], ar_L mpa cJ 10 fpa, ar_I mde cI 10 (se_v (gj_ fde am pp n i) (gj_ fde am pp n (i + 1)) k)] H := hP
        have hD : va_D A [ob_J y 6 [.int th, .int (nI hh), .int r0, .int r1, .int r2, .int r3, .ref mb, .int given, .int mrew, .int (nI sz), .ref mk, .ref mc, .ref ms, .ref md, .ref mf, .ref mst, .ref mth, .ref mdr, .ref mw, .ref msh, .ref mpo, .ref mpa, .ref mde, .ref mj], ar_L mpa cJ 10 fpa, ar_I mde cI 10 (se_v (gj_ fde am pp n i) (gj_ fde am pp n (i + 1)) k)] := hD
        have hl : lv_has ls 12 [(0, .ref y), (1, .int (nI am)), (2, .int (nI n)), (3, .long (lN (sN_ pp n))), (5, .int (nI (lf_ am pp n))), (6, .int (nI i)), (7, .int (nI k))] := hl
        refine lv_iload hx hb dX6_deal_90 (lv_at hl 6 rfl) ?_
        refine lv_iload_n hx hb dX6_deal_92 rfl (lv_at hl 2 rfl) ?_
        refine lv_icmp_ge (tgt := 212) hx hb dX6_deal_93 (by decide) (fun c_93 => ?_) (fun c_93 => ?_)
        · have c_93 := qq_ge (a := k) (b := n) c_93 (by omega) (by omega)
          obtain rfl : n = k := by omega
          refine lv_iinc (v := nI (i + 1)) (lv' := [(6, .int (nI (i + 1))), (0, .ref y), (1, .int (nI am)), (2, .int (nI n)), (3, .long (lN (sN_ pp n))), (5, .int (nI (lf_ am pp n))), (7, .int (nI n))]) hx hb dX6_deal_212 hl (k := 5) rfl (nI_1 _) (by decide) rfl (fun ls hl => ?_)
          refine lv_goto (tgt := 80) hx hb dX6_deal_215 (by decide) ?_
          have q_12 : (se_v (gj_ fde am pp n i) (gj_ fde am pp n (i + 1)) n) = (gj_ fde am pp n (i + 1)) := gj_nn
          obtain ⟨hP, hD⟩ := cs_W (fun z_z => [ob_J y 6 [.int th, .int (nI hh), .int r0, .int r1, .int r2, .int r3, .ref mb, .int given, .int mrew, .int (nI sz), .ref mk, .ref mc, .ref ms, .ref md, .ref mf, .ref mst, .ref mth, .ref mdr, .ref mw, .ref msh, .ref mpo, .ref mpa, .ref mde, .ref mj], ar_L mpa cJ 10 fpa, ar_I mde cI 10 z_z]) q_12 hP hD
          have hl := lv_sub (l' := [(0, .ref y), (1, .int (nI am)), (2, .int (nI n)), (3, .long (lN (sN_ pp n))), (5, .int (nI (lf_ am pp n))), (6, .int (nI (i + 1)))]) hl [1, 2, 3, 4, 5, 0] rfl
          have hl : lv_has ls 12 [(0, .ref y), (1, .int (nI am)), (2, .int (nI n)), (3, .long (lN (sN_ pp n))), (5, .int (nI (lf_ am pp n))), (6, .int (nI (i + 1)))] := hl
          exact ih_80 (i + 1) (show n - (i + 1) < n - i from by omega) (show ((i + 1) ≤ lf_ am pp n) from by omega) H locs ls hP hD hS hl
        · have c_93 := qq_nge (a := k) (b := n) c_93 (by omega) (by omega)
          refine lv_iconst (v := 0) hx hb dX6_deal_96 (by decide) ?_
          refine lv_istore (lv' := [(8, .int 0), (0, .ref y), (1, .int (nI am)), (2, .int (nI n)), (3, .long (lN (sN_ pp n))), (5, .int (nI (lf_ am pp n))), (6, .int (nI i)), (7, .int (nI k))]) hx hb dX6_deal_97 hl (by decide) rfl (fun ls hl => ?_)
          refine lv_iconst (v := 0) hx hb dX6_deal_99 (by decide) ?_
          refine lv_istore (lv' := [(9, .int 0), (8, .int 0), (0, .ref y), (1, .int (nI am)), (2, .int (nI n)), (3, .long (lN (sN_ pp n))), (5, .int (nI (lf_ am pp n))), (6, .int (nI i)), (7, .int (nI k))]) hx hb dX6_deal_100 hl (by decide) rfl (fun ls hl => ?_)
          have hl := lv_sub (l' := [(0, .ref y), (1, .int (nI am)), (2, .int (nI n)), (3, .long (lN (sN_ pp n))), (5, .int (nI (lf_ am pp n))), (6, .int (nI i)), (7, .int (nI k)), (8, .int 0), (9, .int 0)]) hl [2, 3, 4, 5, 6, 7, 8, 1, 0] rfl
          have q_13 : 0 = (nI (cn_ (fun z => ah_ (re_ am pp (sN_ pp n)) z k) 0)) := rfl
          have hl := cs_L (fun z_z => [(0, .ref y), (1, .int (nI am)), (2, .int (nI n)), (3, .long (lN (sN_ pp n))), (5, .int (nI (lf_ am pp n))), (6, .int (nI i)), (7, .int (nI k)), (8, .int z_z), (9, .int 0)]) q_13 hl
          have q_14 : 0 = (nI 0) := rfl
          have hl := cs_L (fun z_z => [(0, .ref y), (1, .int (nI am)), (2, .int (nI n)), (3, .long (lN (sN_ pp n))), (5, .int (nI (lf_ am pp n))), (6, .int (nI i)), (7, .int (nI k)), (8, .int (nI (cn_ (fun z => ah_ (re_ am pp (sN_ pp n)) z k) 0))), (9, .int z_z)]) q_14 hl
          have hl : lv_has ls 12 [(0, .ref y), (1, .int (nI am)), (2, .int (nI n)), (3, .long (lN (sN_ pp n))), (5, .int (nI (lf_ am pp n))), (6, .int (nI i)), (7, .int (nI k)), (8, .int (nI (cn_ (fun z => ah_ (re_ am pp (sN_ pp n)) z k) 0))), (9, .int (nI 0))] := hl
          refine lp_g (σ := Nat) (fun m => n - m) (fun m => [ob_J y 6 [.int th, .int (nI hh), .int r0, .int r1, .int r2, .int r3, .ref mb, .int given, .int mrew, .int (nI sz), .ref mk, .ref mc, .ref ms, .ref md, .ref mf, .ref mst, .ref mth, .ref mdr, .ref mw, .ref msh, .ref mpo, .ref mpa, .ref mde, .ref mj], ar_L mpa cJ 10 fpa, ar_I mde cI 10 (se_v (gj_ fde am pp n i) (gj_ fde am pp n (i + 1)) k)]) (fun m => [(0, .ref y), (1, .int (nI am)), (2, .int (nI n)), (3, .long (lN (sN_ pp n))), (5, .int (nI (lf_ am pp n))), (6, .int (nI i)), (7, .int (nI k)), (8, .int (nI (cn_ (fun z => ah_ (re_ am pp (sN_ pp n)) z k) m))), (9, .int (nI m))]) (fun m => (m ≤ n)) ?_ 0 (show (0 ≤ n) from by omega) hP hD hS hl
          intro m H locs ls hF hP hD hS hl ih_102
          have hF : (m ≤ n) := hF
          have hm := hF
          have hP : va_P D cl_A [ob_J y 6 [.int th, .int (nI hh), .int r0, .int r1, .int r2, .int r3, .ref mb, .int given, .int mrew, .int (nI sz), .ref mk, .ref mc, .ref ms, .ref md, .ref mf, .ref mst, .ref mth, .ref mdr, .ref mw, .ref msh, .ref mpo, .ref mpa, .ref mde, .ref mj], ar_L mpa cJ 10 fpa, ar_I mde cI 10 (se_v (gj_ fde am pp n i) (gj_ fde am pp n (i + 1)) k)] H := hP
          have hD : va_D A [ob_J y 6 [.int th, .int (nI hh), .int r0, .int r1, .int r2, .int r3, .ref mb, .int given, .int mrew, .int (nI sz), .ref mk, .ref mc, .ref ms, .ref md, .ref mf, .ref mst, .ref mth, .ref mdr, .ref mw, .ref msh, .ref mpo, .ref mpa, .ref mde, .ref mj], ar_L mpa cJ 10 fpa, ar_I mde cI 10 (se_v (gj_ fde am pp n i) (gj_ fde am pp n (i + 1)) k)] := hD
          have hl : lv_has ls 12 [(0, .ref y), (1, .int (nI am)), (2, .int (nI n)), (3, .long (lN (sN_ pp n))), (5, .int (nI (lf_ am pp n))), (6, .int (nI i)), (7, .int (nI k)), (8, .int (nI (cn_ (fun z => ah_ (re_ am pp (sN_ pp n)) z k) m))), (9, .int (nI m))] := hl
          refine lv_iload hx hb dX6_deal_102 (lv_at hl 8 rfl) ?_
          refine lv_iload_n hx hb dX6_deal_104 rfl (lv_at hl 2 rfl) ?_
          refine lv_icmp_ge (tgt := 173) hx hb dX6_deal_105 (by decide) (fun c_105 => ?_) (fun c_105 => ?_)
          · have c_105 := qq_ge (a := m) (b := n) c_105 (by omega) (by omega)
            obtain rfl : n = m := by omega
            have hrk : cn_ (fun z => ah_ (re_ am pp (sN_ pp n)) z k) n < n := rk_n (r := re_ am pp (sN_ pp n)) (by omega)
            refine lv_aload_n hx hb dX6_deal_173 rfl (lv_at hl 0 rfl) ?_
            refine va_get (ci := 6) (v := .ref mde) (C := RX6) (T := TX6) (N := 24) hx hb hts bi_6 hown hK hP 0 rfl rfl 22 (by decide) (hts _ bw_427) (fun _ h9 => h9) rfl dX6_deal_174 ?_
            refine lv_iload hx hb dX6_deal_177 (lv_at hl 6 rfl) ?_
            refine lv_iload hx hb dX6_deal_179 (lv_at hl 7 rfl) ?_
            refine lv_iload hx hb dX6_deal_181 (lv_at hl 5 rfl) ?_
            refine lv_icmp_ne (tgt := 198) hx hb dX6_deal_183 (by decide) (fun c_183 => ?_) (fun c_183 => ?_)
            · have c_183 := qq_ne (a := cn_ (fun z => ah_ (re_ am pp (sN_ pp n)) z k) n) (b := i) c_183 (by omega) (by omega)
              refine lv_aload_n hx hb dX6_deal_198 rfl (lv_at hl 0 rfl) ?_
              refine va_get (ci := 6) (v := .ref mde) (C := RX6) (T := TX6) (N := 24) hx hb hts bi_6 hown hK hP 0 rfl rfl 22 (by decide) (hts _ bw_427) (fun _ h9 => h9) rfl dX6_deal_199 ?_
              refine lv_iload hx hb dX6_deal_202 (lv_at hl 6 rfl) ?_
              refine ar_ld hx hb hK hP 2 (k := k) rfl rfl (by omega) (by decide) dX6_deal_204 ?_
              refine tp_i (x' := gj_ fde am pp n i k) (se_i _ _ _) ?_
              refine ar_st hx hb hK hP hD hS 2 (k := k) rfl rfl (by omega) (by decide) dX6_deal_205 _ rfl (fun H locs hP hD hS => ?_)
              have hP : va_P D cl_A [ob_J y 6 [.int th, .int (nI hh), .int r0, .int r1, .int r2, .int r3, .ref mb, .int given, .int mrew, .int (nI sz), .ref mk, .ref mc, .ref ms, .ref md, .ref mf, .ref mst, .ref mth, .ref mdr, .ref mw, .ref msh, .ref mpo, .ref mpa, .ref mde, .ref mj], ar_L mpa cJ 10 fpa, ar_I mde cI 10 (upd (se_v (gj_ fde am pp n i) (gj_ fde am pp n (i + 1)) k) k (gj_ fde am pp n i k))] H := hP
              have hD : va_D A [ob_J y 6 [.int th, .int (nI hh), .int r0, .int r1, .int r2, .int r3, .ref mb, .int given, .int mrew, .int (nI sz), .ref mk, .ref mc, .ref ms, .ref md, .ref mf, .ref mst, .ref mth, .ref mdr, .ref mw, .ref msh, .ref mpo, .ref mpa, .ref mde, .ref mj], ar_L mpa cJ 10 fpa, ar_I mde cI 10 (upd (se_v (gj_ fde am pp n i) (gj_ fde am pp n (i + 1)) k) k (gj_ fde am pp n i k))] := hD
              refine lv_iinc (v := nI (k + 1)) (lv' := [(7, .int (nI (k + 1))), (0, .ref y), (1, .int (nI am)), (2, .int (nI n)), (3, .long (lN (sN_ pp n))), (5, .int (nI (lf_ am pp n))), (6, .int (nI i)), (8, .int (nI (cn_ (fun z => ah_ (re_ am pp (sN_ pp n)) z k) n))), (9, .int (nI n))]) hx hb dX6_deal_206 hl (k := 6) rfl (nI_1 _) (by decide) rfl (fun ls hl => ?_)
              refine lv_goto (tgt := 90) hx hb dX6_deal_209 (by decide) ?_
              have q_15 : (upd (se_v (gj_ fde am pp n i) (gj_ fde am pp n (i + 1)) k) k (gj_ fde am pp n i k)) = (se_v (gj_ fde am pp n i) (gj_ fde am pp n (i + 1)) (k + 1)) := se_x (gj_k0 c_183)
              obtain ⟨hP, hD⟩ := cs_W (fun z_z => [ob_J y 6 [.int th, .int (nI hh), .int r0, .int r1, .int r2, .int r3, .ref mb, .int given, .int mrew, .int (nI sz), .ref mk, .ref mc, .ref ms, .ref md, .ref mf, .ref mst, .ref mth, .ref mdr, .ref mw, .ref msh, .ref mpo, .ref mpa, .ref mde, .ref mj], ar_L mpa cJ 10 fpa, ar_I mde cI 10 z_z]) q_15 hP hD
              have hl := lv_sub (l' := [(0, .ref y), (1, .int (nI am)), (2, .int (nI n)), (3, .long (lN (sN_ pp n))), (5, .int (nI (lf_ am pp n))), (6, .int (nI i)), (7, .int (nI (k + 1)))]) hl [1, 2, 3, 4, 5, 6, 0] rfl
              have hl : lv_has ls 12 [(0, .ref y), (1, .int (nI am)), (2, .int (nI n)), (3, .long (lN (sN_ pp n))), (5, .int (nI (lf_ am pp n))), (6, .int (nI i)), (7, .int (nI (k + 1)))] := hl
              exact ih_90 (k + 1) (show n - (k + 1) < n - k from by omega) (show ((k + 1) ≤ n) from by omega) H locs ls hP hD hS hl
            · have c_183 := qq_eq (a := cn_ (fun z => ah_ (re_ am pp (sN_ pp n)) z k) n) (b := i) c_183 (by omega) (by omega)
              refine lv_aload_n hx hb dX6_deal_186 rfl (lv_at hl 0 rfl) ?_
              refine va_get (ci := 6) (v := .ref mde) (C := RX6) (T := TX6) (N := 24) hx hb hts bi_6 hown hK hP 0 rfl rfl 22 (by decide) (hts _ bw_427) (fun _ h9 => h9) rfl dX6_deal_187 ?_
              refine lv_iload hx hb dX6_deal_190 (lv_at hl 6 rfl) ?_
              refine ar_ld hx hb hK hP 2 (k := k) rfl rfl (by omega) (by decide) dX6_deal_192 ?_
              refine tp_i (x' := gj_ fde am pp n i k) (se_i _ _ _) ?_
              refine lv_iconst (v := 1) hx hb dX6_deal_193 (by decide) ?_
              refine lv_iadd hx hb dX6_deal_194 ?_
              refine lv_goto (tgt := 205) hx hb dX6_deal_195 (by decide) ?_
              refine ar_st hx hb hK hP hD hS 2 (k := k) rfl rfl (by omega) (by decide) dX6_deal_205 _ rfl (fun H locs hP hD hS => ?_)
              have hP : va_P D cl_A [ob_J y 6 [.int th, .int (nI hh), .int r0, .int r1, .int r2, .int r3, .ref mb, .int given, .int mrew, .int (nI sz), .ref mk, .ref mc, .ref ms, .ref md, .ref mf, .ref mst, .ref mth, .ref mdr, .ref mw, .ref msh, .ref mpo, .ref mpa, .ref mde, .ref mj], ar_L mpa cJ 10 fpa, ar_I mde cI 10 (upd (se_v (gj_ fde am pp n i) (gj_ fde am pp n (i + 1)) k) k ((gj_ fde am pp n i k) + 1))] H := hP
              have hD : va_D A [ob_J y 6 [.int th, .int (nI hh), .int r0, .int r1, .int r2, .int r3, .ref mb, .int given, .int mrew, .int (nI sz), .ref mk, .ref mc, .ref ms, .ref md, .ref mf, .ref mst, .ref mth, .ref mdr, .ref mw, .ref msh, .ref mpo, .ref mpa, .ref mde, .ref mj], ar_L mpa cJ 10 fpa, ar_I mde cI 10 (upd (se_v (gj_ fde am pp n i) (gj_ fde am pp n (i + 1)) k) k ((gj_ fde am pp n i k) + 1))] := hD
              refine lv_iinc (v := nI (k + 1)) (lv' := [(7, .int (nI (k + 1))), (0, .ref y), (1, .int (nI am)), (2, .int (nI n)), (3, .long (lN (sN_ pp n))), (5, .int (nI (lf_ am pp n))), (6, .int (nI i)), (8, .int (nI (cn_ (fun z => ah_ (re_ am pp (sN_ pp n)) z k) n))), (9, .int (nI n))]) hx hb dX6_deal_206 hl (k := 6) rfl (nI_1 _) (by decide) rfl (fun ls hl => ?_)
              refine lv_goto (tgt := 90) hx hb dX6_deal_209 (by decide) ?_
              have q_16 : (upd (se_v (gj_ fde am pp n i) (gj_ fde am pp n (i + 1)) k) k ((gj_ fde am pp n i k) + 1)) = (se_v (gj_ fde am pp n i) (gj_ fde am pp n (i + 1)) (k + 1)) := se_x (gj_k1 (by omega) c_183)
              obtain ⟨hP, hD⟩ := cs_W (fun z_z => [ob_J y 6 [.int th, .int (nI hh), .int r0, .int r1, .int r2, .int r3, .ref mb, .int given, .int mrew, .int (nI sz), .ref mk, .ref mc, .ref ms, .ref md, .ref mf, .ref mst, .ref mth, .ref mdr, .ref mw, .ref msh, .ref mpo, .ref mpa, .ref mde, .ref mj], ar_L mpa cJ 10 fpa, ar_I mde cI 10 z_z]) q_16 hP hD
              have hl := lv_sub (l' := [(0, .ref y), (1, .int (nI am)), (2, .int (nI n)), (3, .long (lN (sN_ pp n))), (5, .int (nI (lf_ am pp n))), (6, .int (nI i)), (7, .int (nI (k + 1)))]) hl [1, 2, 3, 4, 5, 6, 0] rfl
              have hl : lv_has ls 12 [(0, .ref y), (1, .int (nI am)), (2, .int (nI n)), (3, .long (lN (sN_ pp n))), (5, .int (nI (lf_ am pp n))), (6, .int (nI i)), (7, .int (nI (k + 1)))] := hl
              exact ih_90 (k + 1) (show n - (k + 1) < n - k from by omega) (show ((k + 1) ≤ n) from by omega) H locs ls hP hD hS hl
          · have c_105 := qq_nge (a := m) (b := n) c_105 (by omega) (by omega)
            refine lv_iload_n hx hb dX6_deal_108 rfl (lv_at hl 1 rfl) ?_
            refine lv_i2l (v := lN am) hx hb dX6_deal_109 (nI_l (n := am) (by omega)) ?_
            refine lv_aload_n hx hb dX6_deal_110 rfl (lv_at hl 0 rfl) ?_
            refine va_get (ci := 6) (v := .ref mpa) (C := RX6) (T := TX6) (N := 24) hx hb hts bi_6 hown hK hP 0 rfl rfl 21 (by decide) (hts _ bw_426) (fun _ h9 => h9) rfl dX6_deal_111 ?_
            refine lv_iload hx hb dX6_deal_114 (lv_at hl 8 rfl) ?_
            refine ar_lld hx hb hK hP 1 (k := m) rfl rfl (by omega) (by decide) dX6_deal_116 ?_
            refine tp_l (x' := lN (pp m)) ((hpp m (by omega)).1) ?_
            have hmb : am * pp m ≤ 10000 * 2000000 := Nat.mul_le_mul ham (hpp m (by omega)).2
            refine lv_lmul hx hb dX6_deal_117 ?_
            refine tp_l (x' := lN (am * (pp m))) (lN_mul _ _) ?_
            refine lv_lload_n hx hb dX6_deal_118 rfl (lv_at hl 3 rfl) ?_
            refine lv_lrem hx hb dX6_deal_119 (ln_ne hT (by omega)) ?_
            refine tp_l (x' := lN ((am * (pp m)) % (sN_ pp n))) (pk_lRem (by omega) (hT) (by omega)) ?_
            refine lv_iload_n hx hb dX6_deal_120 rfl (lv_at hl 1 rfl) ?_
            refine lv_i2l (v := lN am) hx hb dX6_deal_121 (nI_l (n := am) (by omega)) ?_
            refine lv_aload_n hx hb dX6_deal_122 rfl (lv_at hl 0 rfl) ?_
            refine va_get (ci := 6) (v := .ref mpa) (C := RX6) (T := TX6) (N := 24) hx hb hts bi_6 hown hK hP 0 rfl rfl 21 (by decide) (hts _ bw_426) (fun _ h9 => h9) rfl dX6_deal_123 ?_
            refine lv_iload hx hb dX6_deal_126 (lv_at hl 6 rfl) ?_
            refine ar_lld hx hb hK hP 1 (k := k) rfl rfl (by omega) (by decide) dX6_deal_128 ?_
            refine tp_l (x' := lN (pp k)) ((hpp k (by omega)).1) ?_
            have hkb : am * pp k ≤ 10000 * 2000000 := Nat.mul_le_mul ham (hpp k (by omega)).2
            refine lv_lmul hx hb dX6_deal_129 ?_
            refine tp_l (x' := lN (am * (pp k))) (lN_mul _ _) ?_
            refine lv_lload_n hx hb dX6_deal_130 rfl (lv_at hl 3 rfl) ?_
            refine lv_lrem hx hb dX6_deal_131 (ln_ne hT (by omega)) ?_
            refine tp_l (x' := lN ((am * (pp k)) % (sN_ pp n))) (pk_lRem (by omega) (hT) (by omega)) ?_
            have hr1 : re_ am pp (sN_ pp n) m < sN_ pp n := Nat.mod_lt _ hT
            have hr2 : re_ am pp (sN_ pp n) k < sN_ pp n := Nat.mod_lt _ hT
            have hr3 : am * pp m % sN_ pp n < sN_ pp n := Nat.mod_lt _ hT
            have hr4 : am * pp k % sN_ pp n < sN_ pp n := Nat.mod_lt _ hT
            refine lv_lsub hx hb dX6_deal_132 ?_
            refine lv_lstore (lv' := [(10, .long ((lN ((am * (pp m)) % (sN_ pp n))) - (lN ((am * (pp k)) % (sN_ pp n))))), (0, .ref y), (1, .int (nI am)), (2, .int (nI n)), (3, .long (lN (sN_ pp n))), (5, .int (nI (lf_ am pp n))), (6, .int (nI i)), (7, .int (nI k)), (8, .int (nI (cn_ (fun z => ah_ (re_ am pp (sN_ pp n)) z k) m))), (9, .int (nI m))]) hx hb dX6_deal_133 hl (by decide) rfl (fun ls hl => ?_)
            refine lv_lload hx hb dX6_deal_135 (lv_at hl 0 rfl) ?_
            refine lv_lconst (v := lN 0) hx hb dX6_deal_137 (by decide) ?_
            refine W.lcmp hx hb dX6_deal_138 ?_
            refine lv_if_gt (tgt := 156) hx hb dX6_deal_139 (by decide) (fun c_139 => ?_) (fun c_139 => ?_)
            · have c_139 := lc_gt c_139
              have d_139 : re_ am pp (sN_ pp n) k < re_ am pp (sN_ pp n) m := (ls_gt (by omega) (by omega)).mp c_139
              refine lv_iload hx hb dX6_deal_156 (lv_at hl 8 rfl) ?_
              have hcl := cn_le (fun z => ah_ (re_ am pp (sN_ pp n)) z k) m
              refine lv_iconst (v := 1) hx hb dX6_deal_158 (by decide) ?_
              refine lv_iadd hx hb dX6_deal_159 ?_
              refine tp_i (x' := nI ((cn_ (fun z => ah_ (re_ am pp (sN_ pp n)) z k) m) + 1)) (nn_add rfl rfl) ?_
              refine lv_goto (tgt := 165) hx hb dX6_deal_160 (by decide) ?_
              refine lv_istore (lv' := [(8, .int (nI ((cn_ (fun z => ah_ (re_ am pp (sN_ pp n)) z k) m) + 1))), (10, .long ((lN ((am * (pp m)) % (sN_ pp n))) - (lN ((am * (pp k)) % (sN_ pp n))))), (0, .ref y), (1, .int (nI am)), (2, .int (nI n)), (3, .long (lN (sN_ pp n))), (5, .int (nI (lf_ am pp n))), (6, .int (nI i)), (7, .int (nI k)), (9, .int (nI m))]) hx hb dX6_deal_165 hl (by decide) rfl (fun ls hl => ?_)
              refine lv_iinc (v := nI (m + 1)) (lv' := [(9, .int (nI (m + 1))), (8, .int (nI ((cn_ (fun z => ah_ (re_ am pp (sN_ pp n)) z k) m) + 1))), (10, .long ((lN ((am * (pp m)) % (sN_ pp n))) - (lN ((am * (pp k)) % (sN_ pp n))))), (0, .ref y), (1, .int (nI am)), (2, .int (nI n)), (3, .long (lN (sN_ pp n))), (5, .int (nI (lf_ am pp n))), (6, .int (nI i)), (7, .int (nI k))]) hx hb dX6_deal_167 hl (k := 9) rfl (nI_1 _) (by decide) rfl (fun ls hl => ?_)
              refine lv_goto (tgt := 102) hx hb dX6_deal_170 (by decide) ?_
              have hl := lv_sub (l' := [(0, .ref y), (1, .int (nI am)), (2, .int (nI n)), (3, .long (lN (sN_ pp n))), (5, .int (nI (lf_ am pp n))), (6, .int (nI i)), (7, .int (nI k)), (8, .int (nI ((cn_ (fun z => ah_ (re_ am pp (sN_ pp n)) z k) m) + 1))), (9, .int (nI (m + 1)))]) hl [3, 4, 5, 6, 7, 8, 9, 1, 0] rfl
              have q_17 : (nI ((cn_ (fun z => ah_ (re_ am pp (sN_ pp n)) z k) m) + 1)) = (nI (cn_ (fun z => ah_ (re_ am pp (sN_ pp n)) z k) (m + 1))) := congrArg nI (by rw [cn_s, if_pos (ah_1 (Or.inl d_139))])
              have hl := cs_L (fun z_z => [(0, .ref y), (1, .int (nI am)), (2, .int (nI n)), (3, .long (lN (sN_ pp n))), (5, .int (nI (lf_ am pp n))), (6, .int (nI i)), (7, .int (nI k)), (8, .int z_z), (9, .int (nI (m + 1)))]) q_17 hl
              have hl : lv_has ls 12 [(0, .ref y), (1, .int (nI am)), (2, .int (nI n)), (3, .long (lN (sN_ pp n))), (5, .int (nI (lf_ am pp n))), (6, .int (nI i)), (7, .int (nI k)), (8, .int (nI (cn_ (fun z => ah_ (re_ am pp (sN_ pp n)) z k) (m + 1)))), (9, .int (nI (m + 1)))] := hl
              exact ih_102 (m + 1) (show n - (m + 1) < n - m from by omega) (show ((m + 1) ≤ n) from by omega) H locs ls hP hD hS hl
            · have c_139 := lc_ngt c_139
              have d_139 : ¬ re_ am pp (sN_ pp n) k < re_ am pp (sN_ pp n) m := fun z => c_139 ((ls_gt (by omega) (by omega)).mpr z)
              refine lv_lload hx hb dX6_deal_142 (lv_at hl 0 rfl) ?_
              refine lv_lconst (v := lN 0) hx hb dX6_deal_144 (by decide) ?_
              refine W.lcmp hx hb dX6_deal_145 ?_
              refine lv_if_ne (tgt := 163) hx hb dX6_deal_146 (by decide) (fun c_146 => ?_) (fun c_146 => ?_)
              · have c_146 := lc_ne c_146
                have d_146 : ¬ re_ am pp (sN_ pp n) m = re_ am pp (sN_ pp n) k := fun z => c_146 ((ls_eq (by omega) (by omega)).mpr z)
                have hcl := cn_le (fun z => ah_ (re_ am pp (sN_ pp n)) z k) m
                refine lv_iload hx hb dX6_deal_163 (lv_at hl 8 rfl) ?_
                refine lv_istore (lv' := [(8, .int (nI (cn_ (fun z => ah_ (re_ am pp (sN_ pp n)) z k) m))), (10, .long ((lN ((am * (pp m)) % (sN_ pp n))) - (lN ((am * (pp k)) % (sN_ pp n))))), (0, .ref y), (1, .int (nI am)), (2, .int (nI n)), (3, .long (lN (sN_ pp n))), (5, .int (nI (lf_ am pp n))), (6, .int (nI i)), (7, .int (nI k)), (9, .int (nI m))]) hx hb dX6_deal_165 hl (by decide) rfl (fun ls hl => ?_)
                refine lv_iinc (v := nI (m + 1)) (lv' := [(9, .int (nI (m + 1))), (8, .int (nI (cn_ (fun z => ah_ (re_ am pp (sN_ pp n)) z k) m))), (10, .long ((lN ((am * (pp m)) % (sN_ pp n))) - (lN ((am * (pp k)) % (sN_ pp n))))), (0, .ref y), (1, .int (nI am)), (2, .int (nI n)), (3, .long (lN (sN_ pp n))), (5, .int (nI (lf_ am pp n))), (6, .int (nI i)), (7, .int (nI k))]) hx hb dX6_deal_167 hl (k := 9) rfl (nI_1 _) (by decide) rfl (fun ls hl => ?_)
                refine lv_goto (tgt := 102) hx hb dX6_deal_170 (by decide) ?_
                have hl := lv_sub (l' := [(0, .ref y), (1, .int (nI am)), (2, .int (nI n)), (3, .long (lN (sN_ pp n))), (5, .int (nI (lf_ am pp n))), (6, .int (nI i)), (7, .int (nI k)), (8, .int (nI (cn_ (fun z => ah_ (re_ am pp (sN_ pp n)) z k) m))), (9, .int (nI (m + 1)))]) hl [3, 4, 5, 6, 7, 8, 9, 1, 0] rfl
                have q_18 : (nI (cn_ (fun z => ah_ (re_ am pp (sN_ pp n)) z k) m)) = (nI (cn_ (fun z => ah_ (re_ am pp (sN_ pp n)) z k) (m + 1))) := congrArg nI (by rw [cn_s, if_neg (ah_0 (fun z => z.elim d_139 (fun q => d_146 q.1)))]; rfl)
                have hl := cs_L (fun z_z => [(0, .ref y), (1, .int (nI am)), (2, .int (nI n)), (3, .long (lN (sN_ pp n))), (5, .int (nI (lf_ am pp n))), (6, .int (nI i)), (7, .int (nI k)), (8, .int z_z), (9, .int (nI (m + 1)))]) q_18 hl
                have hl : lv_has ls 12 [(0, .ref y), (1, .int (nI am)), (2, .int (nI n)), (3, .long (lN (sN_ pp n))), (5, .int (nI (lf_ am pp n))), (6, .int (nI i)), (7, .int (nI k)), (8, .int (nI (cn_ (fun z => ah_ (re_ am pp (sN_ pp n)) z k) (m + 1)))), (9, .int (nI (m + 1)))] := hl
                exact ih_102 (m + 1) (show n - (m + 1) < n - m from by omega) (show ((m + 1) ≤ n) from by omega) H locs ls hP hD hS hl
              · have c_146 := lc_eq c_146
                have d_146 : re_ am pp (sN_ pp n) m = re_ am pp (sN_ pp n) k := (ls_eq (by omega) (by omega)).mp c_146
                refine lv_iload hx hb dX6_deal_149 (lv_at hl 9 rfl) ?_
                refine lv_iload hx hb dX6_deal_151 (lv_at hl 7 rfl) ?_
                refine lv_icmp_ge (tgt := 163) hx hb dX6_deal_153 (by decide) (fun c_153 => ?_) (fun c_153 => ?_)
                · have c_153 := qq_ge (a := m) (b := k) c_153 (by omega) (by omega)
                  have hcl := cn_le (fun z => ah_ (re_ am pp (sN_ pp n)) z k) m
                  refine lv_iload hx hb dX6_deal_163 (lv_at hl 8 rfl) ?_
                  refine lv_istore (lv' := [(8, .int (nI (cn_ (fun z => ah_ (re_ am pp (sN_ pp n)) z k) m))), (10, .long ((lN ((am * (pp m)) % (sN_ pp n))) - (lN ((am * (pp k)) % (sN_ pp n))))), (0, .ref y), (1, .int (nI am)), (2, .int (nI n)), (3, .long (lN (sN_ pp n))), (5, .int (nI (lf_ am pp n))), (6, .int (nI i)), (7, .int (nI k)), (9, .int (nI m))]) hx hb dX6_deal_165 hl (by decide) rfl (fun ls hl => ?_)
                  refine lv_iinc (v := nI (m + 1)) (lv' := [(9, .int (nI (m + 1))), (8, .int (nI (cn_ (fun z => ah_ (re_ am pp (sN_ pp n)) z k) m))), (10, .long ((lN ((am * (pp m)) % (sN_ pp n))) - (lN ((am * (pp k)) % (sN_ pp n))))), (0, .ref y), (1, .int (nI am)), (2, .int (nI n)), (3, .long (lN (sN_ pp n))), (5, .int (nI (lf_ am pp n))), (6, .int (nI i)), (7, .int (nI k))]) hx hb dX6_deal_167 hl (k := 9) rfl (nI_1 _) (by decide) rfl (fun ls hl => ?_)
                  refine lv_goto (tgt := 102) hx hb dX6_deal_170 (by decide) ?_
                  have hl := lv_sub (l' := [(0, .ref y), (1, .int (nI am)), (2, .int (nI n)), (3, .long (lN (sN_ pp n))), (5, .int (nI (lf_ am pp n))), (6, .int (nI i)), (7, .int (nI k)), (8, .int (nI (cn_ (fun z => ah_ (re_ am pp (sN_ pp n)) z k) m))), (9, .int (nI (m + 1)))]) hl [3, 4, 5, 6, 7, 8, 9, 1, 0] rfl
                  have q_19 : (nI (cn_ (fun z => ah_ (re_ am pp (sN_ pp n)) z k) m)) = (nI (cn_ (fun z => ah_ (re_ am pp (sN_ pp n)) z k) (m + 1))) := congrArg nI (by rw [cn_s, if_neg (ah_0 (fun z => z.elim d_139 (fun q => by omega)))]; rfl)
                  have hl := cs_L (fun z_z => [(0, .ref y), (1, .int (nI am)), (2, .int (nI n)), (3, .long (lN (sN_ pp n))), (5, .int (nI (lf_ am pp n))), (6, .int (nI i)), (7, .int (nI k)), (8, .int z_z), (9, .int (nI (m + 1)))]) q_19 hl
                  have hl : lv_has ls 12 [(0, .ref y), (1, .int (nI am)), (2, .int (nI n)), (3, .long (lN (sN_ pp n))), (5, .int (nI (lf_ am pp n))), (6, .int (nI i)), (7, .int (nI k)), (8, .int (nI (cn_ (fun z => ah_ (re_ am pp (sN_ pp n)) z k) (m + 1)))), (9, .int (nI (m + 1)))] := hl
                  exact ih_102 (m + 1) (show n - (m + 1) < n - m from by omega) (show ((m + 1) ≤ n) from by omega) H locs ls hP hD hS hl
                · have c_153 := qq_nge (a := m) (b := k) c_153 (by omega) (by omega)
                  refine lv_iload hx hb dX6_deal_156 (lv_at hl 8 rfl) ?_
                  have hcl := cn_le (fun z => ah_ (re_ am pp (sN_ pp n)) z k) m
                  refine lv_iconst (v := 1) hx hb dX6_deal_158 (by decide) ?_
                  refine lv_iadd hx hb dX6_deal_159 ?_
                  refine tp_i (x' := nI ((cn_ (fun z => ah_ (re_ am pp (sN_ pp n)) z k) m) + 1)) (nn_add rfl rfl) ?_
                  refine lv_goto (tgt := 165) hx hb dX6_deal_160 (by decide) ?_
                  refine lv_istore (lv' := [(8, .int (nI ((cn_ (fun z => ah_ (re_ am pp (sN_ pp n)) z k) m) + 1))), (10, .long ((lN ((am * (pp m)) % (sN_ pp n))) - (lN ((am * (pp k)) % (sN_ pp n))))), (0, .ref y), (1, .int (nI am)), (2, .int (nI n)), (3, .long (lN (sN_ pp n))), (5, .int (nI (lf_ am pp n))), (6, .int (nI i)), (7, .int (nI k)), (9, .int (nI m))]) hx hb dX6_deal_165 hl (by decide) rfl (fun ls hl => ?_)
                  refine lv_iinc (v := nI (m + 1)) (lv' := [(9, .int (nI (m + 1))), (8, .int (nI ((cn_ (fun z => ah_ (re_ am pp (sN_ pp n)) z k) m) + 1))), (10, .long ((lN ((am * (pp m)) % (sN_ pp n))) - (lN ((am * (pp k)) % (sN_ pp n))))), (0, .ref y), (1, .int (nI am)), (2, .int (nI n)), (3, .long (lN (sN_ pp n))), (5, .int (nI (lf_ am pp n))), (6, .int (nI i)), (7, .int (nI k))]) hx hb dX6_deal_167 hl (k := 9) rfl (nI_1 _) (by decide) rfl (fun ls hl => ?_)
                  refine lv_goto (tgt := 102) hx hb dX6_deal_170 (by decide) ?_
                  have hl := lv_sub (l' := [(0, .ref y), (1, .int (nI am)), (2, .int (nI n)), (3, .long (lN (sN_ pp n))), (5, .int (nI (lf_ am pp n))), (6, .int (nI i)), (7, .int (nI k)), (8, .int (nI ((cn_ (fun z => ah_ (re_ am pp (sN_ pp n)) z k) m) + 1))), (9, .int (nI (m + 1)))]) hl [3, 4, 5, 6, 7, 8, 9, 1, 0] rfl
                  have q_20 : (nI ((cn_ (fun z => ah_ (re_ am pp (sN_ pp n)) z k) m) + 1)) = (nI (cn_ (fun z => ah_ (re_ am pp (sN_ pp n)) z k) (m + 1))) := congrArg nI (by rw [cn_s, if_pos (ah_1 (Or.inr ⟨d_146, c_153⟩))])
                  have hl := cs_L (fun z_z => [(0, .ref y), (1, .int (nI am)), (2, .int (nI n)), (3, .long (lN (sN_ pp n))), (5, .int (nI (lf_ am pp n))), (6, .int (nI i)), (7, .int (nI k)), (8, .int z_z), (9, .int (nI (m + 1)))]) q_20 hl
                  have hl : lv_has ls 12 [(0, .ref y), (1, .int (nI am)), (2, .int (nI n)), (3, .long (lN (sN_ pp n))), (5, .int (nI (lf_ am pp n))), (6, .int (nI i)), (7, .int (nI k)), (8, .int (nI (cn_ (fun z => ah_ (re_ am pp (sN_ pp n)) z k) (m + 1)))), (9, .int (nI (m + 1)))] := hl
                  exact ih_102 (m + 1) (show n - (m + 1) < n - m from by omega) (show ((m + 1) ≤ n) from by omega) H locs ls hP hD hS hl
    · have c_36 := qq_nge (a := i) (b := n) c_36 (by omega) (by omega)
      refine lv_aload_n hx hb dX6_deal_39 rfl (lv_at hl 0 rfl) ?_
      refine va_get (ci := 6) (v := .ref mde) (C := RX6) (T := TX6) (N := 24) hx hb hts bi_6 hown hK hP 0 rfl rfl 22 (by decide) (hts _ bw_427) (fun _ h9 => h9) rfl dX6_deal_40 ?_
      refine lv_iload hx hb dX6_deal_43 (lv_at hl 5 rfl) ?_
      refine lv_iload_n hx hb dX6_deal_45 rfl (lv_at hl 1 rfl) ?_
      refine lv_i2l (v := lN am) hx hb dX6_deal_46 (nI_l (n := am) (by omega)) ?_
      refine lv_aload_n hx hb dX6_deal_47 rfl (lv_at hl 0 rfl) ?_
      refine va_get (ci := 6) (v := .ref mpa) (C := RX6) (T := TX6) (N := 24) hx hb hts bi_6 hown hK hP 0 rfl rfl 21 (by decide) (hts _ bw_426) (fun _ h9 => h9) rfl dX6_deal_48 ?_
      refine lv_iload hx hb dX6_deal_51 (lv_at hl 5 rfl) ?_
      refine ar_lld hx hb hK hP 1 (k := i) rfl rfl (by omega) (by decide) dX6_deal_53 ?_
      refine tp_l (x' := lN (pp i)) ((hpp i (by omega)).1) ?_
      have hmb : am * pp i ≤ 10000 * 2000000 := Nat.mul_le_mul ham (hpp i (by omega)).2
      refine lv_lmul hx hb dX6_deal_54 ?_
      refine tp_l (x' := lN (am * (pp i))) (lN_mul _ _) ?_
      refine lv_lload_n hx hb dX6_deal_55 rfl (lv_at hl 3 rfl) ?_
      refine lv_ldiv hx hb dX6_deal_56 (ln_ne hT (by omega)) ?_
      refine tp_l (x' := lN ((am * (pp i)) / (sN_ pp n))) (pk_lDiv (by omega) (hT) (by omega)) ?_
      refine lv_l2i (v := nI ((am * (pp i)) / (sN_ pp n))) hx hb dX6_deal_57 (lN_i _) ?_
      refine ar_st hx hb hK hP hD hS 2 (k := i) rfl rfl (by omega) (by decide) dX6_deal_58 _ rfl (fun H locs hP hD hS => ?_)
      have hP : va_P D cl_A [ob_J y 6 [.int th, .int (nI hh), .int r0, .int r1, .int r2, .int r3, .ref mb, .int given, .int mrew, .int (nI sz), .ref mk, .ref mc, .ref ms, .ref md, .ref mf, .ref mst, .ref mth, .ref mdr, .ref mw, .ref msh, .ref mpo, .ref mpa, .ref mde, .ref mj], ar_L mpa cJ 10 fpa, ar_I mde cI 10 (upd (se_v fde (fun k => nI (qo_ am pp (sN_ pp n) k)) i) i (nI ((am * (pp i)) / (sN_ pp n))))] H := hP
      have hD : va_D A [ob_J y 6 [.int th, .int (nI hh), .int r0, .int r1, .int r2, .int r3, .ref mb, .int given, .int mrew, .int (nI sz), .ref mk, .ref mc, .ref ms, .ref md, .ref mf, .ref mst, .ref mth, .ref mdr, .ref mw, .ref msh, .ref mpo, .ref mpa, .ref mde, .ref mj], ar_L mpa cJ 10 fpa, ar_I mde cI 10 (upd (se_v fde (fun k => nI (qo_ am pp (sN_ pp n) k)) i) i (nI ((am * (pp i)) / (sN_ pp n))))] := hD
      have hqs : sN_ (qo_ am pp (sN_ pp n)) (i + 1) ≤ sN_ (qo_ am pp (sN_ pp n)) n := sN_pre (by omega)
      have hqn : sN_ (qo_ am pp (sN_ pp n)) n ≤ am := qo_le hT
      have hq1 : sN_ (qo_ am pp (sN_ pp n)) i + am * pp i / sN_ pp n ≤ am := Nat.le_trans hqs hqn
      refine lv_iload hx hb dX6_deal_59 (lv_at hl 4 rfl) ?_
      refine lv_aload_n hx hb dX6_deal_61 rfl (lv_at hl 0 rfl) ?_
      refine va_get (ci := 6) (v := .ref mde) (C := RX6) (T := TX6) (N := 24) hx hb hts bi_6 hown hK hP 0 rfl rfl 22 (by decide) (hts _ bw_427) (fun _ h9 => h9) rfl dX6_deal_62 ?_
      refine lv_iload hx hb dX6_deal_65 (lv_at hl 5 rfl) ?_
      refine ar_ld hx hb hK hP 2 (k := i) rfl rfl (by omega) (by decide) dX6_deal_67 ?_
      refine tp_i (x' := nI ((am * pp i) / sN_ pp n)) (up_i _ _ _) ?_
      refine lv_isub hx hb dX6_deal_68 ?_
      refine tp_i (x' := nI ((am - sN_ (qo_ am pp (sN_ pp n)) i) - ((am * pp i) / sN_ pp n))) (nn_sub rfl rfl (by omega)) ?_
      refine lv_istore (lv' := [(5, .int (nI ((am - sN_ (qo_ am pp (sN_ pp n)) i) - ((am * pp i) / sN_ pp n)))), (0, .ref y), (1, .int (nI am)), (2, .int (nI n)), (3, .long (lN (sN_ pp n))), (6, .int (nI i))]) hx hb dX6_deal_69 hl (by decide) rfl (fun ls hl => ?_)
      refine lv_iinc (v := nI (i + 1)) (lv' := [(6, .int (nI (i + 1))), (5, .int (nI ((am - sN_ (qo_ am pp (sN_ pp n)) i) - ((am * pp i) / sN_ pp n)))), (0, .ref y), (1, .int (nI am)), (2, .int (nI n)), (3, .long (lN (sN_ pp n)))]) hx hb dX6_deal_71 hl (k := 5) rfl (nI_1 _) (by decide) rfl (fun ls hl => ?_)
      refine lv_goto (tgt := 33) hx hb dX6_deal_74 (by decide) ?_
      have q_21 : (upd (se_v fde (fun k => nI (qo_ am pp (sN_ pp n) k)) i) i (nI ((am * (pp i)) / (sN_ pp n)))) = (se_v fde (fun k => nI (qo_ am pp (sN_ pp n) k)) (i + 1)) := se_s _ (fun k => nI (qo_ am pp (sN_ pp n) k)) i
      obtain ⟨hP, hD⟩ := cs_W (fun z_z => [ob_J y 6 [.int th, .int (nI hh), .int r0, .int r1, .int r2, .int r3, .ref mb, .int given, .int mrew, .int (nI sz), .ref mk, .ref mc, .ref ms, .ref md, .ref mf, .ref mst, .ref mth, .ref mdr, .ref mw, .ref msh, .ref mpo, .ref mpa, .ref mde, .ref mj], ar_L mpa cJ 10 fpa, ar_I mde cI 10 z_z]) q_21 hP hD
      have hl := lv_sub (l' := [(0, .ref y), (1, .int (nI am)), (2, .int (nI n)), (3, .long (lN (sN_ pp n))), (5, .int (nI ((am - sN_ (qo_ am pp (sN_ pp n)) i) - ((am * pp i) / sN_ pp n)))), (6, .int (nI (i + 1)))]) hl [2, 3, 4, 5, 1, 0] rfl
      have q_22 : (nI ((am - sN_ (qo_ am pp (sN_ pp n)) i) - ((am * pp i) / sN_ pp n))) = (nI (am - sN_ (qo_ am pp (sN_ pp n)) (i + 1))) := congrArg nI (Nat.sub_sub _ _ _)
      have hl := cs_L (fun z_z => [(0, .ref y), (1, .int (nI am)), (2, .int (nI n)), (3, .long (lN (sN_ pp n))), (5, .int z_z), (6, .int (nI (i + 1)))]) q_22 hl
      have hl : lv_has ls 12 [(0, .ref y), (1, .int (nI am)), (2, .int (nI n)), (3, .long (lN (sN_ pp n))), (5, .int (nI (am - sN_ (qo_ am pp (sN_ pp n)) (i + 1)))), (6, .int (nI (i + 1)))] := hl
      exact ih_33 (i + 1) (show n - (i + 1) < n - i from by omega) (show ((i + 1) ≤ n) from by omega) H locs ls hP hD hS hl
  · have c_8 := qq_nge (a := i) (b := n) c_8 (by omega) (by omega)
    refine lv_lload_n hx hb dX6_deal_11 rfl (lv_at hl 3 rfl) ?_
    refine lv_aload_n hx hb dX6_deal_12 rfl (lv_at hl 0 rfl) ?_
    refine va_get (ci := 6) (v := .ref mpa) (C := RX6) (T := TX6) (N := 24) hx hb hts bi_6 hown hK hP 0 rfl rfl 21 (by decide) (hts _ bw_426) (fun _ h9 => h9) rfl dX6_deal_13 ?_
    refine lv_iload hx hb dX6_deal_16 (lv_at hl 4 rfl) ?_
    refine ar_lld hx hb hK hP 1 (k := i) rfl rfl (by omega) (by decide) dX6_deal_18 ?_
    refine tp_l (x' := lN (pp i)) ((hpp i (by omega)).1) ?_
    refine lv_ladd hx hb dX6_deal_19 ?_
    refine tp_l (x' := lN ((sN_ pp i) + (pp i))) (lN_add _ _) ?_
    refine lv_lstore_n (lv' := [(3, .long (lN ((sN_ pp i) + (pp i)))), (0, .ref y), (1, .int (nI am)), (2, .int (nI n)), (5, .int (nI i))]) hx hb dX6_deal_20 rfl hl (by decide) rfl (fun ls hl => ?_)
    refine lv_iinc (v := nI (i + 1)) (lv' := [(5, .int (nI (i + 1))), (3, .long (lN ((sN_ pp i) + (pp i)))), (0, .ref y), (1, .int (nI am)), (2, .int (nI n))]) hx hb dX6_deal_21 hl (k := 4) rfl (nI_1 _) (by decide) rfl (fun ls hl => ?_)
    refine lv_goto (tgt := 5) hx hb dX6_deal_24 (by decide) ?_
    have hl := lv_sub (l' := [(0, .ref y), (1, .int (nI am)), (2, .int (nI n)), (3, .long (lN ((sN_ pp i) + (pp i)))), (5, .int (nI (i + 1)))]) hl [2, 3, 4, 1, 0] rfl
    have q_23 : (lN ((sN_ pp i) + (pp i))) = (lN (sN_ pp (i + 1))) := rfl
    have hl := cs_L (fun z_z => [(0, .ref y), (1, .int (nI am)), (2, .int (nI n)), (3, .long z_z), (5, .int (nI (i + 1)))]) q_23 hl
    have hl : lv_has ls 12 [(0, .ref y), (1, .int (nI am)), (2, .int (nI n)), (3, .long (lN (sN_ pp (i + 1)))), (5, .int (nI (i + 1)))] := hl
    exact ih_5 (i + 1) (show n - (i + 1) < n - i from by omega) (show ((i + 1) ≤ n) from by omega) H locs ls hP hD hS hl

set_option maxHeartbeats 4000000 in
set_option maxRecDepth 100000 in
theorem k_X6_payFor (l : Launch) (D : va_G) (cI cJ cZ : ClassId) (y : Nat) (mb : Nat) (mk : Nat) (mc : Nat) (mth : Nat) (mw : Nat) (msh : Nat) (mpo : Nat) (mpa : Nat) (mde : Nat) (th : Int32) (hh : Nat) (r0 : Int32) (r1 : Int32) (r2 : Int32) (r3 : Int32) (given : Int32) (mrew : Int32) (sz : Nat) (ms : Nat) (md : Nat) (mf : Nat) (mst : Nat) (mdr : Nat) (mj : Nat) (fbal : Nat → Int32) (fkp : Nat → Int32) (fct : Nat → Int32) (ffx : Nat → Int32) (fwt : Nat → Int32) (frw : Nat → Int32) (fpo : Nat → Int32) (fpa : Nat → Int64) (fde : Nat → Int32) (kh : Nat) (p1 : Nat) (v2 : Nat) (ww : Nat → Nat) (kk : Nat → Nat) (cc : Nat → Nat) (xx : Nat → Nat) (hkh : kh ≤ 100) (hsz : sz ≤ 8) (hr1 : r1 = nI p1) (hp1 : p1 ≤ 10000) (hr2 : r2 = nI v2) (hv2 : 1 ≤ v2) (hv2b : v2 ≤ 50) (hww : ∀ n, n < 8 → fwt (kh * 8 + n) = nI (ww n) ∧ ww n ≤ 2000000) (hwz : ∀ n, sz ≤ n → n < 8 → ww n = 0) (hkk : ∀ j, j < sz → fkp j = nI (kk j) ∧ kk j < 10) (hcc : ∀ j, j < sz → fct j = nI (cc j) ∧ cc j ≤ 100) (hxx : ∀ j, j < 80 → ffx j = nI (xx j) ∧ xx j ≤ 2000000) (hxp : ∀ n, n < 8 → ¬ ww n = 0 → 0 < sN_ (fun a => xx (n * 10 + a)) 10) : mt_V l yX6_payFor cX6_payFor 6 1 31 D cI cJ cZ [ob_J y 6 [.int th, .int (nI hh), .int r0, .int r1, .int r2, .int r3, .ref mb, .int given, .int mrew, .int (nI sz), .ref mk, .ref mc, .ref ms, .ref md, .ref mf, .ref mst, .ref mth, .ref mdr, .ref mw, .ref msh, .ref mpo, .ref mpa, .ref mde, .ref mj], ar_I mb cI 10 fbal, ar_I mk cI 8 fkp, ar_I mc cI 8 fct, ar_I mth cI 80 ffx, ar_I mw cI 808 fwt, ar_I msh cI 808 frw, ar_I mpo cI 101 fpo, ar_L mpa cJ 10 fpa, ar_I mde cI 10 fde] [.ref y, .int (nI kh)] (fun u_u : (Nat → Int64) × (Nat → Int32) => True) (fun u_u : (Nat → Int64) × (Nat → Int32) => [ob_J y 6 [.int th, .int (nI hh), .int r0, .int r1, .int r2, .int r3, .ref mb, .int given, .int (mrew + nI (sN_ (sh_ (p1 / 2 ^ (kh / v2)) ww 8) 8)), .int (nI sz), .ref mk, .ref mc, .ref ms, .ref md, .ref mf, .ref mst, .ref mth, .ref mdr, .ref mw, .ref msh, .ref mpo, .ref mpa, .ref mde, .ref mj], ar_I mb cI 10 (pw_ fbal kk cc (sh_ (p1 / 2 ^ (kh / v2)) ww 8) ww xx 8), ar_I mk cI 8 fkp, ar_I mc cI 8 fct, ar_I mth cI 80 ffx, ar_I mw cI 808 fwt, ar_I msh cI 808 (if sN_ ww 8 = 0 then frw else rv_ frw kh (sh_ (p1 / 2 ^ (kh / v2)) ww 8)), ar_I mpo cI 101 (if sN_ ww 8 = 0 then fpo else upd fpo kh (nI (p1 / 2 ^ (kh / v2)))), ar_L mpa cJ 10 u_u.1, ar_I mde cI 10 u_u.2]) := by
  refine en_V (by decide) (Nat.le_of_ble_eq_true rfl) ?_
  intro p e s m below meth c A ls H locs hx hb hr hml hts hown hlk hN hK hA hP hD hS hl
  have hown : s.vm.findClass RX6 = some m.cls := hown
  have hl : lv_has ls 6 [(0, .ref y), (1, .int (nI kh))] := hl
  refine lv_aload_n hx hb dX6_payFor_0 rfl (lv_at hl 0 rfl) ?_
  refine va_get (ci := 6) (v := .int r1) (C := RX6) (T := TX6) (N := 24) hx hb hts bi_6 hown hK hP 0 rfl rfl 3 (by decide) (hts _ bw_408) (fun _ h9 => h9) rfl dX6_payFor_1 ?_
  refine tp_i (x' := nI p1) (hr1) ?_
  refine lv_istore_n (lv' := [(2, .int (nI p1)), (0, .ref y), (1, .int (nI kh))]) hx hb dX6_payFor_4 rfl hl (by decide) rfl (fun ls hl => ?_)
  refine mg_g (σ := Unit) (nL := 6) (A := A) (D := D) (fun u_ => [ob_J y 6 [.int th, .int (nI hh), .int r0, .int r1, .int r2, .int r3, .ref mb, .int given, .int mrew, .int (nI sz), .ref mk, .ref mc, .ref ms, .ref md, .ref mf, .ref mst, .ref mth, .ref mdr, .ref mw, .ref msh, .ref mpo, .ref mpa, .ref mde, .ref mj], ar_I mb cI 10 fbal, ar_I mk cI 8 fkp, ar_I mc cI 8 fct, ar_I mth cI 80 ffx, ar_I mw cI 808 fwt, ar_I msh cI 808 frw, ar_I mpo cI 101 fpo, ar_L mpa cJ 10 fpa, ar_I mde cI 10 fde]) (fun u_ => [(0, .ref y), (1, .int (nI kh)), (2, .int (nI (p1 / 2 ^ (kh / v2))))]) (fun u_ => True) (fun u_ => []) 31 ?_ (fun J_31 => ?_)
  · intro u_ H locs ls hF hP hD hS hl
    have hP : va_P D cl_A [ob_J y 6 [.int th, .int (nI hh), .int r0, .int r1, .int r2, .int r3, .ref mb, .int given, .int mrew, .int (nI sz), .ref mk, .ref mc, .ref ms, .ref md, .ref mf, .ref mst, .ref mth, .ref mdr, .ref mw, .ref msh, .ref mpo, .ref mpa, .ref mde, .ref mj], ar_I mb cI 10 fbal, ar_I mk cI 8 fkp, ar_I mc cI 8 fct, ar_I mth cI 80 ffx, ar_I mw cI 808 fwt, ar_I msh cI 808 frw, ar_I mpo cI 101 fpo, ar_L mpa cJ 10 fpa, ar_I mde cI 10 fde] H := hP
    have hD : va_D A [ob_J y 6 [.int th, .int (nI hh), .int r0, .int r1, .int r2, .int r3, .ref mb, .int given, .int mrew, .int (nI sz), .ref mk, .ref mc, .ref ms, .ref md, .ref mf, .ref mst, .ref mth, .ref mdr, .ref mw, .ref msh, .ref mpo, .ref mpa, .ref mde, .ref mj], ar_I mb cI 10 fbal, ar_I mk cI 8 fkp, ar_I mc cI 8 fct, ar_I mth cI 80 ffx, ar_I mw cI 808 fwt, ar_I msh cI 808 frw, ar_I mpo cI 101 fpo, ar_L mpa cJ 10 fpa, ar_I mde cI 10 fde] := hD
    have hl : lv_has ls 6 [(0, .ref y), (1, .int (nI kh)), (2, .int (nI (p1 / 2 ^ (kh / v2))))] := hl
    refine lv_aload_n hx hb dX6_payFor_31 rfl (lv_at hl 0 rfl) ?_
    refine lv_iload_n hx hb dX6_payFor_32 rfl (lv_at hl 1 rfl) ?_
    refine ca_VI (rest := []) (wr := [ar_I mb cI 10 fbal, ar_I mk cI 8 fkp, ar_I mc cI 8 fct, ar_I mth cI 80 ffx, ar_I msh cI 808 frw, ar_I mpo cI 101 fpo, ar_L mpa cJ 10 fpa, ar_I mde cI 10 fde]) (w2 := fun u_u => [ob_J y 6 [.int th, .int (nI hh), .int r0, .int r1, .int r2, .int r3, .ref mb, .int given, .int mrew, .int (nI sz), .ref mk, .ref mc, .ref ms, .ref md, .ref mf, .ref mst, .ref mth, .ref mdr, .ref mw, .ref msh, .ref mpo, .ref mpa, .ref mde, .ref mj], ar_I mb cI 10 fbal, ar_I mk cI 8 fkp, ar_I mc cI 8 fct, ar_I mth cI 80 ffx, ar_I mw cI 808 fwt, ar_I msh cI 808 frw, ar_I mpo cI 101 fpo, ar_L mpa cJ 10 fpa, ar_I mde cI 10 fde]) (k_X6_allOf l D cI cJ cZ y mw th hh r0 r1 r2 r3 mb given mrew sz mk mc ms md mf mst mth mdr msh mpo mpa mde mj fwt kh (by first | assumption | omega)) hx hb hml hown hts hN hK hA hP hD hS 6 0 rfl rfl bw_534 bw_536 bs_10 bw_7 bw_537 1 rfl (by decide +kernel) ⟨by decide, by decide⟩ [0, 5] [1, 2, 3, 4, 6, 7, 8, 9] [8, 0, 1, 2, 3, 9, 4, 5, 6, 7] rfl rfl (by decide) (fun _ => rfl) hl.1 rfl (Nat.le_of_ble_eq_true rfl) dX6_payFor_33 ⟨Nat.zero_le _, Nat.zero_le _⟩ (fun r_33 u_u H locs w_33 hP hD hS => ?_)
    have hP : va_P D cl_A [ob_J y 6 [.int th, .int (nI hh), .int r0, .int r1, .int r2, .int r3, .ref mb, .int given, .int mrew, .int (nI sz), .ref mk, .ref mc, .ref ms, .ref md, .ref mf, .ref mst, .ref mth, .ref mdr, .ref mw, .ref msh, .ref mpo, .ref mpa, .ref mde, .ref mj], ar_I mb cI 10 fbal, ar_I mk cI 8 fkp, ar_I mc cI 8 fct, ar_I mth cI 80 ffx, ar_I mw cI 808 fwt, ar_I msh cI 808 frw, ar_I mpo cI 101 fpo, ar_L mpa cJ 10 fpa, ar_I mde cI 10 fde] H := hP
    have hD : va_D A [ob_J y 6 [.int th, .int (nI hh), .int r0, .int r1, .int r2, .int r3, .ref mb, .int given, .int mrew, .int (nI sz), .ref mk, .ref mc, .ref ms, .ref md, .ref mf, .ref mst, .ref mth, .ref mdr, .ref mw, .ref msh, .ref mpo, .ref mpa, .ref mde, .ref mj], ar_I mb cI 10 fbal, ar_I mk cI 8 fkp, ar_I mc cI 8 fct, ar_I mth cI 80 ffx, ar_I mw cI 808 fwt, ar_I msh cI 808 frw, ar_I mpo cI 101 fpo, ar_L mpa cJ 10 fpa, ar_I mde cI 10 fde] := hD
    have w_33 : r_33 = sI_ (fun n => fwt (kh * 8 + n)) 8 := w_33
    subst w_33
    refine tp_i (x' := nI (sN_ ww 8)) (sI_n (fun n hn => (hww n hn).1)) ?_
    have hTb : sN_ ww 8 ≤ 8 * 2000000 := sN_bd (fun k hk => (hww k hk).2)
    refine lv_if_ne (tgt := 40) hx hb dX6_payFor_36 (by decide) (fun c_36 => ?_) (fun c_36 => ?_)
    · have c_36 := qq_ne (a := sN_ ww 8) (b := 0) c_36 (by omega) (by omega)
      refine lv_iconst (v := 0) hx hb dX6_payFor_40 (by decide) ?_
      refine lv_istore_n (lv' := [(3, .int 0), (0, .ref y), (1, .int (nI kh)), (2, .int (nI (p1 / 2 ^ (kh / v2))))]) hx hb dX6_payFor_41 rfl hl (by decide) rfl (fun ls hl => ?_)
      have q_1 : fpa = (sl_v fpa (fun k => lN (ww k)) 0) := sl_0 _ _
      obtain ⟨hP, hD⟩ := cs_W (fun z_z => [ob_J y 6 [.int th, .int (nI hh), .int r0, .int r1, .int r2, .int r3, .ref mb, .int given, .int mrew, .int (nI sz), .ref mk, .ref mc, .ref ms, .ref md, .ref mf, .ref mst, .ref mth, .ref mdr, .ref mw, .ref msh, .ref mpo, .ref mpa, .ref mde, .ref mj], ar_I mb cI 10 fbal, ar_I mk cI 8 fkp, ar_I mc cI 8 fct, ar_I mth cI 80 ffx, ar_I mw cI 808 fwt, ar_I msh cI 808 frw, ar_I mpo cI 101 fpo, ar_L mpa cJ 10 z_z, ar_I mde cI 10 fde]) q_1 hP hD
      have hl := lv_sub (l' := [(0, .ref y), (1, .int (nI kh)), (2, .int (nI (p1 / 2 ^ (kh / v2)))), (3, .int 0)]) hl [1, 2, 3, 0] rfl
      have q_2 : 0 = (nI 0) := rfl
      have hl := cs_L (fun z_z => [(0, .ref y), (1, .int (nI kh)), (2, .int (nI (p1 / 2 ^ (kh / v2)))), (3, .int z_z)]) q_2 hl
      have hl : lv_has ls 6 [(0, .ref y), (1, .int (nI kh)), (2, .int (nI (p1 / 2 ^ (kh / v2)))), (3, .int (nI 0))] := hl
      refine lp_g (σ := Nat) (fun i => 8 - i) (fun i => [ob_J y 6 [.int th, .int (nI hh), .int r0, .int r1, .int r2, .int r3, .ref mb, .int given, .int mrew, .int (nI sz), .ref mk, .ref mc, .ref ms, .ref md, .ref mf, .ref mst, .ref mth, .ref mdr, .ref mw, .ref msh, .ref mpo, .ref mpa, .ref mde, .ref mj], ar_I mb cI 10 fbal, ar_I mk cI 8 fkp, ar_I mc cI 8 fct, ar_I mth cI 80 ffx, ar_I mw cI 808 fwt, ar_I msh cI 808 frw, ar_I mpo cI 101 fpo, ar_L mpa cJ 10 (sl_v fpa (fun k => lN (ww k)) i), ar_I mde cI 10 fde]) (fun i => [(0, .ref y), (1, .int (nI kh)), (2, .int (nI (p1 / 2 ^ (kh / v2)))), (3, .int (nI i))]) (fun i => (i ≤ 8)) ?_ 0 (show (0 ≤ 8) from by omega) hP hD hS hl
      intro i H locs ls hF hP hD hS hl ih_42
      have hF : (i ≤ 8) := hF
      have hi := hF
      have hP : va_P D cl_A [ob_J y 6 [.int th, .int (nI hh), .int r0, .int r1, .int r2, .int r3, .ref mb, .int given, .int mrew, .int (nI sz), .ref mk, .ref mc, .ref ms, .ref md, .ref mf, .ref mst, .ref mth, .ref mdr, .ref mw, .ref msh, .ref mpo, .ref mpa, .ref mde, .ref mj], ar_I mb cI 10 fbal, ar_I mk cI 8 fkp, ar_I mc cI 8 fct, ar_I mth cI 80 ffx, ar_I mw cI 808 fwt, ar_I msh cI 808 frw, ar_I mpo cI 101 fpo, ar_L mpa cJ 10 (sl_v fpa (fun k => lN (ww k)) i), ar_I mde cI 10 fde] H := hP
      have hD : va_D A [ob_J y 6 [.int th, .int (nI hh), .int r0, .int r1, .int r2, .int r3, .ref mb, .int given, .int mrew, .int (nI sz), .ref mk, .ref mc, .ref ms, .ref md, .ref mf, .ref mst, .ref mth, .ref mdr, .ref mw, .ref msh, .ref mpo, .ref mpa, .ref mde, .ref mj], ar_I mb cI 10 fbal, ar_I mk cI 8 fkp, ar_I mc cI 8 fct, ar_I mth cI 80 ffx, ar_I mw cI 808 fwt, ar_I msh cI 808 frw, ar_I mpo cI 101 fpo, ar_L mpa cJ 10 (sl_v fpa (fun k => lN (ww k)) i), ar_I mde cI 10 fde] := hD
      have hl : lv_has ls 6 [(0, .ref y), (1, .int (nI kh)), (2, .int (nI (p1 / 2 ^ (kh / v2)))), (3, .int (nI i))] := hl
      refine lv_iload_n hx hb dX6_payFor_42 rfl (lv_at hl 3 rfl) ?_
      refine lv_bipush (v := 8) hx hb dX6_payFor_43 (by decide) ?_
      refine lv_icmp_ge (tgt := 72) hx hb dX6_payFor_45 (by decide) (fun c_45 => ?_) (fun c_45 => ?_)
      · have c_45 := qq_ge (a := i) (b := 8) c_45 (by omega) (by omega)
        obtain rfl : i = 8 := by omega
        refine lv_aload_n hx hb dX6_payFor_72 rfl (lv_at hl 0 rfl) ?_
        refine lv_iload_n hx hb dX6_payFor_73 rfl (lv_at hl 2 rfl) ?_
        refine lv_bipush (v := 8) hx hb dX6_payFor_74 (by decide) ?_
        refine ca_VV (rest := []) (wr := [ar_I mb cI 10 fbal, ar_I mk cI 8 fkp, ar_I mc cI 8 fct, ar_I mth cI 80 ffx, ar_I mw cI 808 fwt, ar_I msh cI 808 frw, ar_I mpo cI 101 fpo]) (w2 := fun u_u => [ob_J y 6 [.int th, .int (nI hh), .int r0, .int r1, .int r2, .int r3, .ref mb, .int given, .int mrew, .int (nI sz), .ref mk, .ref mc, .ref ms, .ref md, .ref mf, .ref mst, .ref mth, .ref mdr, .ref mw, .ref msh, .ref mpo, .ref mpa, .ref mde, .ref mj], ar_I mb cI 10 fbal, ar_I mk cI 8 fkp, ar_I mc cI 8 fct, ar_I mth cI 80 ffx, ar_I mw cI 808 fwt, ar_I msh cI 808 frw, ar_I mpo cI 101 fpo, ar_L mpa cJ 10 (sl_v fpa (fun k => lN (ww k)) 8), ar_I mde cI 10 (se_v fde (fun k => nI (sh_ (p1 / 2 ^ (kh / v2)) ww 8 k)) 8)]) (k_X6_deal l D cI cJ cZ y mpa mde th hh r0 r1 r2 r3 mb given mrew sz mk mc ms md mf mst mth mdr mw msh mpo mj (sl_v fpa (fun k => lN (ww k)) 8) fde (p1 / 2 ^ (kh / v2)) 8 ww (by first | assumption | omega) (by first | assumption | omega) (po_le hp1) (by omega) (fun n hn => ⟨by simp only [sl_v]; rw [if_pos hn], (hww n hn).2⟩)) hx hb hml hown hts hN hK hA hP hD hS 6 0 rfl rfl bw_538 bw_540 bs_11 bw_7 bw_541 2 rfl (by decide +kernel) ⟨by decide, by decide⟩ [0, 8, 9] [1, 2, 3, 4, 5, 6, 7] [7, 0, 1, 2, 3, 4, 5, 6, 8, 9] rfl rfl (by decide) (fun _ => rfl) hl.1 rfl (Nat.le_of_ble_eq_true rfl) dX6_payFor_76 ⟨Nat.zero_le _, Nat.zero_le _⟩ (fun u_u H locs w_76 hP hD hS => ?_)
        have hP : va_P D cl_A [ob_J y 6 [.int th, .int (nI hh), .int r0, .int r1, .int r2, .int r3, .ref mb, .int given, .int mrew, .int (nI sz), .ref mk, .ref mc, .ref ms, .ref md, .ref mf, .ref mst, .ref mth, .ref mdr, .ref mw, .ref msh, .ref mpo, .ref mpa, .ref mde, .ref mj], ar_I mb cI 10 fbal, ar_I mk cI 8 fkp, ar_I mc cI 8 fct, ar_I mth cI 80 ffx, ar_I mw cI 808 fwt, ar_I msh cI 808 frw, ar_I mpo cI 101 fpo, ar_L mpa cJ 10 (sl_v fpa (fun k => lN (ww k)) 8), ar_I mde cI 10 (se_v fde (fun k => nI (sh_ (p1 / 2 ^ (kh / v2)) ww 8 k)) 8)] H := hP
        have hD : va_D A [ob_J y 6 [.int th, .int (nI hh), .int r0, .int r1, .int r2, .int r3, .ref mb, .int given, .int mrew, .int (nI sz), .ref mk, .ref mc, .ref ms, .ref md, .ref mf, .ref mst, .ref mth, .ref mdr, .ref mw, .ref msh, .ref mpo, .ref mpa, .ref mde, .ref mj], ar_I mb cI 10 fbal, ar_I mk cI 8 fkp, ar_I mc cI 8 fct, ar_I mth cI 80 ffx, ar_I mw cI 808 fwt, ar_I msh cI 808 frw, ar_I mpo cI 101 fpo, ar_L mpa cJ 10 (sl_v fpa (fun k => lN (ww k)) 8), ar_I mde cI 10 (se_v fde (fun k => nI (sh_ (p1 / 2 ^ (kh / v2)) ww 8 k)) 8)] := hD
        refine lv_iconst (v := 0) hx hb dX6_payFor_79 (by decide) ?_
        refine lv_istore_n (lv' := [(3, .int 0), (0, .ref y), (1, .int (nI kh)), (2, .int (nI (p1 / 2 ^ (kh / v2))))]) hx hb dX6_payFor_80 rfl hl (by decide) rfl (fun ls hl => ?_)
        have q_3 : frw = (wf_ frw kh (sh_ (p1 / 2 ^ (kh / v2)) ww 8) 0) := wf_0 _ _ _
        obtain ⟨hP, hD⟩ := cs_W (fun z_z => [ob_J y 6 [.int th, .int (nI hh), .int r0, .int r1, .int r2, .int r3, .ref mb, .int given, .int mrew, .int (nI sz), .ref mk, .ref mc, .ref ms, .ref md, .ref mf, .ref mst, .ref mth, .ref mdr, .ref mw, .ref msh, .ref mpo, .ref mpa, .ref mde, .ref mj], ar_I mb cI 10 fbal, ar_I mk cI 8 fkp, ar_I mc cI 8 fct, ar_I mth cI 80 ffx, ar_I mw cI 808 fwt, ar_I msh cI 808 z_z, ar_I mpo cI 101 fpo, ar_L mpa cJ 10 (sl_v fpa (fun k => lN (ww k)) 8), ar_I mde cI 10 (se_v fde (fun k => nI (sh_ (p1 / 2 ^ (kh / v2)) ww 8 k)) 8)]) q_3 hP hD
        have hl := lv_sub (l' := [(0, .ref y), (1, .int (nI kh)), (2, .int (nI (p1 / 2 ^ (kh / v2)))), (3, .int 0)]) hl [1, 2, 3, 0] rfl
        have q_4 : 0 = (nI 0) := rfl
        have hl := cs_L (fun z_z => [(0, .ref y), (1, .int (nI kh)), (2, .int (nI (p1 / 2 ^ (kh / v2)))), (3, .int z_z)]) q_4 hl
        have hl : lv_has ls 6 [(0, .ref y), (1, .int (nI kh)), (2, .int (nI (p1 / 2 ^ (kh / v2)))), (3, .int (nI 0))] := hl
        refine lp_g (σ := Nat) (fun i => 8 - i) (fun i => [ob_J y 6 [.int th, .int (nI hh), .int r0, .int r1, .int r2, .int r3, .ref mb, .int given, .int mrew, .int (nI sz), .ref mk, .ref mc, .ref ms, .ref md, .ref mf, .ref mst, .ref mth, .ref mdr, .ref mw, .ref msh, .ref mpo, .ref mpa, .ref mde, .ref mj], ar_I mb cI 10 fbal, ar_I mk cI 8 fkp, ar_I mc cI 8 fct, ar_I mth cI 80 ffx, ar_I mw cI 808 fwt, ar_I msh cI 808 (wf_ frw kh (sh_ (p1 / 2 ^ (kh / v2)) ww 8) i), ar_I mpo cI 101 fpo, ar_L mpa cJ 10 (sl_v fpa (fun k => lN (ww k)) 8), ar_I mde cI 10 (se_v fde (fun k => nI (sh_ (p1 / 2 ^ (kh / v2)) ww 8 k)) 8)]) (fun i => [(0, .ref y), (1, .int (nI kh)), (2, .int (nI (p1 / 2 ^ (kh / v2)))), (3, .int (nI i))]) (fun i => (i ≤ 8)) ?_ 0 (show (0 ≤ 8) from by omega) hP hD hS hl
        intro i H locs ls hF hP hD hS hl ih_81
        have hF : (i ≤ 8) := hF
        have hi := hF
        have hP : va_P D cl_A [ob_J y 6 [.int th, .int (nI hh), .int r0, .int r1, .int r2, .int r3, .ref mb, .int given, .int mrew, .int (nI sz), .ref mk, .ref mc, .ref ms, .ref md, .ref mf, .ref mst, .ref mth, .ref mdr, .ref mw, .ref msh, .ref mpo, .ref mpa, .ref mde, .ref mj], ar_I mb cI 10 fbal, ar_I mk cI 8 fkp, ar_I mc cI 8 fct, ar_I mth cI 80 ffx, ar_I mw cI 808 fwt, ar_I msh cI 808 (wf_ frw kh (sh_ (p1 / 2 ^ (kh / v2)) ww 8) i), ar_I mpo cI 101 fpo, ar_L mpa cJ 10 (sl_v fpa (fun k => lN (ww k)) 8), ar_I mde cI 10 (se_v fde (fun k => nI (sh_ (p1 / 2 ^ (kh / v2)) ww 8 k)) 8)] H := hP
        have hD : va_D A [ob_J y 6 [.int th, .int (nI hh), .int r0, .int r1, .int r2, .int r3, .ref mb, .int given, .int mrew, .int (nI sz), .ref mk, .ref mc, .ref ms, .ref md, .ref mf, .ref mst, .ref mth, .ref mdr, .ref mw, .ref msh, .ref mpo, .ref mpa, .ref mde, .ref mj], ar_I mb cI 10 fbal, ar_I mk cI 8 fkp, ar_I mc cI 8 fct, ar_I mth cI 80 ffx, ar_I mw cI 808 fwt, ar_I msh cI 808 (wf_ frw kh (sh_ (p1 / 2 ^ (kh / v2)) ww 8) i), ar_I mpo cI 101 fpo, ar_L mpa cJ 10 (sl_v fpa (fun k => lN (ww k)) 8), ar_I mde cI 10 (se_v fde (fun k => nI (sh_ (p1 / 2 ^ (kh / v2)) ww 8 k)) 8)] := hD
        have hl : lv_has ls 6 [(0, .ref y), (1, .int (nI kh)), (2, .int (nI (p1 / 2 ^ (kh / v2)))), (3, .int (nI i))] := hl
        refine lv_iload_n hx hb dX6_payFor_81 rfl (lv_at hl 3 rfl) ?_
        refine lv_bipush (v := 8) hx hb dX6_payFor_82 (by decide) ?_
        refine lv_icmp_ge (tgt := 110) hx hb dX6_payFor_84 (by decide) (fun c_84 => ?_) (fun c_84 => ?_)
        · have c_84 := qq_ge (a := i) (b := 8) c_84 (by omega) (by omega)
          obtain rfl : i = 8 := by omega
          refine lv_aload_n hx hb dX6_payFor_110 rfl (lv_at hl 0 rfl) ?_
          refine va_get (ci := 6) (v := .ref mpo) (C := RX6) (T := TX6) (N := 24) hx hb hts bi_6 hown hK hP 0 rfl rfl 20 (by decide) (hts _ bw_425) (fun _ h9 => h9) rfl dX6_payFor_111 ?_
          refine lv_iload_n hx hb dX6_payFor_114 rfl (lv_at hl 1 rfl) ?_
          refine lv_iload_n hx hb dX6_payFor_115 rfl (lv_at hl 2 rfl) ?_
          refine ar_st hx hb hK hP hD hS 7 (k := kh) rfl rfl (by omega) (by decide) dX6_payFor_116 _ rfl (fun H locs hP hD hS => ?_)
          have hP : va_P D cl_A [ob_J y 6 [.int th, .int (nI hh), .int r0, .int r1, .int r2, .int r3, .ref mb, .int given, .int mrew, .int (nI sz), .ref mk, .ref mc, .ref ms, .ref md, .ref mf, .ref mst, .ref mth, .ref mdr, .ref mw, .ref msh, .ref mpo, .ref mpa, .ref mde, .ref mj], ar_I mb cI 10 fbal, ar_I mk cI 8 fkp, ar_I mc cI 8 fct, ar_I mth cI 80 ffx, ar_I mw cI 808 fwt, ar_I msh cI 808 (wf_ frw kh (sh_ (p1 / 2 ^ (kh / v2)) ww 8) 8), ar_I mpo cI 101 (upd fpo kh (nI (p1 / 2 ^ (kh / v2)))), ar_L mpa cJ 10 (sl_v fpa (fun k => lN (ww k)) 8), ar_I mde cI 10 (se_v fde (fun k => nI (sh_ (p1 / 2 ^ (kh / v2)) ww 8 k)) 8)] H := hP
          have hD : va_D A [ob_J y 6 [.int th, .int (nI hh), .int r0, .int r1, .int r2, .int r3, .ref mb, .int given, .int mrew, .int (nI sz), .ref mk, .ref mc, .ref ms, .ref md, .ref mf, .ref mst, .ref mth, .ref mdr, .ref mw, .ref msh, .ref mpo, .ref mpa, .ref mde, .ref mj], ar_I mb cI 10 fbal, ar_I mk cI 8 fkp, ar_I mc cI 8 fct, ar_I mth cI 80 ffx, ar_I mw cI 808 fwt, ar_I msh cI 808 (wf_ frw kh (sh_ (p1 / 2 ^ (kh / v2)) ww 8) 8), ar_I mpo cI 101 (upd fpo kh (nI (p1 / 2 ^ (kh / v2)))), ar_L mpa cJ 10 (sl_v fpa (fun k => lN (ww k)) 8), ar_I mde cI 10 (se_v fde (fun k => nI (sh_ (p1 / 2 ^ (kh / v2)) ww 8 k)) 8)] := hD
          refine lv_aload_n hx hb dX6_payFor_117 rfl (lv_at hl 0 rfl) ?_
          refine lv_aload_n hx hb dX6_payFor_118 rfl (lv_at hl 0 rfl) ?_
          refine va_get (ci := 6) (v := .int mrew) (C := RX6) (T := TX6) (N := 24) hx hb hts bi_6 hown hK hP 0 rfl rfl 8 (by decide) (hts _ bw_413) (fun _ h9 => h9) rfl dX6_payFor_119 ?_
          refine lv_iload_n hx hb dX6_payFor_122 rfl (lv_at hl 2 rfl) ?_
          refine lv_iadd hx hb dX6_payFor_123 ?_
          refine va_put (ci := 6) (v := .int (mrew + (nI (p1 / 2 ^ (kh / v2))))) (ty := .int) (C := RX6) (T := TX6) (N := 24) hx hb hts bi_6 tyX6 tyX6_ok nmX6 hown hK hP hD hS 0 rfl rfl 8 (by decide) (hts _ bw_413) (fun _ h9 => h9) rfl (by decide +kernel) rfl rfl (Nat.le_of_ble_eq_true rfl) dX6_payFor_124 (fun H locs hP hD hS => ?_)
          have hP : va_P D cl_A [ob_J y 6 [.int th, .int (nI hh), .int r0, .int r1, .int r2, .int r3, .ref mb, .int given, .int (mrew + (nI (p1 / 2 ^ (kh / v2)))), .int (nI sz), .ref mk, .ref mc, .ref ms, .ref md, .ref mf, .ref mst, .ref mth, .ref mdr, .ref mw, .ref msh, .ref mpo, .ref mpa, .ref mde, .ref mj], ar_I mb cI 10 fbal, ar_I mk cI 8 fkp, ar_I mc cI 8 fct, ar_I mth cI 80 ffx, ar_I mw cI 808 fwt, ar_I msh cI 808 (wf_ frw kh (sh_ (p1 / 2 ^ (kh / v2)) ww 8) 8), ar_I mpo cI 101 (upd fpo kh (nI (p1 / 2 ^ (kh / v2)))), ar_L mpa cJ 10 (sl_v fpa (fun k => lN (ww k)) 8), ar_I mde cI 10 (se_v fde (fun k => nI (sh_ (p1 / 2 ^ (kh / v2)) ww 8 k)) 8)] H := hP
          have hD : va_D A [ob_J y 6 [.int th, .int (nI hh), .int r0, .int r1, .int r2, .int r3, .ref mb, .int given, .int (mrew + (nI (p1 / 2 ^ (kh / v2)))), .int (nI sz), .ref mk, .ref mc, .ref ms, .ref md, .ref mf, .ref mst, .ref mth, .ref mdr, .ref mw, .ref msh, .ref mpo, .ref mpa, .ref mde, .ref mj], ar_I mb cI 10 fbal, ar_I mk cI 8 fkp, ar_I mc cI 8 fct, ar_I mth cI 80 ffx, ar_I mw cI 808 fwt, ar_I msh cI 808 (wf_ frw kh (sh_ (p1 / 2 ^ (kh / v2)) ww 8) 8), ar_I mpo cI 101 (upd fpo kh (nI (p1 / 2 ^ (kh / v2)))), ar_L mpa cJ 10 (sl_v fpa (fun k => lN (ww k)) 8), ar_I mde cI 10 (se_v fde (fun k => nI (sh_ (p1 / 2 ^ (kh / v2)) ww 8 k)) 8)] := hD
          refine lv_iconst (v := 0) hx hb dX6_payFor_127 (by decide) ?_
          refine lv_istore_n (lv' := [(3, .int 0), (0, .ref y), (1, .int (nI kh)), (2, .int (nI (p1 / 2 ^ (kh / v2))))]) hx hb dX6_payFor_128 rfl hl (by decide) rfl (fun ls hl => ?_)
          have q_5 : fbal = (pw_ fbal kk cc (sh_ (p1 / 2 ^ (kh / v2)) ww 8) ww xx 0) := rfl
          obtain ⟨hP, hD⟩ := cs_W (fun z_z => [ob_J y 6 [.int th, .int (nI hh), .int r0, .int r1, .int r2, .int r3, .ref mb, .int given, .int (mrew + (nI (p1 / 2 ^ (kh / v2)))), .int (nI sz), .ref mk, .ref mc, .ref ms, .ref md, .ref mf, .ref mst, .ref mth, .ref mdr, .ref mw, .ref msh, .ref mpo, .ref mpa, .ref mde, .ref mj], ar_I mb cI 10 z_z, ar_I mk cI 8 fkp, ar_I mc cI 8 fct, ar_I mth cI 80 ffx, ar_I mw cI 808 fwt, ar_I msh cI 808 (wf_ frw kh (sh_ (p1 / 2 ^ (kh / v2)) ww 8) 8), ar_I mpo cI 101 (upd fpo kh (nI (p1 / 2 ^ (kh / v2)))), ar_L mpa cJ 10 (sl_v fpa (fun k => lN (ww k)) 8), ar_I mde cI 10 (se_v fde (fun k => nI (sh_ (p1 / 2 ^ (kh / v2)) ww 8 k)) 8)]) q_5 hP hD
          have hl := lv_sub (l' := [(0, .ref y), (1, .int (nI kh)), (2, .int (nI (p1 / 2 ^ (kh / v2)))), (3, .int 0)]) hl [1, 2, 3, 0] rfl
          have q_6 : 0 = (nI 0) := rfl
          have hl := cs_L (fun z_z => [(0, .ref y), (1, .int (nI kh)), (2, .int (nI (p1 / 2 ^ (kh / v2)))), (3, .int z_z)]) q_6 hl
          have hl : lv_has ls 6 [(0, .ref y), (1, .int (nI kh)), (2, .int (nI (p1 / 2 ^ (kh / v2)))), (3, .int (nI 0))] := hl
          refine lp_g (σ := (Nat) × (Nat → Int64) × (Nat → Int32)) (fun x_x => 8 - x_x.1) (fun x_x => [ob_J y 6 [.int th, .int (nI hh), .int r0, .int r1, .int r2, .int r3, .ref mb, .int given, .int (mrew + (nI (p1 / 2 ^ (kh / v2)))), .int (nI sz), .ref mk, .ref mc, .ref ms, .ref md, .ref mf, .ref mst, .ref mth, .ref mdr, .ref mw, .ref msh, .ref mpo, .ref mpa, .ref mde, .ref mj], ar_I mb cI 10 (pw_ fbal kk cc (sh_ (p1 / 2 ^ (kh / v2)) ww 8) ww xx x_x.1), ar_I mk cI 8 fkp, ar_I mc cI 8 fct, ar_I mth cI 80 ffx, ar_I mw cI 808 fwt, ar_I msh cI 808 (wf_ frw kh (sh_ (p1 / 2 ^ (kh / v2)) ww 8) 8), ar_I mpo cI 101 (upd fpo kh (nI (p1 / 2 ^ (kh / v2)))), ar_L mpa cJ 10 x_x.2.1, ar_I mde cI 10 x_x.2.2]) (fun x_x => [(0, .ref y), (1, .int (nI kh)), (2, .int (nI (p1 / 2 ^ (kh / v2)))), (3, .int (nI x_x.1))]) (fun x_x => (x_x.1 ≤ 8)) ?_ (0, sl_v fpa (fun k => lN (ww k)) 8, se_v fde (fun k => nI (sh_ (p1 / 2 ^ (kh / v2)) ww 8 k)) 8) (show (0 ≤ 8) from by omega) hP hD hS hl
          intro x_x H locs ls hF hP hD hS hl ih_129
          obtain ⟨i, zq, ze⟩ := x_x
          have hF : (i ≤ 8) := hF
          have hi := hF
          have hP : va_P D cl_A [ob_J y 6 [.int th, .int (nI hh), .int r0, .int r1, .int r2, .int r3, .ref mb, .int given, .int (mrew + (nI (p1 / 2 ^ (kh / v2)))), .int (nI sz), .ref mk, .ref mc, .ref ms, .ref md, .ref mf, .ref mst, .ref mth, .ref mdr, .ref mw, .ref msh, .ref mpo, .ref mpa, .ref mde, .ref mj], ar_I mb cI 10 (pw_ fbal kk cc (sh_ (p1 / 2 ^ (kh / v2)) ww 8) ww xx i), ar_I mk cI 8 fkp, ar_I mc cI 8 fct, ar_I mth cI 80 ffx, ar_I mw cI 808 fwt, ar_I msh cI 808 (wf_ frw kh (sh_ (p1 / 2 ^ (kh / v2)) ww 8) 8), ar_I mpo cI 101 (upd fpo kh (nI (p1 / 2 ^ (kh / v2)))), ar_L mpa cJ 10 zq, ar_I mde cI 10 ze] H := hP
          have hD : va_D A [ob_J y 6 [.int th, .int (nI hh), .int r0, .int r1, .int r2, .int r3, .ref mb, .int given, .int (mrew + (nI (p1 / 2 ^ (kh / v2)))), .int (nI sz), .ref mk, .ref mc, .ref ms, .ref md, .ref mf, .ref mst, .ref mth, .ref mdr, .ref mw, .ref msh, .ref mpo, .ref mpa, .ref mde, .ref mj], ar_I mb cI 10 (pw_ fbal kk cc (sh_ (p1 / 2 ^ (kh / v2)) ww 8) ww xx i), ar_I mk cI 8 fkp, ar_I mc cI 8 fct, ar_I mth cI 80 ffx, ar_I mw cI 808 fwt, ar_I msh cI 808 (wf_ frw kh (sh_ (p1 / 2 ^ (kh / v2)) ww 8) 8), ar_I mpo cI 101 (upd fpo kh (nI (p1 / 2 ^ (kh / v2)))), ar_L mpa cJ 10 zq, ar_I mde cI 10 ze] := hD
          have hl : lv_has ls 6 [(0, .ref y), (1, .int (nI kh)), (2, .int (nI (p1 / 2 ^ (kh / v2)))), (3, .int (nI i))] := hl
          refine lv_iload_n hx hb dX6_payFor_129 rfl (lv_at hl 3 rfl) ?_
          refine lv_bipush (v := 8) hx hb dX6_payFor_130 (by decide) ?_
          refine lv_icmp_ge (tgt := 297) hx hb dX6_payFor_132 (by decide) (fun c_132 => ?_) (fun c_132 => ?_)
          · have c_132 := qq_ge (a := i) (b := 8) c_132 (by omega) (by omega)
            have q_7 : (mrew + (nI (p1 / 2 ^ (kh / v2)))) = (mrew + nI (sN_ (sh_ (p1 / 2 ^ (kh / v2)) ww 8) 8)) := by rw [sh_sum (by omega)]
            obtain ⟨hP, hD⟩ := cs_W (fun z_z => [ob_J y 6 [.int th, .int (nI hh), .int r0, .int r1, .int r2, .int r3, .ref mb, .int given, .int z_z, .int (nI sz), .ref mk, .ref mc, .ref ms, .ref md, .ref mf, .ref mst, .ref mth, .ref mdr, .ref mw, .ref msh, .ref mpo, .ref mpa, .ref mde, .ref mj], ar_I mb cI 10 (pw_ fbal kk cc (sh_ (p1 / 2 ^ (kh / v2)) ww 8) ww xx i), ar_I mk cI 8 fkp, ar_I mc cI 8 fct, ar_I mth cI 80 ffx, ar_I mw cI 808 fwt, ar_I msh cI 808 (wf_ frw kh (sh_ (p1 / 2 ^ (kh / v2)) ww 8) 8), ar_I mpo cI 101 (upd fpo kh (nI (p1 / 2 ^ (kh / v2)))), ar_L mpa cJ 10 zq, ar_I mde cI 10 ze]) q_7 hP hD
            have q_8 : (pw_ fbal kk cc (sh_ (p1 / 2 ^ (kh / v2)) ww 8) ww xx i) = (pw_ fbal kk cc (sh_ (p1 / 2 ^ (kh / v2)) ww 8) ww xx 8) := by rw [show i = 8 by omega]
            obtain ⟨hP, hD⟩ := cs_W (fun z_z => [ob_J y 6 [.int th, .int (nI hh), .int r0, .int r1, .int r2, .int r3, .ref mb, .int given, .int (mrew + nI (sN_ (sh_ (p1 / 2 ^ (kh / v2)) ww 8) 8)), .int (nI sz), .ref mk, .ref mc, .ref ms, .ref md, .ref mf, .ref mst, .ref mth, .ref mdr, .ref mw, .ref msh, .ref mpo, .ref mpa, .ref mde, .ref mj], ar_I mb cI 10 z_z, ar_I mk cI 8 fkp, ar_I mc cI 8 fct, ar_I mth cI 80 ffx, ar_I mw cI 808 fwt, ar_I msh cI 808 (wf_ frw kh (sh_ (p1 / 2 ^ (kh / v2)) ww 8) 8), ar_I mpo cI 101 (upd fpo kh (nI (p1 / 2 ^ (kh / v2)))), ar_L mpa cJ 10 zq, ar_I mde cI 10 ze]) q_8 hP hD
            have q_9 : (wf_ frw kh (sh_ (p1 / 2 ^ (kh / v2)) ww 8) 8) = (if sN_ ww 8 = 0 then frw else rv_ frw kh (sh_ (p1 / 2 ^ (kh / v2)) ww 8)) := (if_neg c_36).symm
            obtain ⟨hP, hD⟩ := cs_W (fun z_z => [ob_J y 6 [.int th, .int (nI hh), .int r0, .int r1, .int r2, .int r3, .ref mb, .int given, .int (mrew + nI (sN_ (sh_ (p1 / 2 ^ (kh / v2)) ww 8) 8)), .int (nI sz), .ref mk, .ref mc, .ref ms, .ref md, .ref mf, .ref mst, .ref mth, .ref mdr, .ref mw, .ref msh, .ref mpo, .ref mpa, .ref mde, .ref mj], ar_I mb cI 10 (pw_ fbal kk cc (sh_ (p1 / 2 ^ (kh / v2)) ww 8) ww xx 8), ar_I mk cI 8 fkp, ar_I mc cI 8 fct, ar_I mth cI 80 ffx, ar_I mw cI 808 fwt, ar_I msh cI 808 z_z, ar_I mpo cI 101 (upd fpo kh (nI (p1 / 2 ^ (kh / v2)))), ar_L mpa cJ 10 zq, ar_I mde cI 10 ze]) q_9 hP hD
            have q_10 : (upd fpo kh (nI (p1 / 2 ^ (kh / v2)))) = (if sN_ ww 8 = 0 then fpo else upd fpo kh (nI (p1 / 2 ^ (kh / v2)))) := (if_neg c_36).symm
            obtain ⟨hP, hD⟩ := cs_W (fun z_z => [ob_J y 6 [.int th, .int (nI hh), .int r0, .int r1, .int r2, .int r3, .ref mb, .int given, .int (mrew + nI (sN_ (sh_ (p1 / 2 ^ (kh / v2)) ww 8) 8)), .int (nI sz), .ref mk, .ref mc, .ref ms, .ref md, .ref mf, .ref mst, .ref mth, .ref mdr, .ref mw, .ref msh, .ref mpo, .ref mpa, .ref mde, .ref mj], ar_I mb cI 10 (pw_ fbal kk cc (sh_ (p1 / 2 ^ (kh / v2)) ww 8) ww xx 8), ar_I mk cI 8 fkp, ar_I mc cI 8 fct, ar_I mth cI 80 ffx, ar_I mw cI 808 fwt, ar_I msh cI 808 (if sN_ ww 8 = 0 then frw else rv_ frw kh (sh_ (p1 / 2 ^ (kh / v2)) ww 8)), ar_I mpo cI 101 z_z, ar_L mpa cJ 10 zq, ar_I mde cI 10 ze]) q_10 hP hD
            exact re_V (w1 := fun u_u : (Nat → Int64) × (Nat → Int32) => [ob_J y 6 [.int th, .int (nI hh), .int r0, .int r1, .int r2, .int r3, .ref mb, .int given, .int (mrew + nI (sN_ (sh_ (p1 / 2 ^ (kh / v2)) ww 8) 8)), .int (nI sz), .ref mk, .ref mc, .ref ms, .ref md, .ref mf, .ref mst, .ref mth, .ref mdr, .ref mw, .ref msh, .ref mpo, .ref mpa, .ref mde, .ref mj], ar_I mb cI 10 (pw_ fbal kk cc (sh_ (p1 / 2 ^ (kh / v2)) ww 8) ww xx 8), ar_I mk cI 8 fkp, ar_I mc cI 8 fct, ar_I mth cI 80 ffx, ar_I mw cI 808 fwt, ar_I msh cI 808 (if sN_ ww 8 = 0 then frw else rv_ frw kh (sh_ (p1 / 2 ^ (kh / v2)) ww 8)), ar_I mpo cI 101 (if sN_ ww 8 = 0 then fpo else upd fpo kh (nI (p1 / 2 ^ (kh / v2)))), ar_L mpa cJ 10 u_u.1, ar_I mde cI 10 u_u.2]) hx hb hr hlk hK hS (zq, ze) hP hD trivial dX6_payFor_297
          · have c_132 := qq_nge (a := i) (b := 8) c_132 (by omega) (by omega)
            refine lv_aload_n hx hb dX6_payFor_135 rfl (lv_at hl 0 rfl) ?_
            refine va_get (ci := 6) (v := .ref mw) (C := RX6) (T := TX6) (N := 24) hx hb hts bi_6 hown hK hP 0 rfl rfl 18 (by decide) (hts _ bw_423) (fun _ h9 => h9) rfl dX6_payFor_136 ?_
            refine lv_bipush (v := 8) hx hb dX6_payFor_139 (by decide) ?_
            refine lv_iload_n hx hb dX6_payFor_141 rfl (lv_at hl 1 rfl) ?_
            refine lv_imul hx hb dX6_payFor_142 ?_
            refine tp_i (x' := nI (kh * 8)) (nn_mulc rfl rfl) ?_
            refine lv_iload_n hx hb dX6_payFor_143 rfl (lv_at hl 3 rfl) ?_
            refine lv_iadd hx hb dX6_payFor_144 ?_
            refine tp_i (x' := nI ((kh * 8) + i)) (nn_add rfl rfl) ?_
            refine ar_ld hx hb hK hP 5 (k := (kh * 8) + i) rfl rfl (by omega) (by decide) dX6_payFor_145 ?_
            refine tp_i (x' := nI (ww i)) ((hww i (by omega)).1) ?_
            have hwl := (hww i (by omega)).2
            refine lv_if_le (tgt := 291) hx hb dX6_payFor_146 (by decide) (fun c_146 => ?_) (fun c_146 => ?_)
            · have c_146 := qq_le (a := ww i) (b := 0) c_146 (by omega) (by omega)
              refine lv_iinc (v := nI (i + 1)) (lv' := [(3, .int (nI (i + 1))), (0, .ref y), (1, .int (nI kh)), (2, .int (nI (p1 / 2 ^ (kh / v2))))]) hx hb dX6_payFor_291 hl (k := 3) rfl (nI_1 _) (by decide) rfl (fun ls hl => ?_)
              refine lv_goto (tgt := 129) hx hb dX6_payFor_294 (by decide) ?_
              have q_11 : (pw_ fbal kk cc (sh_ (p1 / 2 ^ (kh / v2)) ww 8) ww xx i) = (pw_ fbal kk cc (sh_ (p1 / 2 ^ (kh / v2)) ww 8) ww xx (i + 1)) := by rw [pw_s, if_pos (by omega)]
              obtain ⟨hP, hD⟩ := cs_W (fun z_z => [ob_J y 6 [.int th, .int (nI hh), .int r0, .int r1, .int r2, .int r3, .ref mb, .int given, .int (mrew + (nI (p1 / 2 ^ (kh / v2)))), .int (nI sz), .ref mk, .ref mc, .ref ms, .ref md, .ref mf, .ref mst, .ref mth, .ref mdr, .ref mw, .ref msh, .ref mpo, .ref mpa, .ref mde, .ref mj], ar_I mb cI 10 z_z, ar_I mk cI 8 fkp, ar_I mc cI 8 fct, ar_I mth cI 80 ffx, ar_I mw cI 808 fwt, ar_I msh cI 808 (wf_ frw kh (sh_ (p1 / 2 ^ (kh / v2)) ww 8) 8), ar_I mpo cI 101 (upd fpo kh (nI (p1 / 2 ^ (kh / v2)))), ar_L mpa cJ 10 zq, ar_I mde cI 10 ze]) q_11 hP hD
              have hl := lv_sub (l' := [(0, .ref y), (1, .int (nI kh)), (2, .int (nI (p1 / 2 ^ (kh / v2)))), (3, .int (nI (i + 1)))]) hl [1, 2, 3, 0] rfl
              have hl : lv_has ls 6 [(0, .ref y), (1, .int (nI kh)), (2, .int (nI (p1 / 2 ^ (kh / v2)))), (3, .int (nI (i + 1)))] := hl
              exact ih_129 (i + 1, zq, ze) (show 8 - (i + 1) < 8 - i from by omega) (show ((i + 1) ≤ 8) from by omega) H locs ls hP hD hS hl
            · have c_146 := qq_nle (a := ww i) (b := 0) c_146 (by omega) (by omega)
              have hiz : i < sz := Nat.not_le.mp (fun z => by have := hwz i z (by omega); omega)
              have hSi : sh_ (p1 / 2 ^ (kh / v2)) ww 8 i ≤ p1 / 2 ^ (kh / v2) := sh_le (by omega)
              have hPl : p1 / 2 ^ (kh / v2) ≤ 10000 := po_le hp1
              have hmc : sh_ (p1 / 2 ^ (kh / v2)) ww 8 i * cc i ≤ 10000 * 100 := Nat.mul_le_mul (by omega) (hcc i hiz).2
              have hmk : sh_ (p1 / 2 ^ (kh / v2)) ww 8 i * cc i ≤ sh_ (p1 / 2 ^ (kh / v2)) ww 8 i * 100 := Nat.mul_le_mul_left _ (hcc i hiz).2
              have hkb := (hkk i hiz).2
              have hke : sh_ (p1 / 2 ^ (kh / v2)) ww 8 i * cc i / 100 ≤ sh_ (p1 / 2 ^ (kh / v2)) ww 8 i := by omega
              refine lv_aload_n hx hb dX6_payFor_149 rfl (lv_at hl 0 rfl) ?_
              refine va_get (ci := 6) (v := .ref msh) (C := RX6) (T := TX6) (N := 24) hx hb hts bi_6 hown hK hP 0 rfl rfl 19 (by decide) (hts _ bw_424) (fun _ h9 => h9) rfl dX6_payFor_150 ?_
              refine lv_bipush (v := 8) hx hb dX6_payFor_153 (by decide) ?_
              refine lv_iload_n hx hb dX6_payFor_155 rfl (lv_at hl 1 rfl) ?_
              refine lv_imul hx hb dX6_payFor_156 ?_
              refine tp_i (x' := nI (kh * 8)) (nn_mulc rfl rfl) ?_
              refine lv_iload_n hx hb dX6_payFor_157 rfl (lv_at hl 3 rfl) ?_
              refine lv_iadd hx hb dX6_payFor_158 ?_
              refine tp_i (x' := nI ((kh * 8) + i)) (nn_add rfl rfl) ?_
              refine ar_ld hx hb hK hP 6 (k := (kh * 8) + i) rfl rfl (by omega) (by decide) dX6_payFor_159 ?_
              refine tp_i (x' := nI (sh_ (p1 / 2 ^ (kh / v2)) ww 8 i)) (wf_i (by omega)) ?_
              refine lv_aload_n hx hb dX6_payFor_160 rfl (lv_at hl 0 rfl) ?_
              refine va_get (ci := 6) (v := .ref mc) (C := RX6) (T := TX6) (N := 24) hx hb hts bi_6 hown hK hP 0 rfl rfl 11 (by decide) (hts _ bw_416) (fun _ h9 => h9) rfl dX6_payFor_161 ?_
              refine lv_iload_n hx hb dX6_payFor_164 rfl (lv_at hl 3 rfl) ?_
              refine ar_ld hx hb hK hP 3 (k := i) rfl rfl (by omega) (by decide) dX6_payFor_165 ?_
              refine tp_i (x' := nI (cc i)) ((hcc i hiz).1) ?_
              refine lv_imul hx hb dX6_payFor_166 ?_
              refine tp_i (x' := nI ((sh_ (p1 / 2 ^ (kh / v2)) ww 8 i) * (cc i))) (nn_mul rfl rfl) ?_
              refine lv_bipush (v := 100) hx hb dX6_payFor_167 (by decide) ?_
              refine lv_idiv hx hb dX6_payFor_169 (by decide) ?_
              refine tp_i (x' := nI (((sh_ (p1 / 2 ^ (kh / v2)) ww 8 i) * (cc i)) / 100)) (pk_div (a := (sh_ (p1 / 2 ^ (kh / v2)) ww 8 i) * (cc i)) (d := 100) (by omega) (by omega) (by omega)) ?_
              refine lv_istore (lv' := [(4, .int (nI (((sh_ (p1 / 2 ^ (kh / v2)) ww 8 i) * (cc i)) / 100))), (0, .ref y), (1, .int (nI kh)), (2, .int (nI (p1 / 2 ^ (kh / v2)))), (3, .int (nI i))]) hx hb dX6_payFor_170 hl (by decide) rfl (fun ls hl => ?_)
              refine lv_aload_n hx hb dX6_payFor_172 rfl (lv_at hl 1 rfl) ?_
              refine va_get (ci := 6) (v := .ref mb) (C := RX6) (T := TX6) (N := 24) hx hb hts bi_6 hown hK hP 0 rfl rfl 6 (by decide) (hts _ bw_411) (fun _ h9 => h9) rfl dX6_payFor_173 ?_
              refine lv_aload_n hx hb dX6_payFor_176 rfl (lv_at hl 1 rfl) ?_
              refine va_get (ci := 6) (v := .ref mk) (C := RX6) (T := TX6) (N := 24) hx hb hts bi_6 hown hK hP 0 rfl rfl 10 (by decide) (hts _ bw_415) (fun _ h9 => h9) rfl dX6_payFor_177 ?_
              refine lv_iload_n hx hb dX6_payFor_180 rfl (lv_at hl 4 rfl) ?_
              refine ar_ld hx hb hK hP 2 (k := i) rfl rfl (by omega) (by decide) dX6_payFor_181 ?_
              refine tp_i (x' := nI (kk i)) ((hkk i hiz).1) ?_
              refine lv_aload_n hx hb dX6_payFor_182 rfl (lv_at hl 1 rfl) ?_
              refine va_get (ci := 6) (v := .ref mb) (C := RX6) (T := TX6) (N := 24) hx hb hts bi_6 hown hK hP 0 rfl rfl 6 (by decide) (hts _ bw_411) (fun _ h9 => h9) rfl dX6_payFor_183 ?_
              refine lv_aload_n hx hb dX6_payFor_186 rfl (lv_at hl 1 rfl) ?_
              refine va_get (ci := 6) (v := .ref mk) (C := RX6) (T := TX6) (N := 24) hx hb hts bi_6 hown hK hP 0 rfl rfl 10 (by decide) (hts _ bw_415) (fun _ h9 => h9) rfl dX6_payFor_187 ?_
              refine lv_iload_n hx hb dX6_payFor_190 rfl (lv_at hl 4 rfl) ?_
              refine ar_ld hx hb hK hP 2 (k := i) rfl rfl (by omega) (by decide) dX6_payFor_191 ?_
              refine tp_i (x' := nI (kk i)) ((hkk i hiz).1) ?_
              refine ar_ld hx hb hK hP 1 (k := kk i) rfl rfl (by omega) (by decide) dX6_payFor_192 ?_
              refine lv_iload hx hb dX6_payFor_193 (lv_at hl 0 rfl) ?_
              refine lv_iadd hx hb dX6_payFor_195 ?_
              refine ar_st hx hb hK hP hD hS 1 (k := kk i) rfl rfl (by omega) (by decide) dX6_payFor_196 _ rfl (fun H locs hP hD hS => ?_)
              have hP : va_P D cl_A [ob_J y 6 [.int th, .int (nI hh), .int r0, .int r1, .int r2, .int r3, .ref mb, .int given, .int (mrew + (nI (p1 / 2 ^ (kh / v2)))), .int (nI sz), .ref mk, .ref mc, .ref ms, .ref md, .ref mf, .ref mst, .ref mth, .ref mdr, .ref mw, .ref msh, .ref mpo, .ref mpa, .ref mde, .ref mj], ar_I mb cI 10 (upd (pw_ fbal kk cc (sh_ (p1 / 2 ^ (kh / v2)) ww 8) ww xx i) (kk i) (((pw_ fbal kk cc (sh_ (p1 / 2 ^ (kh / v2)) ww 8) ww xx i) (kk i)) + (nI (((sh_ (p1 / 2 ^ (kh / v2)) ww 8 i) * (cc i)) / 100)))), ar_I mk cI 8 fkp, ar_I mc cI 8 fct, ar_I mth cI 80 ffx, ar_I mw cI 808 fwt, ar_I msh cI 808 (wf_ frw kh (sh_ (p1 / 2 ^ (kh / v2)) ww 8) 8), ar_I mpo cI 101 (upd fpo kh (nI (p1 / 2 ^ (kh / v2)))), ar_L mpa cJ 10 zq, ar_I mde cI 10 ze] H := hP
              have hD : va_D A [ob_J y 6 [.int th, .int (nI hh), .int r0, .int r1, .int r2, .int r3, .ref mb, .int given, .int (mrew + (nI (p1 / 2 ^ (kh / v2)))), .int (nI sz), .ref mk, .ref mc, .ref ms, .ref md, .ref mf, .ref mst, .ref mth, .ref mdr, .ref mw, .ref msh, .ref mpo, .ref mpa, .ref mde, .ref mj], ar_I mb cI 10 (upd (pw_ fbal kk cc (sh_ (p1 / 2 ^ (kh / v2)) ww 8) ww xx i) (kk i) (((pw_ fbal kk cc (sh_ (p1 / 2 ^ (kh / v2)) ww 8) ww xx i) (kk i)) + (nI (((sh_ (p1 / 2 ^ (kh / v2)) ww 8 i) * (cc i)) / 100)))), ar_I mk cI 8 fkp, ar_I mc cI 8 fct, ar_I mth cI 80 ffx, ar_I mw cI 808 fwt, ar_I msh cI 808 (wf_ frw kh (sh_ (p1 / 2 ^ (kh / v2)) ww 8) 8), ar_I mpo cI 101 (upd fpo kh (nI (p1 / 2 ^ (kh / v2)))), ar_L mpa cJ 10 zq, ar_I mde cI 10 ze] := hD
              refine lv_iconst (v := 0) hx hb dX6_payFor_197 (by decide) ?_
              refine lv_istore (lv' := [(5, .int 0), (4, .int (nI (((sh_ (p1 / 2 ^ (kh / v2)) ww 8 i) * (cc i)) / 100))), (0, .ref y), (1, .int (nI kh)), (2, .int (nI (p1 / 2 ^ (kh / v2)))), (3, .int (nI i))]) hx hb dX6_payFor_198 hl (by decide) rfl (fun ls hl => ?_)
              have q_12 : zq = (sl_v zq (fun a => lN (xx (i * 10 + a))) 0) := sl_0 _ _
              obtain ⟨hP, hD⟩ := cs_W (fun z_z => [ob_J y 6 [.int th, .int (nI hh), .int r0, .int r1, .int r2, .int r3, .ref mb, .int given, .int (mrew + (nI (p1 / 2 ^ (kh / v2)))), .int (nI sz), .ref mk, .ref mc, .ref ms, .ref md, .ref mf, .ref mst, .ref mth, .ref mdr, .ref mw, .ref msh, .ref mpo, .ref mpa, .ref mde, .ref mj], ar_I mb cI 10 (upd (pw_ fbal kk cc (sh_ (p1 / 2 ^ (kh / v2)) ww 8) ww xx i) (kk i) (((pw_ fbal kk cc (sh_ (p1 / 2 ^ (kh / v2)) ww 8) ww xx i) (kk i)) + (nI (((sh_ (p1 / 2 ^ (kh / v2)) ww 8 i) * (cc i)) / 100)))), ar_I mk cI 8 fkp, ar_I mc cI 8 fct, ar_I mth cI 80 ffx, ar_I mw cI 808 fwt, ar_I msh cI 808 (wf_ frw kh (sh_ (p1 / 2 ^ (kh / v2)) ww 8) 8), ar_I mpo cI 101 (upd fpo kh (nI (p1 / 2 ^ (kh / v2)))), ar_L mpa cJ 10 z_z, ar_I mde cI 10 ze]) q_12 hP hD
              have hl := lv_sub (l' := [(0, .ref y), (1, .int (nI kh)), (2, .int (nI (p1 / 2 ^ (kh / v2)))), (3, .int (nI i)), (4, .int (nI (((sh_ (p1 / 2 ^ (kh / v2)) ww 8 i) * (cc i)) / 100))), (5, .int 0)]) hl [2, 3, 4, 5, 1, 0] rfl
              have q_13 : 0 = (nI 0) := rfl
              have hl := cs_L (fun z_z => [(0, .ref y), (1, .int (nI kh)), (2, .int (nI (p1 / 2 ^ (kh / v2)))), (3, .int (nI i)), (4, .int (nI (((sh_ (p1 / 2 ^ (kh / v2)) ww 8 i) * (cc i)) / 100))), (5, .int z_z)]) q_13 hl
              have hl : lv_has ls 6 [(0, .ref y), (1, .int (nI kh)), (2, .int (nI (p1 / 2 ^ (kh / v2)))), (3, .int (nI i)), (4, .int (nI (((sh_ (p1 / 2 ^ (kh / v2)) ww 8 i) * (cc i)) / 100))), (5, .int (nI 0))] := hl
              refine lp_g (σ := Nat) (fun j => 10 - j) (fun j => [ob_J y 6 [.int th, .int (nI hh), .int r0, .int r1, .int r2, .int r3, .ref mb, .int given, .int (mrew + (nI (p1 / 2 ^ (kh / v2)))), .int (nI sz), .ref mk, .ref mc, .ref ms, .ref md, .ref mf, .ref mst, .ref mth, .ref mdr, .ref mw, .ref msh, .ref mpo, .ref mpa, .ref mde, .ref mj], ar_I mb cI 10 (upd (pw_ fbal kk cc (sh_ (p1 / 2 ^ (kh / v2)) ww 8) ww xx i) (kk i) (((pw_ fbal kk cc (sh_ (p1 / 2 ^ (kh / v2)) ww 8) ww xx i) (kk i)) + (nI (((sh_ (p1 / 2 ^ (kh / v2)) ww 8 i) * (cc i)) / 100)))), ar_I mk cI 8 fkp, ar_I mc cI 8 fct, ar_I mth cI 80 ffx, ar_I mw cI 808 fwt, ar_I msh cI 808 (wf_ frw kh (sh_ (p1 / 2 ^ (kh / v2)) ww 8) 8), ar_I mpo cI 101 (upd fpo kh (nI (p1 / 2 ^ (kh / v2)))), ar_L mpa cJ 10 (sl_v zq (fun a => lN (xx (i * 10 + a))) j), ar_I mde cI 10 ze]) (fun j => [(0, .ref y), (1, .int (nI kh)), (2, .int (nI (p1 / 2 ^ (kh / v2)))), (3, .int (nI i)), (4, .int (nI (((sh_ (p1 / 2 ^ (kh / v2)) ww 8 i) * (cc i)) / 100))), (5, .int (nI j))]) (fun j => (j ≤ 10)) ?_ 0 (show (0 ≤ 10) from by omega) hP hD hS hl
              intro j H locs ls hF hP hD hS hl ih_200
              have hF : (j ≤ 10) := hF
              have hj := hF
              have hP : va_P D cl_A [ob_J y 6 [.int th, .int (nI hh), .int r0, .int r1, .int r2, .int r3, .ref mb, .int given, .int (mrew + (nI (p1 / 2 ^ (kh / v2)))), .int (nI sz), .ref mk, .ref mc, .ref ms, .ref md, .ref mf, .ref mst, .ref mth, .ref mdr, .ref mw, .ref msh, .ref mpo, .ref mpa, .ref mde, .ref mj], ar_I mb cI 10 (upd (pw_ fbal kk cc (sh_ (p1 / 2 ^ (kh / v2)) ww 8) ww xx i) (kk i) (((pw_ fbal kk cc (sh_ (p1 / 2 ^ (kh / v2)) ww 8) ww xx i) (kk i)) + (nI (((sh_ (p1 / 2 ^ (kh / v2)) ww 8 i) * (cc i)) / 100)))), ar_I mk cI 8 fkp, ar_I mc cI 8 fct, ar_I mth cI 80 ffx, ar_I mw cI 808 fwt, ar_I msh cI 808 (wf_ frw kh (sh_ (p1 / 2 ^ (kh / v2)) ww 8) 8), ar_I mpo cI 101 (upd fpo kh (nI (p1 / 2 ^ (kh / v2)))), ar_L mpa cJ 10 (sl_v zq (fun a => lN (xx (i * 10 + a))) j), ar_I mde cI 10 ze] H := hP
              have hD : va_D A [ob_J y 6 [.int th, .int (nI hh), .int r0, .int r1, .int r2, .int r3, .ref mb, .int given, .int (mrew + (nI (p1 / 2 ^ (kh / v2)))), .int (nI sz), .ref mk, .ref mc, .ref ms, .ref md, .ref mf, .ref mst, .ref mth, .ref mdr, .ref mw, .ref msh, .ref mpo, .ref mpa, .ref mde, .ref mj], ar_I mb cI 10 (upd (pw_ fbal kk cc (sh_ (p1 / 2 ^ (kh / v2)) ww 8) ww xx i) (kk i) (((pw_ fbal kk cc (sh_ (p1 / 2 ^ (kh / v2)) ww 8) ww xx i) (kk i)) + (nI (((sh_ (p1 / 2 ^ (kh / v2)) ww 8 i) * (cc i)) / 100)))), ar_I mk cI 8 fkp, ar_I mc cI 8 fct, ar_I mth cI 80 ffx, ar_I mw cI 808 fwt, ar_I msh cI 808 (wf_ frw kh (sh_ (p1 / 2 ^ (kh / v2)) ww 8) 8), ar_I mpo cI 101 (upd fpo kh (nI (p1 / 2 ^ (kh / v2)))), ar_L mpa cJ 10 (sl_v zq (fun a => lN (xx (i * 10 + a))) j), ar_I mde cI 10 ze] := hD
              have hl : lv_has ls 6 [(0, .ref y), (1, .int (nI kh)), (2, .int (nI (p1 / 2 ^ (kh / v2)))), (3, .int (nI i)), (4, .int (nI (((sh_ (p1 / 2 ^ (kh / v2)) ww 8 i) * (cc i)) / 100))), (5, .int (nI j))] := hl
              refine lv_iload hx hb dX6_payFor_200 (lv_at hl 5 rfl) ?_
              refine lv_bipush (v := 10) hx hb dX6_payFor_202 (by decide) ?_
              refine lv_icmp_ge (tgt := 233) hx hb dX6_payFor_204 (by decide) (fun c_204 => ?_) (fun c_204 => ?_)
              · have c_204 := qq_ge (a := j) (b := 10) c_204 (by omega) (by omega)
                obtain rfl : j = 10 := by omega
                refine lv_aload_n hx hb dX6_payFor_233 rfl (lv_at hl 0 rfl) ?_
                refine lv_aload_n hx hb dX6_payFor_234 rfl (lv_at hl 0 rfl) ?_
                refine va_get (ci := 6) (v := .ref msh) (C := RX6) (T := TX6) (N := 24) hx hb hts bi_6 hown hK hP 0 rfl rfl 19 (by decide) (hts _ bw_424) (fun _ h9 => h9) rfl dX6_payFor_235 ?_
                refine lv_bipush (v := 8) hx hb dX6_payFor_238 (by decide) ?_
                refine lv_iload_n hx hb dX6_payFor_240 rfl (lv_at hl 1 rfl) ?_
                refine lv_imul hx hb dX6_payFor_241 ?_
                refine tp_i (x' := nI (kh * 8)) (nn_mulc rfl rfl) ?_
                refine lv_iload_n hx hb dX6_payFor_242 rfl (lv_at hl 3 rfl) ?_
                refine lv_iadd hx hb dX6_payFor_243 ?_
                refine tp_i (x' := nI ((kh * 8) + i)) (nn_add rfl rfl) ?_
                refine ar_ld hx hb hK hP 6 (k := (kh * 8) + i) rfl rfl (by omega) (by decide) dX6_payFor_244 ?_
                refine tp_i (x' := nI (sh_ (p1 / 2 ^ (kh / v2)) ww 8 i)) (wf_i (by omega)) ?_
                refine lv_iload hx hb dX6_payFor_245 (lv_at hl 4 rfl) ?_
                refine lv_isub hx hb dX6_payFor_247 ?_
                refine tp_i (x' := nI ((sh_ (p1 / 2 ^ (kh / v2)) ww 8 i) - (((sh_ (p1 / 2 ^ (kh / v2)) ww 8 i) * (cc i)) / 100))) (nn_sub rfl rfl (by omega)) ?_
                refine lv_bipush (v := 10) hx hb dX6_payFor_248 (by decide) ?_
                refine ca_VV (rest := []) (wr := [ar_I mb cI 10 (upd (pw_ fbal kk cc (sh_ (p1 / 2 ^ (kh / v2)) ww 8) ww xx i) (kk i) (((pw_ fbal kk cc (sh_ (p1 / 2 ^ (kh / v2)) ww 8) ww xx i) (kk i)) + (nI (((sh_ (p1 / 2 ^ (kh / v2)) ww 8 i) * (cc i)) / 100)))), ar_I mk cI 8 fkp, ar_I mc cI 8 fct, ar_I mth cI 80 ffx, ar_I mw cI 808 fwt, ar_I msh cI 808 (wf_ frw kh (sh_ (p1 / 2 ^ (kh / v2)) ww 8) 8), ar_I mpo cI 101 (upd fpo kh (nI (p1 / 2 ^ (kh / v2))))]) (w2 := fun u_u => [ob_J y 6 [.int th, .int (nI hh), .int r0, .int r1, .int r2, .int r3, .ref mb, .int given, .int (mrew + (nI (p1 / 2 ^ (kh / v2)))), .int (nI sz), .ref mk, .ref mc, .ref ms, .ref md, .ref mf, .ref mst, .ref mth, .ref mdr, .ref mw, .ref msh, .ref mpo, .ref mpa, .ref mde, .ref mj], ar_I mb cI 10 (upd (pw_ fbal kk cc (sh_ (p1 / 2 ^ (kh / v2)) ww 8) ww xx i) (kk i) (((pw_ fbal kk cc (sh_ (p1 / 2 ^ (kh / v2)) ww 8) ww xx i) (kk i)) + (nI (((sh_ (p1 / 2 ^ (kh / v2)) ww 8 i) * (cc i)) / 100)))), ar_I mk cI 8 fkp, ar_I mc cI 8 fct, ar_I mth cI 80 ffx, ar_I mw cI 808 fwt, ar_I msh cI 808 (wf_ frw kh (sh_ (p1 / 2 ^ (kh / v2)) ww 8) 8), ar_I mpo cI 101 (upd fpo kh (nI (p1 / 2 ^ (kh / v2)))), ar_L mpa cJ 10 (sl_v zq (fun a => lN (xx (i * 10 + a))) 10), ar_I mde cI 10 (se_v ze (fun k => nI (sh_ ((sh_ (p1 / 2 ^ (kh / v2)) ww 8 i) - (((sh_ (p1 / 2 ^ (kh / v2)) ww 8 i) * (cc i)) / 100)) (fun a => xx (i * 10 + a)) 10 k)) 10)]) (k_X6_deal l D cI cJ cZ y mpa mde th hh r0 r1 r2 r3 mb given (mrew + (nI (p1 / 2 ^ (kh / v2)))) sz mk mc ms md mf mst mth mdr mw msh mpo mj (sl_v zq (fun a => lN (xx (i * 10 + a))) 10) ze ((sh_ (p1 / 2 ^ (kh / v2)) ww 8 i) - (((sh_ (p1 / 2 ^ (kh / v2)) ww 8 i) * (cc i)) / 100)) 10 (fun a => xx (i * 10 + a)) (by first | assumption | omega) (by first | assumption | omega) (by first | assumption | omega) (hxp i (by omega) (by omega)) (fun a ha => ⟨by simp only [sl_v]; rw [if_pos ha], (hxx (i * 10 + a) (by omega)).2⟩)) hx hb hml hown hts hN hK hA hP hD hS 6 0 rfl rfl bw_538 bw_540 bs_11 bw_7 bw_541 2 rfl (by decide +kernel) ⟨by decide, by decide⟩ [0, 8, 9] [1, 2, 3, 4, 5, 6, 7] [7, 0, 1, 2, 3, 4, 5, 6, 8, 9] rfl rfl (by decide) (fun _ => rfl) hl.1 rfl (Nat.le_of_ble_eq_true rfl) dX6_payFor_250 ⟨Nat.zero_le _, Nat.zero_le _⟩ (fun u_u H locs w_250 hP hD hS => ?_)
                have hP : va_P D cl_A [ob_J y 6 [.int th, .int (nI hh), .int r0, .int r1, .int r2, .int r3, .ref mb, .int given, .int (mrew + (nI (p1 / 2 ^ (kh / v2)))), .int (nI sz), .ref mk, .ref mc, .ref ms, .ref md, .ref mf, .ref mst, .ref mth, .ref mdr, .ref mw, .ref msh, .ref mpo, .ref mpa, .ref mde, .ref mj], ar_I mb cI 10 (upd (pw_ fbal kk cc (sh_ (p1 / 2 ^ (kh / v2)) ww 8) ww xx i) (kk i) (((pw_ fbal kk cc (sh_ (p1 / 2 ^ (kh / v2)) ww 8) ww xx i) (kk i)) + (nI (((sh_ (p1 / 2 ^ (kh / v2)) ww 8 i) * (cc i)) / 100)))), ar_I mk cI 8 fkp, ar_I mc cI 8 fct, ar_I mth cI 80 ffx, ar_I mw cI 808 fwt, ar_I msh cI 808 (wf_ frw kh (sh_ (p1 / 2 ^ (kh / v2)) ww 8) 8), ar_I mpo cI 101 (upd fpo kh (nI (p1 / 2 ^ (kh / v2)))), ar_L mpa cJ 10 (sl_v zq (fun a => lN (xx (i * 10 + a))) 10), ar_I mde cI 10 (se_v ze (fun k => nI (sh_ ((sh_ (p1 / 2 ^ (kh / v2)) ww 8 i) - (((sh_ (p1 / 2 ^ (kh / v2)) ww 8 i) * (cc i)) / 100)) (fun a => xx (i * 10 + a)) 10 k)) 10)] H := hP
                have hD : va_D A [ob_J y 6 [.int th, .int (nI hh), .int r0, .int r1, .int r2, .int r3, .ref mb, .int given, .int (mrew + (nI (p1 / 2 ^ (kh / v2)))), .int (nI sz), .ref mk, .ref mc, .ref ms, .ref md, .ref mf, .ref mst, .ref mth, .ref mdr, .ref mw, .ref msh, .ref mpo, .ref mpa, .ref mde, .ref mj], ar_I mb cI 10 (upd (pw_ fbal kk cc (sh_ (p1 / 2 ^ (kh / v2)) ww 8) ww xx i) (kk i) (((pw_ fbal kk cc (sh_ (p1 / 2 ^ (kh / v2)) ww 8) ww xx i) (kk i)) + (nI (((sh_ (p1 / 2 ^ (kh / v2)) ww 8 i) * (cc i)) / 100)))), ar_I mk cI 8 fkp, ar_I mc cI 8 fct, ar_I mth cI 80 ffx, ar_I mw cI 808 fwt, ar_I msh cI 808 (wf_ frw kh (sh_ (p1 / 2 ^ (kh / v2)) ww 8) 8), ar_I mpo cI 101 (upd fpo kh (nI (p1 / 2 ^ (kh / v2)))), ar_L mpa cJ 10 (sl_v zq (fun a => lN (xx (i * 10 + a))) 10), ar_I mde cI 10 (se_v ze (fun k => nI (sh_ ((sh_ (p1 / 2 ^ (kh / v2)) ww 8 i) - (((sh_ (p1 / 2 ^ (kh / v2)) ww 8 i) * (cc i)) / 100)) (fun a => xx (i * 10 + a)) 10 k)) 10)] := hD
                refine lv_iconst (v := 0) hx hb dX6_payFor_253 (by decide) ?_
                refine lv_istore (lv' := [(5, .int 0), (0, .ref y), (1, .int (nI kh)), (2, .int (nI (p1 / 2 ^ (kh / v2)))), (3, .int (nI i)), (4, .int (nI (((sh_ (p1 / 2 ^ (kh / v2)) ww 8 i) * (cc i)) / 100)))]) hx hb dX6_payFor_254 hl (by decide) rfl (fun ls hl => ?_)
                have q_14 : (upd (pw_ fbal kk cc (sh_ (p1 / 2 ^ (kh / v2)) ww 8) ww xx i) (kk i) (((pw_ fbal kk cc (sh_ (p1 / 2 ^ (kh / v2)) ww 8) ww xx i) (kk i)) + (nI (((sh_ (p1 / 2 ^ (kh / v2)) ww 8 i) * (cc i)) / 100)))) = (ad_v (upd (pw_ fbal kk cc (sh_ (p1 / 2 ^ (kh / v2)) ww 8) ww xx i) (kk i) (pw_ fbal kk cc (sh_ (p1 / 2 ^ (kh / v2)) ww 8) ww xx i (kk i) + nI (sh_ (p1 / 2 ^ (kh / v2)) ww 8 i * cc i / 100))) (fun b => nI (sh_ (sh_ (p1 / 2 ^ (kh / v2)) ww 8 i - sh_ (p1 / 2 ^ (kh / v2)) ww 8 i * cc i / 100) (fun a => xx (i * 10 + a)) 10 b)) 0) := ad_0 _ _
                obtain ⟨hP, hD⟩ := cs_W (fun z_z => [ob_J y 6 [.int th, .int (nI hh), .int r0, .int r1, .int r2, .int r3, .ref mb, .int given, .int (mrew + (nI (p1 / 2 ^ (kh / v2)))), .int (nI sz), .ref mk, .ref mc, .ref ms, .ref md, .ref mf, .ref mst, .ref mth, .ref mdr, .ref mw, .ref msh, .ref mpo, .ref mpa, .ref mde, .ref mj], ar_I mb cI 10 z_z, ar_I mk cI 8 fkp, ar_I mc cI 8 fct, ar_I mth cI 80 ffx, ar_I mw cI 808 fwt, ar_I msh cI 808 (wf_ frw kh (sh_ (p1 / 2 ^ (kh / v2)) ww 8) 8), ar_I mpo cI 101 (upd fpo kh (nI (p1 / 2 ^ (kh / v2)))), ar_L mpa cJ 10 (sl_v zq (fun a => lN (xx (i * 10 + a))) 10), ar_I mde cI 10 (se_v ze (fun k => nI (sh_ ((sh_ (p1 / 2 ^ (kh / v2)) ww 8 i) - (((sh_ (p1 / 2 ^ (kh / v2)) ww 8 i) * (cc i)) / 100)) (fun a => xx (i * 10 + a)) 10 k)) 10)]) q_14 hP hD
                have hl := lv_sub (l' := [(0, .ref y), (1, .int (nI kh)), (2, .int (nI (p1 / 2 ^ (kh / v2)))), (3, .int (nI i)), (4, .int (nI (((sh_ (p1 / 2 ^ (kh / v2)) ww 8 i) * (cc i)) / 100))), (5, .int 0)]) hl [1, 2, 3, 4, 5, 0] rfl
                have q_15 : 0 = (nI 0) := rfl
                have hl := cs_L (fun z_z => [(0, .ref y), (1, .int (nI kh)), (2, .int (nI (p1 / 2 ^ (kh / v2)))), (3, .int (nI i)), (4, .int (nI (((sh_ (p1 / 2 ^ (kh / v2)) ww 8 i) * (cc i)) / 100))), (5, .int z_z)]) q_15 hl
                have hl : lv_has ls 6 [(0, .ref y), (1, .int (nI kh)), (2, .int (nI (p1 / 2 ^ (kh / v2)))), (3, .int (nI i)), (4, .int (nI (((sh_ (p1 / 2 ^ (kh / v2)) ww 8 i) * (cc i)) / 100))), (5, .int (nI 0))] := hl
                refine lp_g (σ := Nat) (fun j => 10 - j) (fun j => [ob_J y 6 [.int th, .int (nI hh), .int r0, .int r1, .int r2, .int r3, .ref mb, .int given, .int (mrew + (nI (p1 / 2 ^ (kh / v2)))), .int (nI sz), .ref mk, .ref mc, .ref ms, .ref md, .ref mf, .ref mst, .ref mth, .ref mdr, .ref mw, .ref msh, .ref mpo, .ref mpa, .ref mde, .ref mj], ar_I mb cI 10 (ad_v (upd (pw_ fbal kk cc (sh_ (p1 / 2 ^ (kh / v2)) ww 8) ww xx i) (kk i) (pw_ fbal kk cc (sh_ (p1 / 2 ^ (kh / v2)) ww 8) ww xx i (kk i) + nI (sh_ (p1 / 2 ^ (kh / v2)) ww 8 i * cc i / 100))) (fun b => nI (sh_ (sh_ (p1 / 2 ^ (kh / v2)) ww 8 i - sh_ (p1 / 2 ^ (kh / v2)) ww 8 i * cc i / 100) (fun a => xx (i * 10 + a)) 10 b)) j), ar_I mk cI 8 fkp, ar_I mc cI 8 fct, ar_I mth cI 80 ffx, ar_I mw cI 808 fwt, ar_I msh cI 808 (wf_ frw kh (sh_ (p1 / 2 ^ (kh / v2)) ww 8) 8), ar_I mpo cI 101 (upd fpo kh (nI (p1 / 2 ^ (kh / v2)))), ar_L mpa cJ 10 (sl_v zq (fun a => lN (xx (i * 10 + a))) 10), ar_I mde cI 10 (se_v ze (fun k => nI (sh_ ((sh_ (p1 / 2 ^ (kh / v2)) ww 8 i) - (((sh_ (p1 / 2 ^ (kh / v2)) ww 8 i) * (cc i)) / 100)) (fun a => xx (i * 10 + a)) 10 k)) 10)]) (fun j => [(0, .ref y), (1, .int (nI kh)), (2, .int (nI (p1 / 2 ^ (kh / v2)))), (3, .int (nI i)), (4, .int (nI (((sh_ (p1 / 2 ^ (kh / v2)) ww 8 i) * (cc i)) / 100))), (5, .int (nI j))]) (fun j => (j ≤ 10)) ?_ 0 (show (0 ≤ 10) from by omega) hP hD hS hl
                intro j H locs ls hF hP hD hS hl ih_256
                have hF : (j ≤ 10) := hF
                have hj := hF
                have hP : va_P D cl_A [ob_J y 6 [.int th, .int (nI hh), .int r0, .int r1, .int r2, .int r3, .ref mb, .int given, .int (mrew + (nI (p1 / 2 ^ (kh / v2)))), .int (nI sz), .ref mk, .ref mc, .ref ms, .ref md, .ref mf, .ref mst, .ref mth, .ref mdr, .ref mw, .ref msh, .ref mpo, .ref mpa, .ref mde, .ref mj], ar_I mb cI 10 (ad_v (upd (pw_ fbal kk cc (sh_ (p1 / 2 ^ (kh / v2)) ww 8) ww xx i) (kk i) (pw_ fbal kk cc (sh_ (p1 / 2 ^ (kh / v2)) ww 8) ww xx i (kk i) + nI (sh_ (p1 / 2 ^ (kh / v2)) ww 8 i * cc i / 100))) (fun b => nI (sh_ (sh_ (p1 / 2 ^ (kh / v2)) ww 8 i - sh_ (p1 / 2 ^ (kh / v2)) ww 8 i * cc i / 100) (fun a => xx (i * 10 + a)) 10 b)) j), ar_I mk cI 8 fkp, ar_I mc cI 8 fct, ar_I mth cI 80 ffx, ar_I mw cI 808 fwt, ar_I msh cI 808 (wf_ frw kh (sh_ (p1 / 2 ^ (kh / v2)) ww 8) 8), ar_I mpo cI 101 (upd fpo kh (nI (p1 / 2 ^ (kh / v2)))), ar_L mpa cJ 10 (sl_v zq (fun a => lN (xx (i * 10 + a))) 10), ar_I mde cI 10 (se_v ze (fun k => nI (sh_ ((sh_ (p1 / 2 ^ (kh / v2)) ww 8 i) - (((sh_ (p1 / 2 ^ (kh / v2)) ww 8 i) * (cc i)) / 100)) (fun a => xx (i * 10 + a)) 10 k)) 10)] H := hP
                have hD : va_D A [ob_J y 6 [.int th, .int (nI hh), .int r0, .int r1, .int r2, .int r3, .ref mb, .int given, .int (mrew + (nI (p1 / 2 ^ (kh / v2)))), .int (nI sz), .ref mk, .ref mc, .ref ms, .ref md, .ref mf, .ref mst, .ref mth, .ref mdr, .ref mw, .ref msh, .ref mpo, .ref mpa, .ref mde, .ref mj], ar_I mb cI 10 (ad_v (upd (pw_ fbal kk cc (sh_ (p1 / 2 ^ (kh / v2)) ww 8) ww xx i) (kk i) (pw_ fbal kk cc (sh_ (p1 / 2 ^ (kh / v2)) ww 8) ww xx i (kk i) + nI (sh_ (p1 / 2 ^ (kh / v2)) ww 8 i * cc i / 100))) (fun b => nI (sh_ (sh_ (p1 / 2 ^ (kh / v2)) ww 8 i - sh_ (p1 / 2 ^ (kh / v2)) ww 8 i * cc i / 100) (fun a => xx (i * 10 + a)) 10 b)) j), ar_I mk cI 8 fkp, ar_I mc cI 8 fct, ar_I mth cI 80 ffx, ar_I mw cI 808 fwt, ar_I msh cI 808 (wf_ frw kh (sh_ (p1 / 2 ^ (kh / v2)) ww 8) 8), ar_I mpo cI 101 (upd fpo kh (nI (p1 / 2 ^ (kh / v2)))), ar_L mpa cJ 10 (sl_v zq (fun a => lN (xx (i * 10 + a))) 10), ar_I mde cI 10 (se_v ze (fun k => nI (sh_ ((sh_ (p1 / 2 ^ (kh / v2)) ww 8 i) - (((sh_ (p1 / 2 ^ (kh / v2)) ww 8 i) * (cc i)) / 100)) (fun a => xx (i * 10 + a)) 10 k)) 10)] := hD
                have hl : lv_has ls 6 [(0, .ref y), (1, .int (nI kh)), (2, .int (nI (p1 / 2 ^ (kh / v2)))), (3, .int (nI i)), (4, .int (nI (((sh_ (p1 / 2 ^ (kh / v2)) ww 8 i) * (cc i)) / 100))), (5, .int (nI j))] := hl
                refine lv_iload hx hb dX6_payFor_256 (lv_at hl 5 rfl) ?_
                refine lv_bipush (v := 10) hx hb dX6_payFor_258 (by decide) ?_
                refine lv_icmp_ge (tgt := 291) hx hb dX6_payFor_260 (by decide) (fun c_260 => ?_) (fun c_260 => ?_)
                · have c_260 := qq_ge (a := j) (b := 10) c_260 (by omega) (by omega)
                  obtain rfl : j = 10 := by omega
                  refine lv_iinc (v := nI (i + 1)) (lv' := [(3, .int (nI (i + 1))), (0, .ref y), (1, .int (nI kh)), (2, .int (nI (p1 / 2 ^ (kh / v2)))), (4, .int (nI (((sh_ (p1 / 2 ^ (kh / v2)) ww 8 i) * (cc i)) / 100))), (5, .int (nI 10))]) hx hb dX6_payFor_291 hl (k := 3) rfl (nI_1 _) (by decide) rfl (fun ls hl => ?_)
                  refine lv_goto (tgt := 129) hx hb dX6_payFor_294 (by decide) ?_
                  have q_16 : (ad_v (upd (pw_ fbal kk cc (sh_ (p1 / 2 ^ (kh / v2)) ww 8) ww xx i) (kk i) (pw_ fbal kk cc (sh_ (p1 / 2 ^ (kh / v2)) ww 8) ww xx i (kk i) + nI (sh_ (p1 / 2 ^ (kh / v2)) ww 8 i * cc i / 100))) (fun b => nI (sh_ (sh_ (p1 / 2 ^ (kh / v2)) ww 8 i - sh_ (p1 / 2 ^ (kh / v2)) ww 8 i * cc i / 100) (fun a => xx (i * 10 + a)) 10 b)) 10) = (pw_ fbal kk cc (sh_ (p1 / 2 ^ (kh / v2)) ww 8) ww xx (i + 1)) := by rw [pw_s, if_neg (by omega)]; rfl
                  obtain ⟨hP, hD⟩ := cs_W (fun z_z => [ob_J y 6 [.int th, .int (nI hh), .int r0, .int r1, .int r2, .int r3, .ref mb, .int given, .int (mrew + (nI (p1 / 2 ^ (kh / v2)))), .int (nI sz), .ref mk, .ref mc, .ref ms, .ref md, .ref mf, .ref mst, .ref mth, .ref mdr, .ref mw, .ref msh, .ref mpo, .ref mpa, .ref mde, .ref mj], ar_I mb cI 10 z_z, ar_I mk cI 8 fkp, ar_I mc cI 8 fct, ar_I mth cI 80 ffx, ar_I mw cI 808 fwt, ar_I msh cI 808 (wf_ frw kh (sh_ (p1 / 2 ^ (kh / v2)) ww 8) 8), ar_I mpo cI 101 (upd fpo kh (nI (p1 / 2 ^ (kh / v2)))), ar_L mpa cJ 10 (sl_v zq (fun a => lN (xx (i * 10 + a))) 10), ar_I mde cI 10 (se_v ze (fun k => nI (sh_ ((sh_ (p1 / 2 ^ (kh / v2)) ww 8 i) - (((sh_ (p1 / 2 ^ (kh / v2)) ww 8 i) * (cc i)) / 100)) (fun a => xx (i * 10 + a)) 10 k)) 10)]) q_16 hP hD
                  have hl := lv_sub (l' := [(0, .ref y), (1, .int (nI kh)), (2, .int (nI (p1 / 2 ^ (kh / v2)))), (3, .int (nI (i + 1)))]) hl [1, 2, 3, 0] rfl
                  have hl : lv_has ls 6 [(0, .ref y), (1, .int (nI kh)), (2, .int (nI (p1 / 2 ^ (kh / v2)))), (3, .int (nI (i + 1)))] := hl
                  exact ih_129 (i + 1, sl_v zq (fun a => lN (xx (i * 10 + a))) 10, se_v ze (fun k => nI (sh_ ((sh_ (p1 / 2 ^ (kh / v2)) ww 8 i) - (((sh_ (p1 / 2 ^ (kh / v2)) ww 8 i) * (cc i)) / 100)) (fun a => xx (i * 10 + a)) 10 k)) 10) (show 8 - (i + 1) < 8 - i from by omega) (show ((i + 1) ≤ 8) from by omega) H locs ls hP hD hS hl
                · have c_260 := qq_nge (a := j) (b := 10) c_260 (by omega) (by omega)
                  refine lv_aload_n hx hb dX6_payFor_263 rfl (lv_at hl 0 rfl) ?_
                  refine va_get (ci := 6) (v := .ref mb) (C := RX6) (T := TX6) (N := 24) hx hb hts bi_6 hown hK hP 0 rfl rfl 6 (by decide) (hts _ bw_411) (fun _ h9 => h9) rfl dX6_payFor_264 ?_
                  refine lv_iload hx hb dX6_payFor_267 (lv_at hl 5 rfl) ?_
                  refine lv_aload_n hx hb dX6_payFor_269 rfl (lv_at hl 0 rfl) ?_
                  refine va_get (ci := 6) (v := .ref mb) (C := RX6) (T := TX6) (N := 24) hx hb hts bi_6 hown hK hP 0 rfl rfl 6 (by decide) (hts _ bw_411) (fun _ h9 => h9) rfl dX6_payFor_270 ?_
                  refine lv_iload hx hb dX6_payFor_273 (lv_at hl 5 rfl) ?_
                  refine ar_ld hx hb hK hP 1 (k := j) rfl rfl (by omega) (by decide) dX6_payFor_275 ?_
                  refine lv_aload_n hx hb dX6_payFor_276 rfl (lv_at hl 0 rfl) ?_
                  refine va_get (ci := 6) (v := .ref mde) (C := RX6) (T := TX6) (N := 24) hx hb hts bi_6 hown hK hP 0 rfl rfl 22 (by decide) (hts _ bw_427) (fun _ h9 => h9) rfl dX6_payFor_277 ?_
                  refine lv_iload hx hb dX6_payFor_280 (lv_at hl 5 rfl) ?_
                  refine ar_ld hx hb hK hP 9 (k := j) rfl rfl (by omega) (by decide) dX6_payFor_282 ?_
                  refine tp_i (x' := nI (sh_ (sh_ (p1 / 2 ^ (kh / v2)) ww 8 i - sh_ (p1 / 2 ^ (kh / v2)) ww 8 i * cc i / 100) (fun a => xx (i * 10 + a)) 10 j)) (by simp only [se_v]; rw [if_pos (by omega)]) ?_
                  refine lv_iadd hx hb dX6_payFor_283 ?_
                  refine ar_st hx hb hK hP hD hS 1 (k := j) rfl rfl (by omega) (by decide) dX6_payFor_284 _ rfl (fun H locs hP hD hS => ?_)
                  have hP : va_P D cl_A [ob_J y 6 [.int th, .int (nI hh), .int r0, .int r1, .int r2, .int r3, .ref mb, .int given, .int (mrew + (nI (p1 / 2 ^ (kh / v2)))), .int (nI sz), .ref mk, .ref mc, .ref ms, .ref md, .ref mf, .ref mst, .ref mth, .ref mdr, .ref mw, .ref msh, .ref mpo, .ref mpa, .ref mde, .ref mj], ar_I mb cI 10 (upd (ad_v (upd (pw_ fbal kk cc (sh_ (p1 / 2 ^ (kh / v2)) ww 8) ww xx i) (kk i) (pw_ fbal kk cc (sh_ (p1 / 2 ^ (kh / v2)) ww 8) ww xx i (kk i) + nI (sh_ (p1 / 2 ^ (kh / v2)) ww 8 i * cc i / 100))) (fun b => nI (sh_ (sh_ (p1 / 2 ^ (kh / v2)) ww 8 i - sh_ (p1 / 2 ^ (kh / v2)) ww 8 i * cc i / 100) (fun a => xx (i * 10 + a)) 10 b)) j) j (((ad_v (upd (pw_ fbal kk cc (sh_ (p1 / 2 ^ (kh / v2)) ww 8) ww xx i) (kk i) (pw_ fbal kk cc (sh_ (p1 / 2 ^ (kh / v2)) ww 8) ww xx i (kk i) + nI (sh_ (p1 / 2 ^ (kh / v2)) ww 8 i * cc i / 100))) (fun b => nI (sh_ (sh_ (p1 / 2 ^ (kh / v2)) ww 8 i - sh_ (p1 / 2 ^ (kh / v2)) ww 8 i * cc i / 100) (fun a => xx (i * 10 + a)) 10 b)) j) j) + (nI (sh_ (sh_ (p1 / 2 ^ (kh / v2)) ww 8 i - sh_ (p1 / 2 ^ (kh / v2)) ww 8 i * cc i / 100) (fun a => xx (i * 10 + a)) 10 j)))), ar_I mk cI 8 fkp, ar_I mc cI 8 fct, ar_I mth cI 80 ffx, ar_I mw cI 808 fwt, ar_I msh cI 808 (wf_ frw kh (sh_ (p1 / 2 ^ (kh / v2)) ww 8) 8), ar_I mpo cI 101 (upd fpo kh (nI (p1 / 2 ^ (kh / v2)))), ar_L mpa cJ 10 (sl_v zq (fun a => lN (xx (i * 10 + a))) 10), ar_I mde cI 10 (se_v ze (fun k => nI (sh_ ((sh_ (p1 / 2 ^ (kh / v2)) ww 8 i) - (((sh_ (p1 / 2 ^ (kh / v2)) ww 8 i) * (cc i)) / 100)) (fun a => xx (i * 10 + a)) 10 k)) 10)] H := hP
                  have hD : va_D A [ob_J y 6 [.int th, .int (nI hh), .int r0, .int r1, .int r2, .int r3, .ref mb, .int given, .int (mrew + (nI (p1 / 2 ^ (kh / v2)))), .int (nI sz), .ref mk, .ref mc, .ref ms, .ref md, .ref mf, .ref mst, .ref mth, .ref mdr, .ref mw, .ref msh, .ref mpo, .ref mpa, .ref mde, .ref mj], ar_I mb cI 10 (upd (ad_v (upd (pw_ fbal kk cc (sh_ (p1 / 2 ^ (kh / v2)) ww 8) ww xx i) (kk i) (pw_ fbal kk cc (sh_ (p1 / 2 ^ (kh / v2)) ww 8) ww xx i (kk i) + nI (sh_ (p1 / 2 ^ (kh / v2)) ww 8 i * cc i / 100))) (fun b => nI (sh_ (sh_ (p1 / 2 ^ (kh / v2)) ww 8 i - sh_ (p1 / 2 ^ (kh / v2)) ww 8 i * cc i / 100) (fun a => xx (i * 10 + a)) 10 b)) j) j (((ad_v (upd (pw_ fbal kk cc (sh_ (p1 / 2 ^ (kh / v2)) ww 8) ww xx i) (kk i) (pw_ fbal kk cc (sh_ (p1 / 2 ^ (kh / v2)) ww 8) ww xx i (kk i) + nI (sh_ (p1 / 2 ^ (kh / v2)) ww 8 i * cc i / 100))) (fun b => nI (sh_ (sh_ (p1 / 2 ^ (kh / v2)) ww 8 i - sh_ (p1 / 2 ^ (kh / v2)) ww 8 i * cc i / 100) (fun a => xx (i * 10 + a)) 10 b)) j) j) + (nI (sh_ (sh_ (p1 / 2 ^ (kh / v2)) ww 8 i - sh_ (p1 / 2 ^ (kh / v2)) ww 8 i * cc i / 100) (fun a => xx (i * 10 + a)) 10 j)))), ar_I mk cI 8 fkp, ar_I mc cI 8 fct, ar_I mth cI 80 ffx, ar_I mw cI 808 fwt, ar_I msh cI 808 (wf_ frw kh (sh_ (p1 / 2 ^ (kh / v2)) ww 8) 8), ar_I mpo cI 101 (upd fpo kh (nI (p1 / 2 ^ (kh / v2)))), ar_L mpa cJ 10 (sl_v zq (fun a => lN (xx (i * 10 + a))) 10), ar_I mde cI 10 (se_v ze (fun k => nI (sh_ ((sh_ (p1 / 2 ^ (kh / v2)) ww 8 i) - (((sh_ (p1 / 2 ^ (kh / v2)) ww 8 i) * (cc i)) / 100)) (fun a => xx (i * 10 + a)) 10 k)) 10)] := hD
                  refine lv_iinc (v := nI (j + 1)) (lv' := [(5, .int (nI (j + 1))), (0, .ref y), (1, .int (nI kh)), (2, .int (nI (p1 / 2 ^ (kh / v2)))), (3, .int (nI i)), (4, .int (nI (((sh_ (p1 / 2 ^ (kh / v2)) ww 8 i) * (cc i)) / 100)))]) hx hb dX6_payFor_285 hl (k := 5) rfl (nI_1 _) (by decide) rfl (fun ls hl => ?_)
                  refine lv_goto (tgt := 256) hx hb dX6_payFor_288 (by decide) ?_
                  have q_17 : (upd (ad_v (upd (pw_ fbal kk cc (sh_ (p1 / 2 ^ (kh / v2)) ww 8) ww xx i) (kk i) (pw_ fbal kk cc (sh_ (p1 / 2 ^ (kh / v2)) ww 8) ww xx i (kk i) + nI (sh_ (p1 / 2 ^ (kh / v2)) ww 8 i * cc i / 100))) (fun b => nI (sh_ (sh_ (p1 / 2 ^ (kh / v2)) ww 8 i - sh_ (p1 / 2 ^ (kh / v2)) ww 8 i * cc i / 100) (fun a => xx (i * 10 + a)) 10 b)) j) j (((ad_v (upd (pw_ fbal kk cc (sh_ (p1 / 2 ^ (kh / v2)) ww 8) ww xx i) (kk i) (pw_ fbal kk cc (sh_ (p1 / 2 ^ (kh / v2)) ww 8) ww xx i (kk i) + nI (sh_ (p1 / 2 ^ (kh / v2)) ww 8 i * cc i / 100))) (fun b => nI (sh_ (sh_ (p1 / 2 ^ (kh / v2)) ww 8 i - sh_ (p1 / 2 ^ (kh / v2)) ww 8 i * cc i / 100) (fun a => xx (i * 10 + a)) 10 b)) j) j) + (nI (sh_ (sh_ (p1 / 2 ^ (kh / v2)) ww 8 i - sh_ (p1 / 2 ^ (kh / v2)) ww 8 i * cc i / 100) (fun a => xx (i * 10 + a)) 10 j)))) = (ad_v (upd (pw_ fbal kk cc (sh_ (p1 / 2 ^ (kh / v2)) ww 8) ww xx i) (kk i) (pw_ fbal kk cc (sh_ (p1 / 2 ^ (kh / v2)) ww 8) ww xx i (kk i) + nI (sh_ (p1 / 2 ^ (kh / v2)) ww 8 i * cc i / 100))) (fun b => nI (sh_ (sh_ (p1 / 2 ^ (kh / v2)) ww 8 i - sh_ (p1 / 2 ^ (kh / v2)) ww 8 i * cc i / 100) (fun a => xx (i * 10 + a)) 10 b)) (j + 1)) := ad_s _ (fun b => nI (sh_ (sh_ (p1 / 2 ^ (kh / v2)) ww 8 i - sh_ (p1 / 2 ^ (kh / v2)) ww 8 i * cc i / 100) (fun a => xx (i * 10 + a)) 10 b)) j
                  obtain ⟨hP, hD⟩ := cs_W (fun z_z => [ob_J y 6 [.int th, .int (nI hh), .int r0, .int r1, .int r2, .int r3, .ref mb, .int given, .int (mrew + (nI (p1 / 2 ^ (kh / v2)))), .int (nI sz), .ref mk, .ref mc, .ref ms, .ref md, .ref mf, .ref mst, .ref mth, .ref mdr, .ref mw, .ref msh, .ref mpo, .ref mpa, .ref mde, .ref mj], ar_I mb cI 10 z_z, ar_I mk cI 8 fkp, ar_I mc cI 8 fct, ar_I mth cI 80 ffx, ar_I mw cI 808 fwt, ar_I msh cI 808 (wf_ frw kh (sh_ (p1 / 2 ^ (kh / v2)) ww 8) 8), ar_I mpo cI 101 (upd fpo kh (nI (p1 / 2 ^ (kh / v2)))), ar_L mpa cJ 10 (sl_v zq (fun a => lN (xx (i * 10 + a))) 10), ar_I mde cI 10 (se_v ze (fun k => nI (sh_ ((sh_ (p1 / 2 ^ (kh / v2)) ww 8 i) - (((sh_ (p1 / 2 ^ (kh / v2)) ww 8 i) * (cc i)) / 100)) (fun a => xx (i * 10 + a)) 10 k)) 10)]) q_17 hP hD
                  have hl := lv_sub (l' := [(0, .ref y), (1, .int (nI kh)), (2, .int (nI (p1 / 2 ^ (kh / v2)))), (3, .int (nI i)), (4, .int (nI (((sh_ (p1 / 2 ^ (kh / v2)) ww 8 i) * (cc i)) / 100))), (5, .int (nI (j + 1)))]) hl [1, 2, 3, 4, 5, 0] rfl
                  have hl : lv_has ls 6 [(0, .ref y), (1, .int (nI kh)), (2, .int (nI (p1 / 2 ^ (kh / v2)))), (3, .int (nI i)), (4, .int (nI (((sh_ (p1 / 2 ^ (kh / v2)) ww 8 i) * (cc i)) / 100))), (5, .int (nI (j + 1)))] := hl
                  exact ih_256 (j + 1) (show 10 - (j + 1) < 10 - j from by omega) (show ((j + 1) ≤ 10) from by omega) H locs ls hP hD hS hl
              · have c_204 := qq_nge (a := j) (b := 10) c_204 (by omega) (by omega)
                refine lv_aload_n hx hb dX6_payFor_207 rfl (lv_at hl 0 rfl) ?_
                refine va_get (ci := 6) (v := .ref mpa) (C := RX6) (T := TX6) (N := 24) hx hb hts bi_6 hown hK hP 0 rfl rfl 21 (by decide) (hts _ bw_426) (fun _ h9 => h9) rfl dX6_payFor_208 ?_
                refine lv_iload hx hb dX6_payFor_211 (lv_at hl 5 rfl) ?_
                refine lv_aload_n hx hb dX6_payFor_213 rfl (lv_at hl 0 rfl) ?_
                refine va_get (ci := 6) (v := .ref mth) (C := RX6) (T := TX6) (N := 24) hx hb hts bi_6 hown hK hP 0 rfl rfl 16 (by decide) (hts _ bw_421) (fun _ h9 => h9) rfl dX6_payFor_214 ?_
                refine lv_bipush (v := 10) hx hb dX6_payFor_217 (by decide) ?_
                refine lv_iload_n hx hb dX6_payFor_219 rfl (lv_at hl 3 rfl) ?_
                refine lv_imul hx hb dX6_payFor_220 ?_
                refine tp_i (x' := nI (i * 10)) (nn_mulc rfl rfl) ?_
                refine lv_iload hx hb dX6_payFor_221 (lv_at hl 5 rfl) ?_
                refine lv_iadd hx hb dX6_payFor_223 ?_
                refine tp_i (x' := nI ((i * 10) + j)) (nn_add rfl rfl) ?_
                refine ar_ld hx hb hK hP 4 (k := (i * 10) + j) rfl rfl (by omega) (by decide) dX6_payFor_224 ?_
                refine tp_i (x' := nI (xx (i * 10 + j))) ((hxx (i * 10 + j) (by omega)).1) ?_
                have hxl := (hxx (i * 10 + j) (by omega)).2
                refine lv_i2l (v := lN (xx (i * 10 + j))) hx hb dX6_payFor_225 (nI_l (n := xx (i * 10 + j)) (by omega)) ?_
                refine ar_lst hx hb hK hP hD hS 8 (k := j) rfl rfl (by omega) (by decide) dX6_payFor_226 _ rfl (fun H locs hP hD hS => ?_)
                have hP : va_P D cl_A [ob_J y 6 [.int th, .int (nI hh), .int r0, .int r1, .int r2, .int r3, .ref mb, .int given, .int (mrew + (nI (p1 / 2 ^ (kh / v2)))), .int (nI sz), .ref mk, .ref mc, .ref ms, .ref md, .ref mf, .ref mst, .ref mth, .ref mdr, .ref mw, .ref msh, .ref mpo, .ref mpa, .ref mde, .ref mj], ar_I mb cI 10 (upd (pw_ fbal kk cc (sh_ (p1 / 2 ^ (kh / v2)) ww 8) ww xx i) (kk i) (((pw_ fbal kk cc (sh_ (p1 / 2 ^ (kh / v2)) ww 8) ww xx i) (kk i)) + (nI (((sh_ (p1 / 2 ^ (kh / v2)) ww 8 i) * (cc i)) / 100)))), ar_I mk cI 8 fkp, ar_I mc cI 8 fct, ar_I mth cI 80 ffx, ar_I mw cI 808 fwt, ar_I msh cI 808 (wf_ frw kh (sh_ (p1 / 2 ^ (kh / v2)) ww 8) 8), ar_I mpo cI 101 (upd fpo kh (nI (p1 / 2 ^ (kh / v2)))), ar_L mpa cJ 10 (vp_updL (sl_v zq (fun a => lN (xx (i * 10 + a))) j) j (lN (xx (i * 10 + j)))), ar_I mde cI 10 ze] H := hP
                have hD : va_D A [ob_J y 6 [.int th, .int (nI hh), .int r0, .int r1, .int r2, .int r3, .ref mb, .int given, .int (mrew + (nI (p1 / 2 ^ (kh / v2)))), .int (nI sz), .ref mk, .ref mc, .ref ms, .ref md, .ref mf, .ref mst, .ref mth, .ref mdr, .ref mw, .ref msh, .ref mpo, .ref mpa, .ref mde, .ref mj], ar_I mb cI 10 (upd (pw_ fbal kk cc (sh_ (p1 / 2 ^ (kh / v2)) ww 8) ww xx i) (kk i) (((pw_ fbal kk cc (sh_ (p1 / 2 ^ (kh / v2)) ww 8) ww xx i) (kk i)) + (nI (((sh_ (p1 / 2 ^ (kh / v2)) ww 8 i) * (cc i)) / 100)))), ar_I mk cI 8 fkp, ar_I mc cI 8 fct, ar_I mth cI 80 ffx, ar_I mw cI 808 fwt, ar_I msh cI 808 (wf_ frw kh (sh_ (p1 / 2 ^ (kh / v2)) ww 8) 8), ar_I mpo cI 101 (upd fpo kh (nI (p1 / 2 ^ (kh / v2)))), ar_L mpa cJ 10 (vp_updL (sl_v zq (fun a => lN (xx (i * 10 + a))) j) j (lN (xx (i * 10 + j)))), ar_I mde cI 10 ze] := hD
                refine lv_iinc (v := nI (j + 1)) (lv' := [(5, .int (nI (j + 1))), (0, .ref y), (1, .int (nI kh)), (2, .int (nI (p1 / 2 ^ (kh / v2)))), (3, .int (nI i)), (4, .int (nI (((sh_ (p1 / 2 ^ (kh / v2)) ww 8 i) * (cc i)) / 100)))]) hx hb dX6_payFor_227 hl (k := 5) rfl (nI_1 _) (by decide) rfl (fun ls hl => ?_)
                refine lv_goto (tgt := 200) hx hb dX6_payFor_230 (by decide) ?_
                have q_18 : (vp_updL (sl_v zq (fun a => lN (xx (i * 10 + a))) j) j (lN (xx (i * 10 + j)))) = (sl_v zq (fun a => lN (xx (i * 10 + a))) (j + 1)) := sl_s _ (fun a => lN (xx (i * 10 + a))) j
                obtain ⟨hP, hD⟩ := cs_W (fun z_z => [ob_J y 6 [.int th, .int (nI hh), .int r0, .int r1, .int r2, .int r3, .ref mb, .int given, .int (mrew + (nI (p1 / 2 ^ (kh / v2)))), .int (nI sz), .ref mk, .ref mc, .ref ms, .ref md, .ref mf, .ref mst, .ref mth, .ref mdr, .ref mw, .ref msh, .ref mpo, .ref mpa, .ref mde, .ref mj], ar_I mb cI 10 (upd (pw_ fbal kk cc (sh_ (p1 / 2 ^ (kh / v2)) ww 8) ww xx i) (kk i) (((pw_ fbal kk cc (sh_ (p1 / 2 ^ (kh / v2)) ww 8) ww xx i) (kk i)) + (nI (((sh_ (p1 / 2 ^ (kh / v2)) ww 8 i) * (cc i)) / 100)))), ar_I mk cI 8 fkp, ar_I mc cI 8 fct, ar_I mth cI 80 ffx, ar_I mw cI 808 fwt, ar_I msh cI 808 (wf_ frw kh (sh_ (p1 / 2 ^ (kh / v2)) ww 8) 8), ar_I mpo cI 101 (upd fpo kh (nI (p1 / 2 ^ (kh / v2)))), ar_L mpa cJ 10 z_z, ar_I mde cI 10 ze]) q_18 hP hD
                have hl := lv_sub (l' := [(0, .ref y), (1, .int (nI kh)), (2, .int (nI (p1 / 2 ^ (kh / v2)))), (3, .int (nI i)), (4, .int (nI (((sh_ (p1 / 2 ^ (kh / v2)) ww 8 i) * (cc i)) / 100))), (5, .int (nI (j + 1)))]) hl [1, 2, 3, 4, 5, 0] rfl
                have hl : lv_has ls 6 [(0, .ref y), (1, .int (nI kh)), (2, .int (nI (p1 / 2 ^ (kh / v2)))), (3, .int (nI i)), (4, .int (nI (((sh_ (p1 / 2 ^ (kh / v2)) ww 8 i) * (cc i)) / 100))), (5, .int (nI (j + 1)))] := hl
                exact ih_200 (j + 1) (show 10 - (j + 1) < 10 - j from by omega) (show ((j + 1) ≤ 10) from by omega) H locs ls hP hD hS hl
        · have c_84 := qq_nge (a := i) (b := 8) c_84 (by omega) (by omega)
          refine lv_aload_n hx hb dX6_payFor_87 rfl (lv_at hl 0 rfl) ?_
          refine va_get (ci := 6) (v := .ref msh) (C := RX6) (T := TX6) (N := 24) hx hb hts bi_6 hown hK hP 0 rfl rfl 19 (by decide) (hts _ bw_424) (fun _ h9 => h9) rfl dX6_payFor_88 ?_
          refine lv_bipush (v := 8) hx hb dX6_payFor_91 (by decide) ?_
          refine lv_iload_n hx hb dX6_payFor_93 rfl (lv_at hl 1 rfl) ?_
          refine lv_imul hx hb dX6_payFor_94 ?_
          refine tp_i (x' := nI (kh * 8)) (nn_mulc rfl rfl) ?_
          refine lv_iload_n hx hb dX6_payFor_95 rfl (lv_at hl 3 rfl) ?_
          refine lv_iadd hx hb dX6_payFor_96 ?_
          refine tp_i (x' := nI ((kh * 8) + i)) (nn_add rfl rfl) ?_
          refine lv_aload_n hx hb dX6_payFor_97 rfl (lv_at hl 0 rfl) ?_
          refine va_get (ci := 6) (v := .ref mde) (C := RX6) (T := TX6) (N := 24) hx hb hts bi_6 hown hK hP 0 rfl rfl 22 (by decide) (hts _ bw_427) (fun _ h9 => h9) rfl dX6_payFor_98 ?_
          refine lv_iload_n hx hb dX6_payFor_101 rfl (lv_at hl 3 rfl) ?_
          refine ar_ld hx hb hK hP 9 (k := i) rfl rfl (by omega) (by decide) dX6_payFor_102 ?_
          refine tp_i (x' := nI (sh_ (p1 / 2 ^ (kh / v2)) ww 8 i)) (by simp only [se_v]; rw [if_pos (by omega)]) ?_
          refine ar_st hx hb hK hP hD hS 6 (k := (kh * 8) + i) rfl rfl (by omega) (by decide) dX6_payFor_103 _ rfl (fun H locs hP hD hS => ?_)
          have hP : va_P D cl_A [ob_J y 6 [.int th, .int (nI hh), .int r0, .int r1, .int r2, .int r3, .ref mb, .int given, .int mrew, .int (nI sz), .ref mk, .ref mc, .ref ms, .ref md, .ref mf, .ref mst, .ref mth, .ref mdr, .ref mw, .ref msh, .ref mpo, .ref mpa, .ref mde, .ref mj], ar_I mb cI 10 fbal, ar_I mk cI 8 fkp, ar_I mc cI 8 fct, ar_I mth cI 80 ffx, ar_I mw cI 808 fwt, ar_I msh cI 808 (upd (wf_ frw kh (sh_ (p1 / 2 ^ (kh / v2)) ww 8) i) ((kh * 8) + i) (nI (sh_ (p1 / 2 ^ (kh / v2)) ww 8 i))), ar_I mpo cI 101 fpo, ar_L mpa cJ 10 (sl_v fpa (fun k => lN (ww k)) 8), ar_I mde cI 10 (se_v fde (fun k => nI (sh_ (p1 / 2 ^ (kh / v2)) ww 8 k)) 8)] H := hP
          have hD : va_D A [ob_J y 6 [.int th, .int (nI hh), .int r0, .int r1, .int r2, .int r3, .ref mb, .int given, .int mrew, .int (nI sz), .ref mk, .ref mc, .ref ms, .ref md, .ref mf, .ref mst, .ref mth, .ref mdr, .ref mw, .ref msh, .ref mpo, .ref mpa, .ref mde, .ref mj], ar_I mb cI 10 fbal, ar_I mk cI 8 fkp, ar_I mc cI 8 fct, ar_I mth cI 80 ffx, ar_I mw cI 808 fwt, ar_I msh cI 808 (upd (wf_ frw kh (sh_ (p1 / 2 ^ (kh / v2)) ww 8) i) ((kh * 8) + i) (nI (sh_ (p1 / 2 ^ (kh / v2)) ww 8 i))), ar_I mpo cI 101 fpo, ar_L mpa cJ 10 (sl_v fpa (fun k => lN (ww k)) 8), ar_I mde cI 10 (se_v fde (fun k => nI (sh_ (p1 / 2 ^ (kh / v2)) ww 8 k)) 8)] := hD
          refine lv_iinc (v := nI (i + 1)) (lv' := [(3, .int (nI (i + 1))), (0, .ref y), (1, .int (nI kh)), (2, .int (nI (p1 / 2 ^ (kh / v2))))]) hx hb dX6_payFor_104 hl (k := 3) rfl (nI_1 _) (by decide) rfl (fun ls hl => ?_)
          refine lv_goto (tgt := 81) hx hb dX6_payFor_107 (by decide) ?_
          have q_19 : (upd (wf_ frw kh (sh_ (p1 / 2 ^ (kh / v2)) ww 8) i) ((kh * 8) + i) (nI (sh_ (p1 / 2 ^ (kh / v2)) ww 8 i))) = (wf_ frw kh (sh_ (p1 / 2 ^ (kh / v2)) ww 8) (i + 1)) := wf_x
          obtain ⟨hP, hD⟩ := cs_W (fun z_z => [ob_J y 6 [.int th, .int (nI hh), .int r0, .int r1, .int r2, .int r3, .ref mb, .int given, .int mrew, .int (nI sz), .ref mk, .ref mc, .ref ms, .ref md, .ref mf, .ref mst, .ref mth, .ref mdr, .ref mw, .ref msh, .ref mpo, .ref mpa, .ref mde, .ref mj], ar_I mb cI 10 fbal, ar_I mk cI 8 fkp, ar_I mc cI 8 fct, ar_I mth cI 80 ffx, ar_I mw cI 808 fwt, ar_I msh cI 808 z_z, ar_I mpo cI 101 fpo, ar_L mpa cJ 10 (sl_v fpa (fun k => lN (ww k)) 8), ar_I mde cI 10 (se_v fde (fun k => nI (sh_ (p1 / 2 ^ (kh / v2)) ww 8 k)) 8)]) q_19 hP hD
          have hl := lv_sub (l' := [(0, .ref y), (1, .int (nI kh)), (2, .int (nI (p1 / 2 ^ (kh / v2)))), (3, .int (nI (i + 1)))]) hl [1, 2, 3, 0] rfl
          have hl : lv_has ls 6 [(0, .ref y), (1, .int (nI kh)), (2, .int (nI (p1 / 2 ^ (kh / v2)))), (3, .int (nI (i + 1)))] := hl
          exact ih_81 (i + 1) (show 8 - (i + 1) < 8 - i from by omega) (show ((i + 1) ≤ 8) from by omega) H locs ls hP hD hS hl
      · have c_45 := qq_nge (a := i) (b := 8) c_45 (by omega) (by omega)
        refine lv_aload_n hx hb dX6_payFor_48 rfl (lv_at hl 0 rfl) ?_
        refine va_get (ci := 6) (v := .ref mpa) (C := RX6) (T := TX6) (N := 24) hx hb hts bi_6 hown hK hP 0 rfl rfl 21 (by decide) (hts _ bw_426) (fun _ h9 => h9) rfl dX6_payFor_49 ?_
        refine lv_iload_n hx hb dX6_payFor_52 rfl (lv_at hl 3 rfl) ?_
        refine lv_aload_n hx hb dX6_payFor_53 rfl (lv_at hl 0 rfl) ?_
        refine va_get (ci := 6) (v := .ref mw) (C := RX6) (T := TX6) (N := 24) hx hb hts bi_6 hown hK hP 0 rfl rfl 18 (by decide) (hts _ bw_423) (fun _ h9 => h9) rfl dX6_payFor_54 ?_
        refine lv_bipush (v := 8) hx hb dX6_payFor_57 (by decide) ?_
        refine lv_iload_n hx hb dX6_payFor_59 rfl (lv_at hl 1 rfl) ?_
        refine lv_imul hx hb dX6_payFor_60 ?_
        refine tp_i (x' := nI (kh * 8)) (nn_mulc rfl rfl) ?_
        refine lv_iload_n hx hb dX6_payFor_61 rfl (lv_at hl 3 rfl) ?_
        refine lv_iadd hx hb dX6_payFor_62 ?_
        refine tp_i (x' := nI ((kh * 8) + i)) (nn_add rfl rfl) ?_
        refine ar_ld hx hb hK hP 5 (k := (kh * 8) + i) rfl rfl (by omega) (by decide) dX6_payFor_63 ?_
        refine tp_i (x' := nI (ww i)) ((hww i (by omega)).1) ?_
        have hwl := (hww i (by omega)).2
        refine lv_i2l (v := lN (ww i)) hx hb dX6_payFor_64 (nI_l (n := ww i) (by omega)) ?_
        refine ar_lst hx hb hK hP hD hS 8 (k := i) rfl rfl (by omega) (by decide) dX6_payFor_65 _ rfl (fun H locs hP hD hS => ?_)
        have hP : va_P D cl_A [ob_J y 6 [.int th, .int (nI hh), .int r0, .int r1, .int r2, .int r3, .ref mb, .int given, .int mrew, .int (nI sz), .ref mk, .ref mc, .ref ms, .ref md, .ref mf, .ref mst, .ref mth, .ref mdr, .ref mw, .ref msh, .ref mpo, .ref mpa, .ref mde, .ref mj], ar_I mb cI 10 fbal, ar_I mk cI 8 fkp, ar_I mc cI 8 fct, ar_I mth cI 80 ffx, ar_I mw cI 808 fwt, ar_I msh cI 808 frw, ar_I mpo cI 101 fpo, ar_L mpa cJ 10 (vp_updL (sl_v fpa (fun k => lN (ww k)) i) i (lN (ww i))), ar_I mde cI 10 fde] H := hP
        have hD : va_D A [ob_J y 6 [.int th, .int (nI hh), .int r0, .int r1, .int r2, .int r3, .ref mb, .int given, .int mrew, .int (nI sz), .ref mk, .ref mc, .ref ms, .ref md, .ref mf, .ref mst, .ref mth, .ref mdr, .ref mw, .ref msh, .ref mpo, .ref mpa, .ref mde, .ref mj], ar_I mb cI 10 fbal, ar_I mk cI 8 fkp, ar_I mc cI 8 fct, ar_I mth cI 80 ffx, ar_I mw cI 808 fwt, ar_I msh cI 808 frw, ar_I mpo cI 101 fpo, ar_L mpa cJ 10 (vp_updL (sl_v fpa (fun k => lN (ww k)) i) i (lN (ww i))), ar_I mde cI 10 fde] := hD
        refine lv_iinc (v := nI (i + 1)) (lv' := [(3, .int (nI (i + 1))), (0, .ref y), (1, .int (nI kh)), (2, .int (nI (p1 / 2 ^ (kh / v2))))]) hx hb dX6_payFor_66 hl (k := 3) rfl (nI_1 _) (by decide) rfl (fun ls hl => ?_)
        refine lv_goto (tgt := 42) hx hb dX6_payFor_69 (by decide) ?_
        have q_20 : (vp_updL (sl_v fpa (fun k => lN (ww k)) i) i (lN (ww i))) = (sl_v fpa (fun k => lN (ww k)) (i + 1)) := sl_s _ (fun k => lN (ww k)) i
        obtain ⟨hP, hD⟩ := cs_W (fun z_z => [ob_J y 6 [.int th, .int (nI hh), .int r0, .int r1, .int r2, .int r3, .ref mb, .int given, .int mrew, .int (nI sz), .ref mk, .ref mc, .ref ms, .ref md, .ref mf, .ref mst, .ref mth, .ref mdr, .ref mw, .ref msh, .ref mpo, .ref mpa, .ref mde, .ref mj], ar_I mb cI 10 fbal, ar_I mk cI 8 fkp, ar_I mc cI 8 fct, ar_I mth cI 80 ffx, ar_I mw cI 808 fwt, ar_I msh cI 808 frw, ar_I mpo cI 101 fpo, ar_L mpa cJ 10 z_z, ar_I mde cI 10 fde]) q_20 hP hD
        have hl := lv_sub (l' := [(0, .ref y), (1, .int (nI kh)), (2, .int (nI (p1 / 2 ^ (kh / v2)))), (3, .int (nI (i + 1)))]) hl [1, 2, 3, 0] rfl
        have hl : lv_has ls 6 [(0, .ref y), (1, .int (nI kh)), (2, .int (nI (p1 / 2 ^ (kh / v2)))), (3, .int (nI (i + 1)))] := hl
        exact ih_42 (i + 1) (show 8 - (i + 1) < 8 - i from by omega) (show ((i + 1) ≤ 8) from by omega) H locs ls hP hD hS hl
    · have c_36 := qq_eq (a := sN_ ww 8) (b := 0) c_36 (by omega) (by omega)
      have q_21 : mrew = (mrew + nI (sN_ (sh_ (p1 / 2 ^ (kh / v2)) ww 8) 8)) := by rw [sN_0 (fun m hm => sh_0 c_36)]; simp [nI_0]
      obtain ⟨hP, hD⟩ := cs_W (fun z_z => [ob_J y 6 [.int th, .int (nI hh), .int r0, .int r1, .int r2, .int r3, .ref mb, .int given, .int z_z, .int (nI sz), .ref mk, .ref mc, .ref ms, .ref md, .ref mf, .ref mst, .ref mth, .ref mdr, .ref mw, .ref msh, .ref mpo, .ref mpa, .ref mde, .ref mj], ar_I mb cI 10 fbal, ar_I mk cI 8 fkp, ar_I mc cI 8 fct, ar_I mth cI 80 ffx, ar_I mw cI 808 fwt, ar_I msh cI 808 frw, ar_I mpo cI 101 fpo, ar_L mpa cJ 10 fpa, ar_I mde cI 10 fde]) q_21 hP hD
      have q_22 : fbal = (pw_ fbal kk cc (sh_ (p1 / 2 ^ (kh / v2)) ww 8) ww xx 8) := (pw_to (n := 0) 8 (fun m _ h2 => sN_z c_36 m (by omega))).symm
      obtain ⟨hP, hD⟩ := cs_W (fun z_z => [ob_J y 6 [.int th, .int (nI hh), .int r0, .int r1, .int r2, .int r3, .ref mb, .int given, .int (mrew + nI (sN_ (sh_ (p1 / 2 ^ (kh / v2)) ww 8) 8)), .int (nI sz), .ref mk, .ref mc, .ref ms, .ref md, .ref mf, .ref mst, .ref mth, .ref mdr, .ref mw, .ref msh, .ref mpo, .ref mpa, .ref mde, .ref mj], ar_I mb cI 10 z_z, ar_I mk cI 8 fkp, ar_I mc cI 8 fct, ar_I mth cI 80 ffx, ar_I mw cI 808 fwt, ar_I msh cI 808 frw, ar_I mpo cI 101 fpo, ar_L mpa cJ 10 fpa, ar_I mde cI 10 fde]) q_22 hP hD
      have q_23 : frw = (if sN_ ww 8 = 0 then frw else rv_ frw kh (sh_ (p1 / 2 ^ (kh / v2)) ww 8)) := (if_pos c_36).symm
      obtain ⟨hP, hD⟩ := cs_W (fun z_z => [ob_J y 6 [.int th, .int (nI hh), .int r0, .int r1, .int r2, .int r3, .ref mb, .int given, .int (mrew + nI (sN_ (sh_ (p1 / 2 ^ (kh / v2)) ww 8) 8)), .int (nI sz), .ref mk, .ref mc, .ref ms, .ref md, .ref mf, .ref mst, .ref mth, .ref mdr, .ref mw, .ref msh, .ref mpo, .ref mpa, .ref mde, .ref mj], ar_I mb cI 10 (pw_ fbal kk cc (sh_ (p1 / 2 ^ (kh / v2)) ww 8) ww xx 8), ar_I mk cI 8 fkp, ar_I mc cI 8 fct, ar_I mth cI 80 ffx, ar_I mw cI 808 fwt, ar_I msh cI 808 z_z, ar_I mpo cI 101 fpo, ar_L mpa cJ 10 fpa, ar_I mde cI 10 fde]) q_23 hP hD
      have q_24 : fpo = (if sN_ ww 8 = 0 then fpo else upd fpo kh (nI (p1 / 2 ^ (kh / v2)))) := (if_pos c_36).symm
      obtain ⟨hP, hD⟩ := cs_W (fun z_z => [ob_J y 6 [.int th, .int (nI hh), .int r0, .int r1, .int r2, .int r3, .ref mb, .int given, .int (mrew + nI (sN_ (sh_ (p1 / 2 ^ (kh / v2)) ww 8) 8)), .int (nI sz), .ref mk, .ref mc, .ref ms, .ref md, .ref mf, .ref mst, .ref mth, .ref mdr, .ref mw, .ref msh, .ref mpo, .ref mpa, .ref mde, .ref mj], ar_I mb cI 10 (pw_ fbal kk cc (sh_ (p1 / 2 ^ (kh / v2)) ww 8) ww xx 8), ar_I mk cI 8 fkp, ar_I mc cI 8 fct, ar_I mth cI 80 ffx, ar_I mw cI 808 fwt, ar_I msh cI 808 (if sN_ ww 8 = 0 then frw else rv_ frw kh (sh_ (p1 / 2 ^ (kh / v2)) ww 8)), ar_I mpo cI 101 z_z, ar_L mpa cJ 10 fpa, ar_I mde cI 10 fde]) q_24 hP hD
      exact re_V (w1 := fun u_u : (Nat → Int64) × (Nat → Int32) => [ob_J y 6 [.int th, .int (nI hh), .int r0, .int r1, .int r2, .int r3, .ref mb, .int given, .int (mrew + nI (sN_ (sh_ (p1 / 2 ^ (kh / v2)) ww 8) 8)), .int (nI sz), .ref mk, .ref mc, .ref ms, .ref md, .ref mf, .ref mst, .ref mth, .ref mdr, .ref mw, .ref msh, .ref mpo, .ref mpa, .ref mde, .ref mj], ar_I mb cI 10 (pw_ fbal kk cc (sh_ (p1 / 2 ^ (kh / v2)) ww 8) ww xx 8), ar_I mk cI 8 fkp, ar_I mc cI 8 fct, ar_I mth cI 80 ffx, ar_I mw cI 808 fwt, ar_I msh cI 808 (if sN_ ww 8 = 0 then frw else rv_ frw kh (sh_ (p1 / 2 ^ (kh / v2)) ww 8)), ar_I mpo cI 101 (if sN_ ww 8 = 0 then fpo else upd fpo kh (nI (p1 / 2 ^ (kh / v2)))), ar_L mpa cJ 10 u_u.1, ar_I mde cI 10 u_u.2]) hx hb hr hlk hK hS (fpa, fde) hP hD trivial dX6_payFor_39
  · refine lv_iconst (v := 0) hx hb dX6_payFor_5 (by decide) ?_
    refine lv_istore_n (lv' := [(3, .int 0), (2, .int (nI p1)), (0, .ref y), (1, .int (nI kh))]) hx hb dX6_payFor_6 rfl hl (by decide) rfl (fun ls hl => ?_)
    have hl := lv_sub (l' := [(0, .ref y), (1, .int (nI kh)), (2, .int (nI p1)), (3, .int 0)]) hl [2, 3, 1, 0] rfl
    have q_25 : (nI p1) = (nI (p1 / 2 ^ 0)) := congrArg nI (by simp)
    have hl := cs_L (fun z_z => [(0, .ref y), (1, .int (nI kh)), (2, .int z_z), (3, .int 0)]) q_25 hl
    have q_26 : 0 = (nI 0) := rfl
    have hl := cs_L (fun z_z => [(0, .ref y), (1, .int (nI kh)), (2, .int (nI (p1 / 2 ^ 0))), (3, .int z_z)]) q_26 hl
    have hl : lv_has ls 6 [(0, .ref y), (1, .int (nI kh)), (2, .int (nI (p1 / 2 ^ 0))), (3, .int (nI 0))] := hl
    refine lp_g (σ := Nat) (fun k => kh / v2 - k) (fun k => [ob_J y 6 [.int th, .int (nI hh), .int r0, .int r1, .int r2, .int r3, .ref mb, .int given, .int mrew, .int (nI sz), .ref mk, .ref mc, .ref ms, .ref md, .ref mf, .ref mst, .ref mth, .ref mdr, .ref mw, .ref msh, .ref mpo, .ref mpa, .ref mde, .ref mj], ar_I mb cI 10 fbal, ar_I mk cI 8 fkp, ar_I mc cI 8 fct, ar_I mth cI 80 ffx, ar_I mw cI 808 fwt, ar_I msh cI 808 frw, ar_I mpo cI 101 fpo, ar_L mpa cJ 10 fpa, ar_I mde cI 10 fde]) (fun k => [(0, .ref y), (1, .int (nI kh)), (2, .int (nI (p1 / 2 ^ k))), (3, .int (nI k))]) (fun k => (k ≤ kh / v2)) ?_ 0 (show (0 ≤ kh / v2) from Nat.zero_le _) hP hD hS hl
    intro k H locs ls hF hP hD hS hl ih_7
    have hF : (k ≤ kh / v2) := hF
    have hk := hF
    have hP : va_P D cl_A [ob_J y 6 [.int th, .int (nI hh), .int r0, .int r1, .int r2, .int r3, .ref mb, .int given, .int mrew, .int (nI sz), .ref mk, .ref mc, .ref ms, .ref md, .ref mf, .ref mst, .ref mth, .ref mdr, .ref mw, .ref msh, .ref mpo, .ref mpa, .ref mde, .ref mj], ar_I mb cI 10 fbal, ar_I mk cI 8 fkp, ar_I mc cI 8 fct, ar_I mth cI 80 ffx, ar_I mw cI 808 fwt, ar_I msh cI 808 frw, ar_I mpo cI 101 fpo, ar_L mpa cJ 10 fpa, ar_I mde cI 10 fde] H := hP
    have hD : va_D A [ob_J y 6 [.int th, .int (nI hh), .int r0, .int r1, .int r2, .int r3, .ref mb, .int given, .int mrew, .int (nI sz), .ref mk, .ref mc, .ref ms, .ref md, .ref mf, .ref mst, .ref mth, .ref mdr, .ref mw, .ref msh, .ref mpo, .ref mpa, .ref mde, .ref mj], ar_I mb cI 10 fbal, ar_I mk cI 8 fkp, ar_I mc cI 8 fct, ar_I mth cI 80 ffx, ar_I mw cI 808 fwt, ar_I msh cI 808 frw, ar_I mpo cI 101 fpo, ar_L mpa cJ 10 fpa, ar_I mde cI 10 fde] := hD
    have hl : lv_has ls 6 [(0, .ref y), (1, .int (nI kh)), (2, .int (nI (p1 / 2 ^ k))), (3, .int (nI k))] := hl
    have hpk : p1 / 2 ^ k ≤ p1 := Nat.div_le_self _ _
    have hdv : kh / v2 ≤ kh := Nat.div_le_self _ _
    refine lv_iload_n hx hb dX6_payFor_7 rfl (lv_at hl 3 rfl) ?_
    refine lv_iload_n hx hb dX6_payFor_8 rfl (lv_at hl 1 rfl) ?_
    refine lv_aload_n hx hb dX6_payFor_9 rfl (lv_at hl 0 rfl) ?_
    refine va_get (ci := 6) (v := .int r2) (C := RX6) (T := TX6) (N := 24) hx hb hts bi_6 hown hK hP 0 rfl rfl 4 (by decide) (hts _ bw_409) (fun _ h9 => h9) rfl dX6_payFor_10 ?_
    refine tp_i (x' := nI v2) (hr2) ?_
    refine lv_idiv hx hb dX6_payFor_13 (fun z => by have := qq_eq (a := v2) (b := 0) z (by omega) (by omega); omega) ?_
    refine tp_i (x' := nI (kh / v2)) (pk_div (a := kh) (d := v2) (by omega) (by omega) (by omega)) ?_
    refine lv_icmp_ge (tgt := 31) hx hb dX6_payFor_14 (by decide) (fun c_14 => ?_) (fun c_14 => ?_)
    · have c_14 := qq_ge (a := k) (b := kh / v2) c_14 (by omega) (by omega)
      have hl := lv_sub (l' := [(0, .ref y), (1, .int (nI kh)), (2, .int (nI (p1 / 2 ^ k)))]) hl [0, 1, 2] rfl
      have q_27 : (nI (p1 / 2 ^ k)) = (nI (p1 / 2 ^ (kh / v2))) := congrArg nI (by rw [show k = kh / v2 by omega])
      have hl := cs_L (fun z_z => [(0, .ref y), (1, .int (nI kh)), (2, .int z_z)]) q_27 hl
      have hl : lv_has ls 6 [(0, .ref y), (1, .int (nI kh)), (2, .int (nI (p1 / 2 ^ (kh / v2))))] := hl
      exact J_31 () H locs ls (show True from trivial) hP hD hS hl
    · have c_14 := qq_nge (a := k) (b := kh / v2) c_14 (by omega) (by omega)
      refine lv_iload_n hx hb dX6_payFor_17 rfl (lv_at hl 2 rfl) ?_
      refine lv_if_le (tgt := 31) hx hb dX6_payFor_18 (by decide) (fun c_18 => ?_) (fun c_18 => ?_)
      · have c_18 := qq_le (a := p1 / 2 ^ k) (b := 0) c_18 (by omega) (by omega)
        have hl := lv_sub (l' := [(0, .ref y), (1, .int (nI kh)), (2, .int (nI (p1 / 2 ^ k)))]) hl [0, 1, 2] rfl
        have q_28 : (nI (p1 / 2 ^ k)) = (nI (p1 / 2 ^ (kh / v2))) := congrArg nI (by rw [pd_0 (k := k) (m := kh / v2) (Nat.le_zero.mp c_18) hk, Nat.le_zero.mp c_18])
        have hl := cs_L (fun z_z => [(0, .ref y), (1, .int (nI kh)), (2, .int z_z)]) q_28 hl
        have hl : lv_has ls 6 [(0, .ref y), (1, .int (nI kh)), (2, .int (nI (p1 / 2 ^ (kh / v2))))] := hl
        exact J_31 () H locs ls (show True from trivial) hP hD hS hl
      · have c_18 := qq_nle (a := p1 / 2 ^ k) (b := 0) c_18 (by omega) (by omega)
        refine lv_iload_n hx hb dX6_payFor_21 rfl (lv_at hl 2 rfl) ?_
        refine lv_iconst (v := 2) hx hb dX6_payFor_22 (by decide) ?_
        refine lv_idiv hx hb dX6_payFor_23 (by decide) ?_
        refine tp_i (x' := nI ((p1 / 2 ^ k) / 2)) (pk_div (a := p1 / 2 ^ k) (d := 2) (by omega) (by omega) (by omega)) ?_
        refine lv_istore_n (lv' := [(2, .int (nI ((p1 / 2 ^ k) / 2))), (0, .ref y), (1, .int (nI kh)), (3, .int (nI k))]) hx hb dX6_payFor_24 rfl hl (by decide) rfl (fun ls hl => ?_)
        refine lv_iinc (v := nI (k + 1)) (lv' := [(3, .int (nI (k + 1))), (2, .int (nI ((p1 / 2 ^ k) / 2))), (0, .ref y), (1, .int (nI kh))]) hx hb dX6_payFor_25 hl (k := 3) rfl (nI_1 _) (by decide) rfl (fun ls hl => ?_)
        refine lv_goto (tgt := 7) hx hb dX6_payFor_28 (by decide) ?_
        have hl := lv_sub (l' := [(0, .ref y), (1, .int (nI kh)), (2, .int (nI ((p1 / 2 ^ k) / 2))), (3, .int (nI (k + 1)))]) hl [2, 3, 1, 0] rfl
        have q_29 : (nI ((p1 / 2 ^ k) / 2)) = (nI (p1 / 2 ^ (k + 1))) := congrArg nI (pd_s p1 k)
        have hl := cs_L (fun z_z => [(0, .ref y), (1, .int (nI kh)), (2, .int z_z), (3, .int (nI (k + 1)))]) q_29 hl
        have hl : lv_has ls 6 [(0, .ref y), (1, .int (nI kh)), (2, .int (nI (p1 / 2 ^ (k + 1)))), (3, .int (nI (k + 1)))] := hl
        exact ih_7 (k + 1) (show kh / v2 - (k + 1) < kh / v2 - k from by omega) (show ((k + 1) ≤ kh / v2) from by omega) H locs ls hP hD hS hl

set_option maxHeartbeats 4000000 in
set_option maxRecDepth 100000 in
theorem k_X6_fix (l : Launch) (D : va_G) (cI cJ cZ : ClassId) (y : Nat) (ms : Nat) (mf : Nat) (mst : Nat) (mth : Nat) (mw : Nat) (th : Int32) (hh : Nat) (r0 : Int32) (r1 : Int32) (r2 : Int32) (r3 : Int32) (mb : Nat) (given : Int32) (mrew : Int32) (sz : Nat) (mk : Nat) (mc : Nat) (md : Nat) (mdr : Nat) (msh : Nat) (mpo : Nat) (mpa : Nat) (mde : Nat) (mj : Nat) (fsa : Nat → Int32) (ffz : Nat → Int32) (fstk : Nat → Int32) (ffx : Nat → Int32) (fwt : Nat → Int32) (b3 : Nat) (kx : Nat → Nat) (hhh : hh ≤ 100) (hsz : sz ≤ 8) (hr3 : r3 = nI b3) (hb3 : b3 ≤ 1000000) (hkx : ∀ j, j < 80 → fstk j = nI (kx j)) (hks : ∀ n, n < 8 → sN_ (fun a => kx (n * 10 + a)) 10 ≤ 2000000) : mt_V l yX6_fix cX6_fix 4 1 23 D cI cJ cZ [ob_J y 6 [.int th, .int (nI hh), .int r0, .int r1, .int r2, .int r3, .ref mb, .int given, .int mrew, .int (nI sz), .ref mk, .ref mc, .ref ms, .ref md, .ref mf, .ref mst, .ref mth, .ref mdr, .ref mw, .ref msh, .ref mpo, .ref mpa, .ref mde, .ref mj], ar_I ms cI 8 fsa, ar_I mf cZ 8 ffz, ar_I mst cI 80 fstk, ar_I mth cI 80 ffx, ar_I mw cI 808 fwt] [.ref y] (fun u_u : Unit => True) (fun u_u : Unit => [ob_J y 6 [.int th, .int (nI hh), .int r0, .int r1, .int r2, .int r3, .ref mb, .int given, .int mrew, .int (nI sz), .ref mk, .ref mc, .ref ms, .ref md, .ref mf, .ref mst, .ref mth, .ref mdr, .ref mw, .ref msh, .ref mpo, .ref mpa, .ref mde, .ref mj], ar_I ms cI 8 fsa, ar_I mf cZ 8 ffz, ar_I mst cI 80 fstk, ar_I mth cI 80 (se_v ffx fstk 80), ar_I mw cI 808 (wf_ fwt hh (wv_ fsa ffz kx b3) sz)]) := by
  refine en_V (by decide) (Nat.le_of_ble_eq_true rfl) ?_
  intro p e s m below meth c A ls H locs hx hb hr hml hts hown hlk hN hK hA hP hD hS hl
  have hown : s.vm.findClass RX6 = some m.cls := hown
  have hl : lv_has ls 4 [(0, .ref y)] := hl
  refine lv_iconst (v := 0) hx hb dX6_fix_0 (by decide) ?_
  refine lv_istore_n (lv' := [(1, .int 0), (0, .ref y)]) hx hb dX6_fix_1 rfl hl (by decide) rfl (fun ls hl => ?_)
  have q_1 : ffx = (se_v ffx fstk 0) := se_0 _ _
  obtain ⟨hP, hD⟩ := cs_W (fun z_z => [ob_J y 6 [.int th, .int (nI hh), .int r0, .int r1, .int r2, .int r3, .ref mb, .int given, .int mrew, .int (nI sz), .ref mk, .ref mc, .ref ms, .ref md, .ref mf, .ref mst, .ref mth, .ref mdr, .ref mw, .ref msh, .ref mpo, .ref mpa, .ref mde, .ref mj], ar_I ms cI 8 fsa, ar_I mf cZ 8 ffz, ar_I mst cI 80 fstk, ar_I mth cI 80 z_z, ar_I mw cI 808 fwt]) q_1 hP hD
  have hl := lv_sub (l' := [(0, .ref y), (1, .int 0)]) hl [1, 0] rfl
  have q_2 : 0 = (nI 0) := rfl
  have hl := cs_L (fun z_z => [(0, .ref y), (1, .int z_z)]) q_2 hl
  have hl : lv_has ls 4 [(0, .ref y), (1, .int (nI 0))] := hl
  refine lp_g (σ := Nat) (fun i => 80 - i) (fun i => [ob_J y 6 [.int th, .int (nI hh), .int r0, .int r1, .int r2, .int r3, .ref mb, .int given, .int mrew, .int (nI sz), .ref mk, .ref mc, .ref ms, .ref md, .ref mf, .ref mst, .ref mth, .ref mdr, .ref mw, .ref msh, .ref mpo, .ref mpa, .ref mde, .ref mj], ar_I ms cI 8 fsa, ar_I mf cZ 8 ffz, ar_I mst cI 80 fstk, ar_I mth cI 80 (se_v ffx fstk i), ar_I mw cI 808 fwt]) (fun i => [(0, .ref y), (1, .int (nI i))]) (fun i => (i ≤ 80)) ?_ 0 (show (0 ≤ 80) from by omega) hP hD hS hl
  intro i H locs ls hF hP hD hS hl ih_2
  have hF : (i ≤ 80) := hF
  have hi := hF
  have hP : va_P D cl_A [ob_J y 6 [.int th, .int (nI hh), .int r0, .int r1, .int r2, .int r3, .ref mb, .int given, .int mrew, .int (nI sz), .ref mk, .ref mc, .ref ms, .ref md, .ref mf, .ref mst, .ref mth, .ref mdr, .ref mw, .ref msh, .ref mpo, .ref mpa, .ref mde, .ref mj], ar_I ms cI 8 fsa, ar_I mf cZ 8 ffz, ar_I mst cI 80 fstk, ar_I mth cI 80 (se_v ffx fstk i), ar_I mw cI 808 fwt] H := hP
  have hD : va_D A [ob_J y 6 [.int th, .int (nI hh), .int r0, .int r1, .int r2, .int r3, .ref mb, .int given, .int mrew, .int (nI sz), .ref mk, .ref mc, .ref ms, .ref md, .ref mf, .ref mst, .ref mth, .ref mdr, .ref mw, .ref msh, .ref mpo, .ref mpa, .ref mde, .ref mj], ar_I ms cI 8 fsa, ar_I mf cZ 8 ffz, ar_I mst cI 80 fstk, ar_I mth cI 80 (se_v ffx fstk i), ar_I mw cI 808 fwt] := hD
  have hl : lv_has ls 4 [(0, .ref y), (1, .int (nI i))] := hl
  refine lv_iload_n hx hb dX6_fix_2 rfl (lv_at hl 1 rfl) ?_
  refine lv_bipush (v := 80) hx hb dX6_fix_3 (by decide) ?_
  refine lv_icmp_ge (tgt := 26) hx hb dX6_fix_5 (by decide) (fun c_5 => ?_) (fun c_5 => ?_)
  · have c_5 := qq_ge (a := i) (b := 80) c_5 (by omega) (by omega)
    obtain rfl : i = 80 := by omega
    refine lv_iconst (v := 0) hx hb dX6_fix_26 (by decide) ?_
    refine lv_istore_n (lv' := [(1, .int 0), (0, .ref y)]) hx hb dX6_fix_27 rfl hl (by decide) rfl (fun ls hl => ?_)
    have q_3 : fwt = (wf_ fwt hh (wv_ fsa ffz kx b3) 0) := wf_0 _ _ _
    obtain ⟨hP, hD⟩ := cs_W (fun z_z => [ob_J y 6 [.int th, .int (nI hh), .int r0, .int r1, .int r2, .int r3, .ref mb, .int given, .int mrew, .int (nI sz), .ref mk, .ref mc, .ref ms, .ref md, .ref mf, .ref mst, .ref mth, .ref mdr, .ref mw, .ref msh, .ref mpo, .ref mpa, .ref mde, .ref mj], ar_I ms cI 8 fsa, ar_I mf cZ 8 ffz, ar_I mst cI 80 fstk, ar_I mth cI 80 (se_v ffx fstk 80), ar_I mw cI 808 z_z]) q_3 hP hD
    have hl := lv_sub (l' := [(0, .ref y), (1, .int 0)]) hl [1, 0] rfl
    have q_4 : 0 = (nI 0) := rfl
    have hl := cs_L (fun z_z => [(0, .ref y), (1, .int z_z)]) q_4 hl
    have hl : lv_has ls 4 [(0, .ref y), (1, .int (nI 0))] := hl
    refine lp_g (σ := Nat) (fun i => sz - i) (fun i => [ob_J y 6 [.int th, .int (nI hh), .int r0, .int r1, .int r2, .int r3, .ref mb, .int given, .int mrew, .int (nI sz), .ref mk, .ref mc, .ref ms, .ref md, .ref mf, .ref mst, .ref mth, .ref mdr, .ref mw, .ref msh, .ref mpo, .ref mpa, .ref mde, .ref mj], ar_I ms cI 8 fsa, ar_I mf cZ 8 ffz, ar_I mst cI 80 fstk, ar_I mth cI 80 (se_v ffx fstk 80), ar_I mw cI 808 (wf_ fwt hh (wv_ fsa ffz kx b3) i)]) (fun i => [(0, .ref y), (1, .int (nI i))]) (fun i => (i ≤ sz)) ?_ 0 (show (0 ≤ sz) from by omega) hP hD hS hl
    intro i H locs ls hF hP hD hS hl ih_28
    have hF : (i ≤ sz) := hF
    have hi := hF
    have hP : va_P D cl_A [ob_J y 6 [.int th, .int (nI hh), .int r0, .int r1, .int r2, .int r3, .ref mb, .int given, .int mrew, .int (nI sz), .ref mk, .ref mc, .ref ms, .ref md, .ref mf, .ref mst, .ref mth, .ref mdr, .ref mw, .ref msh, .ref mpo, .ref mpa, .ref mde, .ref mj], ar_I ms cI 8 fsa, ar_I mf cZ 8 ffz, ar_I mst cI 80 fstk, ar_I mth cI 80 (se_v ffx fstk 80), ar_I mw cI 808 (wf_ fwt hh (wv_ fsa ffz kx b3) i)] H := hP
    have hD : va_D A [ob_J y 6 [.int th, .int (nI hh), .int r0, .int r1, .int r2, .int r3, .ref mb, .int given, .int mrew, .int (nI sz), .ref mk, .ref mc, .ref ms, .ref md, .ref mf, .ref mst, .ref mth, .ref mdr, .ref mw, .ref msh, .ref mpo, .ref mpa, .ref mde, .ref mj], ar_I ms cI 8 fsa, ar_I mf cZ 8 ffz, ar_I mst cI 80 fstk, ar_I mth cI 80 (se_v ffx fstk 80), ar_I mw cI 808 (wf_ fwt hh (wv_ fsa ffz kx b3) i)] := hD
    have hl : lv_has ls 4 [(0, .ref y), (1, .int (nI i))] := hl
    refine lv_iload_n hx hb dX6_fix_28 rfl (lv_at hl 1 rfl) ?_
    refine lv_aload_n hx hb dX6_fix_29 rfl (lv_at hl 0 rfl) ?_
    refine va_get (ci := 6) (v := .int (nI sz)) (C := RX6) (T := TX6) (N := 24) hx hb hts bi_6 hown hK hP 0 rfl rfl 9 (by decide) (hts _ bw_414) (fun _ h9 => h9) rfl dX6_fix_30 ?_
    refine lv_icmp_ge (tgt := 121) hx hb dX6_fix_33 (by decide) (fun c_33 => ?_) (fun c_33 => ?_)
    · have c_33 := qq_ge (a := i) (b := sz) c_33 (by omega) (by omega)
      have q_5 : (wf_ fwt hh (wv_ fsa ffz kx b3) i) = (wf_ fwt hh (wv_ fsa ffz kx b3) sz) := by rw [show i = sz by omega]
      obtain ⟨hP, hD⟩ := cs_W (fun z_z => [ob_J y 6 [.int th, .int (nI hh), .int r0, .int r1, .int r2, .int r3, .ref mb, .int given, .int mrew, .int (nI sz), .ref mk, .ref mc, .ref ms, .ref md, .ref mf, .ref mst, .ref mth, .ref mdr, .ref mw, .ref msh, .ref mpo, .ref mpa, .ref mde, .ref mj], ar_I ms cI 8 fsa, ar_I mf cZ 8 ffz, ar_I mst cI 80 fstk, ar_I mth cI 80 (se_v ffx fstk 80), ar_I mw cI 808 z_z]) q_5 hP hD
      exact re_V (w1 := fun u_u : Unit => [ob_J y 6 [.int th, .int (nI hh), .int r0, .int r1, .int r2, .int r3, .ref mb, .int given, .int mrew, .int (nI sz), .ref mk, .ref mc, .ref ms, .ref md, .ref mf, .ref mst, .ref mth, .ref mdr, .ref mw, .ref msh, .ref mpo, .ref mpa, .ref mde, .ref mj], ar_I ms cI 8 fsa, ar_I mf cZ 8 ffz, ar_I mst cI 80 fstk, ar_I mth cI 80 (se_v ffx fstk 80), ar_I mw cI 808 (wf_ fwt hh (wv_ fsa ffz kx b3) sz)]) hx hb hr hlk hK hS () hP hD trivial dX6_fix_121
    · have c_33 := qq_nge (a := i) (b := sz) c_33 (by omega) (by omega)
      refine lv_aload_n hx hb dX6_fix_36 rfl (lv_at hl 0 rfl) ?_
      refine lv_iload_n hx hb dX6_fix_37 rfl (lv_at hl 1 rfl) ?_
      refine ca_VI (rest := []) (wr := [ar_I ms cI 8 fsa, ar_I mf cZ 8 ffz, ar_I mth cI 80 (se_v ffx fstk 80), ar_I mw cI 808 (wf_ fwt hh (wv_ fsa ffz kx b3) i)]) (w2 := fun u_u => [ob_J y 6 [.int th, .int (nI hh), .int r0, .int r1, .int r2, .int r3, .ref mb, .int given, .int mrew, .int (nI sz), .ref mk, .ref mc, .ref ms, .ref md, .ref mf, .ref mst, .ref mth, .ref mdr, .ref mw, .ref msh, .ref mpo, .ref mpa, .ref mde, .ref mj], ar_I ms cI 8 fsa, ar_I mf cZ 8 ffz, ar_I mst cI 80 fstk, ar_I mth cI 80 (se_v ffx fstk 80), ar_I mw cI 808 (wf_ fwt hh (wv_ fsa ffz kx b3) i)]) (k_X6_about5 l D cI cJ cZ y mst th hh r0 r1 r2 r3 mb given mrew sz mk mc ms md mf mth mdr mw msh mpo mpa mde mj fstk i (by first | assumption | omega)) hx hb hml hown hts hN hK hA hP hD hS 6 0 rfl rfl bw_546 bw_548 bs_13 bw_7 bw_549 1 rfl (by decide +kernel) ⟨by decide, by decide⟩ [0, 3] [1, 2, 4, 5] [4, 0, 1, 5, 2, 3] rfl rfl (by decide) (fun _ => rfl) hl.1 rfl (Nat.le_of_ble_eq_true rfl) dX6_fix_38 ⟨Nat.zero_le _, Nat.zero_le _⟩ (fun r_38 u_u H locs w_38 hP hD hS => ?_)
      have hP : va_P D cl_A [ob_J y 6 [.int th, .int (nI hh), .int r0, .int r1, .int r2, .int r3, .ref mb, .int given, .int mrew, .int (nI sz), .ref mk, .ref mc, .ref ms, .ref md, .ref mf, .ref mst, .ref mth, .ref mdr, .ref mw, .ref msh, .ref mpo, .ref mpa, .ref mde, .ref mj], ar_I ms cI 8 fsa, ar_I mf cZ 8 ffz, ar_I mst cI 80 fstk, ar_I mth cI 80 (se_v ffx fstk 80), ar_I mw cI 808 (wf_ fwt hh (wv_ fsa ffz kx b3) i)] H := hP
      have hD : va_D A [ob_J y 6 [.int th, .int (nI hh), .int r0, .int r1, .int r2, .int r3, .ref mb, .int given, .int mrew, .int (nI sz), .ref mk, .ref mc, .ref ms, .ref md, .ref mf, .ref mst, .ref mth, .ref mdr, .ref mw, .ref msh, .ref mpo, .ref mpa, .ref mde, .ref mj], ar_I ms cI 8 fsa, ar_I mf cZ 8 ffz, ar_I mst cI 80 fstk, ar_I mth cI 80 (se_v ffx fstk 80), ar_I mw cI 808 (wf_ fwt hh (wv_ fsa ffz kx b3) i)] := hD
      have w_38 : r_38 = sI_ (fun a => fstk (i * 10 + a)) 10 := w_38
      subst w_38
      refine tp_i (x' := nI (sN_ (fun a => kx (i * 10 + a)) 10)) (sI_n (fun a ha => hkx _ (by omega))) ?_
      have hsi := hks i (by omega)
      refine lv_istore_n (lv' := [(2, .int (nI (sN_ (fun a => kx (i * 10 + a)) 10))), (0, .ref y), (1, .int (nI i))]) hx hb dX6_fix_41 rfl hl (by decide) rfl (fun ls hl => ?_)
      refine lv_aload_n hx hb dX6_fix_42 rfl (lv_at hl 1 rfl) ?_
      refine va_get (ci := 6) (v := .ref ms) (C := RX6) (T := TX6) (N := 24) hx hb hts bi_6 hown hK hP 0 rfl rfl 12 (by decide) (hts _ bw_417) (fun _ h9 => h9) rfl dX6_fix_43 ?_
      refine lv_iload_n hx hb dX6_fix_46 rfl (lv_at hl 2 rfl) ?_
      refine ar_ld hx hb hK hP 1 (k := i) rfl rfl (by omega) (by decide) dX6_fix_47 ?_
      refine lv_iconst (v := 2) hx hb dX6_fix_48 (by decide) ?_
      refine lv_icmp_eq (tgt := 62) hx hb dX6_fix_49 (by decide) (fun c_49 => ?_) (fun c_49 => ?_)
      · refine lv_aload_n hx hb dX6_fix_62 rfl (lv_at hl 1 rfl) ?_
        refine va_get (ci := 6) (v := .ref mf) (C := RX6) (T := TX6) (N := 24) hx hb hts bi_6 hown hK hP 0 rfl rfl 14 (by decide) (hts _ bw_419) (fun _ h9 => h9) rfl dX6_fix_63 ?_
        refine lv_iload_n hx hb dX6_fix_66 rfl (lv_at hl 2 rfl) ?_
        refine ar_zd hx hb hK hP 2 (k := i) rfl rfl (by omega) (by decide) dX6_fix_67 ?_
        refine lv_if_ne (tgt := 75) hx hb dX6_fix_68 (by decide) (fun c_68 => ?_) (fun c_68 => ?_)
        · refine lv_iconst (v := 0) hx hb dX6_fix_75 (by decide) ?_
          refine lv_istore_n (lv' := [(3, .int 0), (2, .int (nI (sN_ (fun a => kx (i * 10 + a)) 10))), (0, .ref y), (1, .int (nI i))]) hx hb dX6_fix_76 rfl hl (by decide) rfl (fun ls hl => ?_)
          refine lv_aload_n hx hb dX6_fix_77 rfl (lv_at hl 2 rfl) ?_
          refine va_get (ci := 6) (v := .ref mw) (C := RX6) (T := TX6) (N := 24) hx hb hts bi_6 hown hK hP 0 rfl rfl 18 (by decide) (hts _ bw_423) (fun _ h9 => h9) rfl dX6_fix_78 ?_
          refine lv_bipush (v := 8) hx hb dX6_fix_81 (by decide) ?_
          refine lv_aload_n hx hb dX6_fix_83 rfl (lv_at hl 2 rfl) ?_
          refine va_get (ci := 6) (v := .int (nI hh)) (C := RX6) (T := TX6) (N := 24) hx hb hts bi_6 hown hK hP 0 rfl rfl 1 (by decide) (hts _ bw_406) (fun _ h9 => h9) rfl dX6_fix_84 ?_
          refine lv_imul hx hb dX6_fix_87 ?_
          refine tp_i (x' := nI (hh * 8)) (nn_mulc rfl rfl) ?_
          refine lv_iload_n hx hb dX6_fix_88 rfl (lv_at hl 3 rfl) ?_
          refine lv_iadd hx hb dX6_fix_89 ?_
          refine tp_i (x' := nI ((hh * 8) + i)) (nn_add rfl rfl) ?_
          refine lv_iload_n hx hb dX6_fix_90 rfl (lv_at hl 0 rfl) ?_
          refine lv_if_ne (tgt := 98) hx hb dX6_fix_91 (by decide) (fun h9 => absurd (by decide) h9) (fun _ => ?_)
          refine lv_iconst (v := 0) hx hb dX6_fix_94 (by decide) ?_
          refine lv_goto (tgt := 114) hx hb dX6_fix_95 (by decide) ?_
          refine ar_st hx hb hK hP hD hS 5 (k := (hh * 8) + i) rfl rfl (by omega) (by decide) dX6_fix_114 _ rfl (fun H locs hP hD hS => ?_)
          have hP : va_P D cl_A [ob_J y 6 [.int th, .int (nI hh), .int r0, .int r1, .int r2, .int r3, .ref mb, .int given, .int mrew, .int (nI sz), .ref mk, .ref mc, .ref ms, .ref md, .ref mf, .ref mst, .ref mth, .ref mdr, .ref mw, .ref msh, .ref mpo, .ref mpa, .ref mde, .ref mj], ar_I ms cI 8 fsa, ar_I mf cZ 8 ffz, ar_I mst cI 80 fstk, ar_I mth cI 80 (se_v ffx fstk 80), ar_I mw cI 808 (upd (wf_ fwt hh (wv_ fsa ffz kx b3) i) ((hh * 8) + i) 0)] H := hP
          have hD : va_D A [ob_J y 6 [.int th, .int (nI hh), .int r0, .int r1, .int r2, .int r3, .ref mb, .int given, .int mrew, .int (nI sz), .ref mk, .ref mc, .ref ms, .ref md, .ref mf, .ref mst, .ref mth, .ref mdr, .ref mw, .ref msh, .ref mpo, .ref mpa, .ref mde, .ref mj], ar_I ms cI 8 fsa, ar_I mf cZ 8 ffz, ar_I mst cI 80 fstk, ar_I mth cI 80 (se_v ffx fstk 80), ar_I mw cI 808 (upd (wf_ fwt hh (wv_ fsa ffz kx b3) i) ((hh * 8) + i) 0)] := hD
          refine lv_iinc (v := nI (i + 1)) (lv' := [(1, .int (nI (i + 1))), (3, .int 0), (2, .int (nI (sN_ (fun a => kx (i * 10 + a)) 10))), (0, .ref y)]) hx hb dX6_fix_115 hl (k := 3) rfl (nI_1 _) (by decide) rfl (fun ls hl => ?_)
          refine lv_goto (tgt := 28) hx hb dX6_fix_118 (by decide) ?_
          have q_6 : (upd (wf_ fwt hh (wv_ fsa ffz kx b3) i) ((hh * 8) + i) 0) = (wf_ fwt hh (wv_ fsa ffz kx b3) (i + 1)) := wf_y (congrArg nI (wv_z (by simp [c_5, c_33, c_49, c_68])).symm)
          obtain ⟨hP, hD⟩ := cs_W (fun z_z => [ob_J y 6 [.int th, .int (nI hh), .int r0, .int r1, .int r2, .int r3, .ref mb, .int given, .int mrew, .int (nI sz), .ref mk, .ref mc, .ref ms, .ref md, .ref mf, .ref mst, .ref mth, .ref mdr, .ref mw, .ref msh, .ref mpo, .ref mpa, .ref mde, .ref mj], ar_I ms cI 8 fsa, ar_I mf cZ 8 ffz, ar_I mst cI 80 fstk, ar_I mth cI 80 (se_v ffx fstk 80), ar_I mw cI 808 z_z]) q_6 hP hD
          have hl := lv_sub (l' := [(0, .ref y), (1, .int (nI (i + 1)))]) hl [3, 0] rfl
          have hl : lv_has ls 4 [(0, .ref y), (1, .int (nI (i + 1)))] := hl
          exact ih_28 (i + 1) (show sz - (i + 1) < sz - i from by omega) (show ((i + 1) ≤ sz) from by omega) H locs ls hP hD hS hl
        · refine lv_iconst (v := 1) hx hb dX6_fix_71 (by decide) ?_
          refine lv_goto (tgt := 76) hx hb dX6_fix_72 (by decide) ?_
          refine lv_istore_n (lv' := [(3, .int 1), (2, .int (nI (sN_ (fun a => kx (i * 10 + a)) 10))), (0, .ref y), (1, .int (nI i))]) hx hb dX6_fix_76 rfl hl (by decide) rfl (fun ls hl => ?_)
          refine lv_aload_n hx hb dX6_fix_77 rfl (lv_at hl 2 rfl) ?_
          refine va_get (ci := 6) (v := .ref mw) (C := RX6) (T := TX6) (N := 24) hx hb hts bi_6 hown hK hP 0 rfl rfl 18 (by decide) (hts _ bw_423) (fun _ h9 => h9) rfl dX6_fix_78 ?_
          refine lv_bipush (v := 8) hx hb dX6_fix_81 (by decide) ?_
          refine lv_aload_n hx hb dX6_fix_83 rfl (lv_at hl 2 rfl) ?_
          refine va_get (ci := 6) (v := .int (nI hh)) (C := RX6) (T := TX6) (N := 24) hx hb hts bi_6 hown hK hP 0 rfl rfl 1 (by decide) (hts _ bw_406) (fun _ h9 => h9) rfl dX6_fix_84 ?_
          refine lv_imul hx hb dX6_fix_87 ?_
          refine tp_i (x' := nI (hh * 8)) (nn_mulc rfl rfl) ?_
          refine lv_iload_n hx hb dX6_fix_88 rfl (lv_at hl 3 rfl) ?_
          refine lv_iadd hx hb dX6_fix_89 ?_
          refine tp_i (x' := nI ((hh * 8) + i)) (nn_add rfl rfl) ?_
          refine lv_iload_n hx hb dX6_fix_90 rfl (lv_at hl 0 rfl) ?_
          refine lv_if_ne (tgt := 98) hx hb dX6_fix_91 (by decide) (fun _ => ?_) (fun h9 => absurd h9 (by decide))
          refine lv_iload_n hx hb dX6_fix_98 rfl (lv_at hl 1 rfl) ?_
          refine lv_aload_n hx hb dX6_fix_99 rfl (lv_at hl 2 rfl) ?_
          refine va_get (ci := 6) (v := .int r3) (C := RX6) (T := TX6) (N := 24) hx hb hts bi_6 hown hK hP 0 rfl rfl 5 (by decide) (hts _ bw_410) (fun _ h9 => h9) rfl dX6_fix_100 ?_
          refine tp_i (x' := nI b3) (hr3) ?_
          refine lv_icmp_le (tgt := 113) hx hb dX6_fix_103 (by decide) (fun c_103 => ?_) (fun c_103 => ?_)
          · have c_103 := qq_le (a := sN_ (fun a => kx (i * 10 + a)) 10) (b := b3) c_103 (by omega) (by omega)
            refine lv_iload_n hx hb dX6_fix_113 rfl (lv_at hl 1 rfl) ?_
            refine ar_st hx hb hK hP hD hS 5 (k := (hh * 8) + i) rfl rfl (by omega) (by decide) dX6_fix_114 _ rfl (fun H locs hP hD hS => ?_)
            have hP : va_P D cl_A [ob_J y 6 [.int th, .int (nI hh), .int r0, .int r1, .int r2, .int r3, .ref mb, .int given, .int mrew, .int (nI sz), .ref mk, .ref mc, .ref ms, .ref md, .ref mf, .ref mst, .ref mth, .ref mdr, .ref mw, .ref msh, .ref mpo, .ref mpa, .ref mde, .ref mj], ar_I ms cI 8 fsa, ar_I mf cZ 8 ffz, ar_I mst cI 80 fstk, ar_I mth cI 80 (se_v ffx fstk 80), ar_I mw cI 808 (upd (wf_ fwt hh (wv_ fsa ffz kx b3) i) ((hh * 8) + i) (nI (sN_ (fun a => kx (i * 10 + a)) 10)))] H := hP
            have hD : va_D A [ob_J y 6 [.int th, .int (nI hh), .int r0, .int r1, .int r2, .int r3, .ref mb, .int given, .int mrew, .int (nI sz), .ref mk, .ref mc, .ref ms, .ref md, .ref mf, .ref mst, .ref mth, .ref mdr, .ref mw, .ref msh, .ref mpo, .ref mpa, .ref mde, .ref mj], ar_I ms cI 8 fsa, ar_I mf cZ 8 ffz, ar_I mst cI 80 fstk, ar_I mth cI 80 (se_v ffx fstk 80), ar_I mw cI 808 (upd (wf_ fwt hh (wv_ fsa ffz kx b3) i) ((hh * 8) + i) (nI (sN_ (fun a => kx (i * 10 + a)) 10)))] := hD
            refine lv_iinc (v := nI (i + 1)) (lv' := [(1, .int (nI (i + 1))), (3, .int 1), (2, .int (nI (sN_ (fun a => kx (i * 10 + a)) 10))), (0, .ref y)]) hx hb dX6_fix_115 hl (k := 3) rfl (nI_1 _) (by decide) rfl (fun ls hl => ?_)
            refine lv_goto (tgt := 28) hx hb dX6_fix_118 (by decide) ?_
            have q_7 : (upd (wf_ fwt hh (wv_ fsa ffz kx b3) i) ((hh * 8) + i) (nI (sN_ (fun a => kx (i * 10 + a)) 10))) = (wf_ fwt hh (wv_ fsa ffz kx b3) (i + 1)) := wf_y (congrArg nI (by rw [wv_c ⟨by simp [c_5, c_33, c_49, c_68, c_103], c_68⟩, if_neg (by omega)]))
            obtain ⟨hP, hD⟩ := cs_W (fun z_z => [ob_J y 6 [.int th, .int (nI hh), .int r0, .int r1, .int r2, .int r3, .ref mb, .int given, .int mrew, .int (nI sz), .ref mk, .ref mc, .ref ms, .ref md, .ref mf, .ref mst, .ref mth, .ref mdr, .ref mw, .ref msh, .ref mpo, .ref mpa, .ref mde, .ref mj], ar_I ms cI 8 fsa, ar_I mf cZ 8 ffz, ar_I mst cI 80 fstk, ar_I mth cI 80 (se_v ffx fstk 80), ar_I mw cI 808 z_z]) q_7 hP hD
            have hl := lv_sub (l' := [(0, .ref y), (1, .int (nI (i + 1)))]) hl [3, 0] rfl
            have hl : lv_has ls 4 [(0, .ref y), (1, .int (nI (i + 1)))] := hl
            exact ih_28 (i + 1) (show sz - (i + 1) < sz - i from by omega) (show ((i + 1) ≤ sz) from by omega) H locs ls hP hD hS hl
          · have c_103 := qq_nle (a := sN_ (fun a => kx (i * 10 + a)) 10) (b := b3) c_103 (by omega) (by omega)
            refine lv_aload_n hx hb dX6_fix_106 rfl (lv_at hl 2 rfl) ?_
            refine va_get (ci := 6) (v := .int r3) (C := RX6) (T := TX6) (N := 24) hx hb hts bi_6 hown hK hP 0 rfl rfl 5 (by decide) (hts _ bw_410) (fun _ h9 => h9) rfl dX6_fix_107 ?_
            refine tp_i (x' := nI b3) (hr3) ?_
            refine lv_goto (tgt := 114) hx hb dX6_fix_110 (by decide) ?_
            refine ar_st hx hb hK hP hD hS 5 (k := (hh * 8) + i) rfl rfl (by omega) (by decide) dX6_fix_114 _ rfl (fun H locs hP hD hS => ?_)
            have hP : va_P D cl_A [ob_J y 6 [.int th, .int (nI hh), .int r0, .int r1, .int r2, .int r3, .ref mb, .int given, .int mrew, .int (nI sz), .ref mk, .ref mc, .ref ms, .ref md, .ref mf, .ref mst, .ref mth, .ref mdr, .ref mw, .ref msh, .ref mpo, .ref mpa, .ref mde, .ref mj], ar_I ms cI 8 fsa, ar_I mf cZ 8 ffz, ar_I mst cI 80 fstk, ar_I mth cI 80 (se_v ffx fstk 80), ar_I mw cI 808 (upd (wf_ fwt hh (wv_ fsa ffz kx b3) i) ((hh * 8) + i) (nI b3))] H := hP
            have hD : va_D A [ob_J y 6 [.int th, .int (nI hh), .int r0, .int r1, .int r2, .int r3, .ref mb, .int given, .int mrew, .int (nI sz), .ref mk, .ref mc, .ref ms, .ref md, .ref mf, .ref mst, .ref mth, .ref mdr, .ref mw, .ref msh, .ref mpo, .ref mpa, .ref mde, .ref mj], ar_I ms cI 8 fsa, ar_I mf cZ 8 ffz, ar_I mst cI 80 fstk, ar_I mth cI 80 (se_v ffx fstk 80), ar_I mw cI 808 (upd (wf_ fwt hh (wv_ fsa ffz kx b3) i) ((hh * 8) + i) (nI b3))] := hD
            refine lv_iinc (v := nI (i + 1)) (lv' := [(1, .int (nI (i + 1))), (3, .int 1), (2, .int (nI (sN_ (fun a => kx (i * 10 + a)) 10))), (0, .ref y)]) hx hb dX6_fix_115 hl (k := 3) rfl (nI_1 _) (by decide) rfl (fun ls hl => ?_)
            refine lv_goto (tgt := 28) hx hb dX6_fix_118 (by decide) ?_
            have q_8 : (upd (wf_ fwt hh (wv_ fsa ffz kx b3) i) ((hh * 8) + i) (nI b3)) = (wf_ fwt hh (wv_ fsa ffz kx b3) (i + 1)) := wf_y (congrArg nI (by rw [wv_c ⟨by simp [c_5, c_33, c_49, c_68, c_103], c_68⟩, if_pos c_103]))
            obtain ⟨hP, hD⟩ := cs_W (fun z_z => [ob_J y 6 [.int th, .int (nI hh), .int r0, .int r1, .int r2, .int r3, .ref mb, .int given, .int mrew, .int (nI sz), .ref mk, .ref mc, .ref ms, .ref md, .ref mf, .ref mst, .ref mth, .ref mdr, .ref mw, .ref msh, .ref mpo, .ref mpa, .ref mde, .ref mj], ar_I ms cI 8 fsa, ar_I mf cZ 8 ffz, ar_I mst cI 80 fstk, ar_I mth cI 80 (se_v ffx fstk 80), ar_I mw cI 808 z_z]) q_8 hP hD
            have hl := lv_sub (l' := [(0, .ref y), (1, .int (nI (i + 1)))]) hl [3, 0] rfl
            have hl : lv_has ls 4 [(0, .ref y), (1, .int (nI (i + 1)))] := hl
            exact ih_28 (i + 1) (show sz - (i + 1) < sz - i from by omega) (show ((i + 1) ≤ sz) from by omega) H locs ls hP hD hS hl
      · refine lv_aload_n hx hb dX6_fix_52 rfl (lv_at hl 1 rfl) ?_
        refine va_get (ci := 6) (v := .ref ms) (C := RX6) (T := TX6) (N := 24) hx hb hts bi_6 hown hK hP 0 rfl rfl 12 (by decide) (hts _ bw_417) (fun _ h9 => h9) rfl dX6_fix_53 ?_
        refine lv_iload_n hx hb dX6_fix_56 rfl (lv_at hl 2 rfl) ?_
        refine ar_ld hx hb hK hP 1 (k := i) rfl rfl (by omega) (by decide) dX6_fix_57 ?_
        refine lv_iconst (v := 3) hx hb dX6_fix_58 (by decide) ?_
        refine lv_icmp_ne (tgt := 75) hx hb dX6_fix_59 (by decide) (fun c_59 => ?_) (fun c_59 => ?_)
        · refine lv_iconst (v := 0) hx hb dX6_fix_75 (by decide) ?_
          refine lv_istore_n (lv' := [(3, .int 0), (2, .int (nI (sN_ (fun a => kx (i * 10 + a)) 10))), (0, .ref y), (1, .int (nI i))]) hx hb dX6_fix_76 rfl hl (by decide) rfl (fun ls hl => ?_)
          refine lv_aload_n hx hb dX6_fix_77 rfl (lv_at hl 2 rfl) ?_
          refine va_get (ci := 6) (v := .ref mw) (C := RX6) (T := TX6) (N := 24) hx hb hts bi_6 hown hK hP 0 rfl rfl 18 (by decide) (hts _ bw_423) (fun _ h9 => h9) rfl dX6_fix_78 ?_
          refine lv_bipush (v := 8) hx hb dX6_fix_81 (by decide) ?_
          refine lv_aload_n hx hb dX6_fix_83 rfl (lv_at hl 2 rfl) ?_
          refine va_get (ci := 6) (v := .int (nI hh)) (C := RX6) (T := TX6) (N := 24) hx hb hts bi_6 hown hK hP 0 rfl rfl 1 (by decide) (hts _ bw_406) (fun _ h9 => h9) rfl dX6_fix_84 ?_
          refine lv_imul hx hb dX6_fix_87 ?_
          refine tp_i (x' := nI (hh * 8)) (nn_mulc rfl rfl) ?_
          refine lv_iload_n hx hb dX6_fix_88 rfl (lv_at hl 3 rfl) ?_
          refine lv_iadd hx hb dX6_fix_89 ?_
          refine tp_i (x' := nI ((hh * 8) + i)) (nn_add rfl rfl) ?_
          refine lv_iload_n hx hb dX6_fix_90 rfl (lv_at hl 0 rfl) ?_
          refine lv_if_ne (tgt := 98) hx hb dX6_fix_91 (by decide) (fun h9 => absurd (by decide) h9) (fun _ => ?_)
          refine lv_iconst (v := 0) hx hb dX6_fix_94 (by decide) ?_
          refine lv_goto (tgt := 114) hx hb dX6_fix_95 (by decide) ?_
          refine ar_st hx hb hK hP hD hS 5 (k := (hh * 8) + i) rfl rfl (by omega) (by decide) dX6_fix_114 _ rfl (fun H locs hP hD hS => ?_)
          have hP : va_P D cl_A [ob_J y 6 [.int th, .int (nI hh), .int r0, .int r1, .int r2, .int r3, .ref mb, .int given, .int mrew, .int (nI sz), .ref mk, .ref mc, .ref ms, .ref md, .ref mf, .ref mst, .ref mth, .ref mdr, .ref mw, .ref msh, .ref mpo, .ref mpa, .ref mde, .ref mj], ar_I ms cI 8 fsa, ar_I mf cZ 8 ffz, ar_I mst cI 80 fstk, ar_I mth cI 80 (se_v ffx fstk 80), ar_I mw cI 808 (upd (wf_ fwt hh (wv_ fsa ffz kx b3) i) ((hh * 8) + i) 0)] H := hP
          have hD : va_D A [ob_J y 6 [.int th, .int (nI hh), .int r0, .int r1, .int r2, .int r3, .ref mb, .int given, .int mrew, .int (nI sz), .ref mk, .ref mc, .ref ms, .ref md, .ref mf, .ref mst, .ref mth, .ref mdr, .ref mw, .ref msh, .ref mpo, .ref mpa, .ref mde, .ref mj], ar_I ms cI 8 fsa, ar_I mf cZ 8 ffz, ar_I mst cI 80 fstk, ar_I mth cI 80 (se_v ffx fstk 80), ar_I mw cI 808 (upd (wf_ fwt hh (wv_ fsa ffz kx b3) i) ((hh * 8) + i) 0)] := hD
          refine lv_iinc (v := nI (i + 1)) (lv' := [(1, .int (nI (i + 1))), (3, .int 0), (2, .int (nI (sN_ (fun a => kx (i * 10 + a)) 10))), (0, .ref y)]) hx hb dX6_fix_115 hl (k := 3) rfl (nI_1 _) (by decide) rfl (fun ls hl => ?_)
          refine lv_goto (tgt := 28) hx hb dX6_fix_118 (by decide) ?_
          have q_9 : (upd (wf_ fwt hh (wv_ fsa ffz kx b3) i) ((hh * 8) + i) 0) = (wf_ fwt hh (wv_ fsa ffz kx b3) (i + 1)) := wf_y (congrArg nI (wv_z (by simp [c_5, c_33, c_49, c_59])).symm)
          obtain ⟨hP, hD⟩ := cs_W (fun z_z => [ob_J y 6 [.int th, .int (nI hh), .int r0, .int r1, .int r2, .int r3, .ref mb, .int given, .int mrew, .int (nI sz), .ref mk, .ref mc, .ref ms, .ref md, .ref mf, .ref mst, .ref mth, .ref mdr, .ref mw, .ref msh, .ref mpo, .ref mpa, .ref mde, .ref mj], ar_I ms cI 8 fsa, ar_I mf cZ 8 ffz, ar_I mst cI 80 fstk, ar_I mth cI 80 (se_v ffx fstk 80), ar_I mw cI 808 z_z]) q_9 hP hD
          have hl := lv_sub (l' := [(0, .ref y), (1, .int (nI (i + 1)))]) hl [3, 0] rfl
          have hl : lv_has ls 4 [(0, .ref y), (1, .int (nI (i + 1)))] := hl
          exact ih_28 (i + 1) (show sz - (i + 1) < sz - i from by omega) (show ((i + 1) ≤ sz) from by omega) H locs ls hP hD hS hl
        · refine lv_aload_n hx hb dX6_fix_62 rfl (lv_at hl 1 rfl) ?_
          refine va_get (ci := 6) (v := .ref mf) (C := RX6) (T := TX6) (N := 24) hx hb hts bi_6 hown hK hP 0 rfl rfl 14 (by decide) (hts _ bw_419) (fun _ h9 => h9) rfl dX6_fix_63 ?_
          refine lv_iload_n hx hb dX6_fix_66 rfl (lv_at hl 2 rfl) ?_
          refine ar_zd hx hb hK hP 2 (k := i) rfl rfl (by omega) (by decide) dX6_fix_67 ?_
          refine lv_if_ne (tgt := 75) hx hb dX6_fix_68 (by decide) (fun c_68 => ?_) (fun c_68 => ?_)
          · refine lv_iconst (v := 0) hx hb dX6_fix_75 (by decide) ?_
            refine lv_istore_n (lv' := [(3, .int 0), (2, .int (nI (sN_ (fun a => kx (i * 10 + a)) 10))), (0, .ref y), (1, .int (nI i))]) hx hb dX6_fix_76 rfl hl (by decide) rfl (fun ls hl => ?_)
            refine lv_aload_n hx hb dX6_fix_77 rfl (lv_at hl 2 rfl) ?_
            refine va_get (ci := 6) (v := .ref mw) (C := RX6) (T := TX6) (N := 24) hx hb hts bi_6 hown hK hP 0 rfl rfl 18 (by decide) (hts _ bw_423) (fun _ h9 => h9) rfl dX6_fix_78 ?_
            refine lv_bipush (v := 8) hx hb dX6_fix_81 (by decide) ?_
            refine lv_aload_n hx hb dX6_fix_83 rfl (lv_at hl 2 rfl) ?_
            refine va_get (ci := 6) (v := .int (nI hh)) (C := RX6) (T := TX6) (N := 24) hx hb hts bi_6 hown hK hP 0 rfl rfl 1 (by decide) (hts _ bw_406) (fun _ h9 => h9) rfl dX6_fix_84 ?_
            refine lv_imul hx hb dX6_fix_87 ?_
            refine tp_i (x' := nI (hh * 8)) (nn_mulc rfl rfl) ?_
            refine lv_iload_n hx hb dX6_fix_88 rfl (lv_at hl 3 rfl) ?_
            refine lv_iadd hx hb dX6_fix_89 ?_
            refine tp_i (x' := nI ((hh * 8) + i)) (nn_add rfl rfl) ?_
            refine lv_iload_n hx hb dX6_fix_90 rfl (lv_at hl 0 rfl) ?_
            refine lv_if_ne (tgt := 98) hx hb dX6_fix_91 (by decide) (fun h9 => absurd (by decide) h9) (fun _ => ?_)
            refine lv_iconst (v := 0) hx hb dX6_fix_94 (by decide) ?_
            refine lv_goto (tgt := 114) hx hb dX6_fix_95 (by decide) ?_
            refine ar_st hx hb hK hP hD hS 5 (k := (hh * 8) + i) rfl rfl (by omega) (by decide) dX6_fix_114 _ rfl (fun H locs hP hD hS => ?_)
            have hP : va_P D cl_A [ob_J y 6 [.int th, .int (nI hh), .int r0, .int r1, .int r2, .int r3, .ref mb, .int given, .int mrew, .int (nI sz), .ref mk, .ref mc, .ref ms, .ref md, .ref mf, .ref mst, .ref mth, .ref mdr, .ref mw, .ref msh, .ref mpo, .ref mpa, .ref mde, .ref mj], ar_I ms cI 8 fsa, ar_I mf cZ 8 ffz, ar_I mst cI 80 fstk, ar_I mth cI 80 (se_v ffx fstk 80), ar_I mw cI 808 (upd (wf_ fwt hh (wv_ fsa ffz kx b3) i) ((hh * 8) + i) 0)] H := hP
            have hD : va_D A [ob_J y 6 [.int th, .int (nI hh), .int r0, .int r1, .int r2, .int r3, .ref mb, .int given, .int mrew, .int (nI sz), .ref mk, .ref mc, .ref ms, .ref md, .ref mf, .ref mst, .ref mth, .ref mdr, .ref mw, .ref msh, .ref mpo, .ref mpa, .ref mde, .ref mj], ar_I ms cI 8 fsa, ar_I mf cZ 8 ffz, ar_I mst cI 80 fstk, ar_I mth cI 80 (se_v ffx fstk 80), ar_I mw cI 808 (upd (wf_ fwt hh (wv_ fsa ffz kx b3) i) ((hh * 8) + i) 0)] := hD
            refine lv_iinc (v := nI (i + 1)) (lv' := [(1, .int (nI (i + 1))), (3, .int 0), (2, .int (nI (sN_ (fun a => kx (i * 10 + a)) 10))), (0, .ref y)]) hx hb dX6_fix_115 hl (k := 3) rfl (nI_1 _) (by decide) rfl (fun ls hl => ?_)
            refine lv_goto (tgt := 28) hx hb dX6_fix_118 (by decide) ?_
            have q_10 : (upd (wf_ fwt hh (wv_ fsa ffz kx b3) i) ((hh * 8) + i) 0) = (wf_ fwt hh (wv_ fsa ffz kx b3) (i + 1)) := wf_y (congrArg nI (wv_z (by simp [c_5, c_33, c_49, c_59, c_68])).symm)
            obtain ⟨hP, hD⟩ := cs_W (fun z_z => [ob_J y 6 [.int th, .int (nI hh), .int r0, .int r1, .int r2, .int r3, .ref mb, .int given, .int mrew, .int (nI sz), .ref mk, .ref mc, .ref ms, .ref md, .ref mf, .ref mst, .ref mth, .ref mdr, .ref mw, .ref msh, .ref mpo, .ref mpa, .ref mde, .ref mj], ar_I ms cI 8 fsa, ar_I mf cZ 8 ffz, ar_I mst cI 80 fstk, ar_I mth cI 80 (se_v ffx fstk 80), ar_I mw cI 808 z_z]) q_10 hP hD
            have hl := lv_sub (l' := [(0, .ref y), (1, .int (nI (i + 1)))]) hl [3, 0] rfl
            have hl : lv_has ls 4 [(0, .ref y), (1, .int (nI (i + 1)))] := hl
            exact ih_28 (i + 1) (show sz - (i + 1) < sz - i from by omega) (show ((i + 1) ≤ sz) from by omega) H locs ls hP hD hS hl
          · refine lv_iconst (v := 1) hx hb dX6_fix_71 (by decide) ?_
            refine lv_goto (tgt := 76) hx hb dX6_fix_72 (by decide) ?_
            refine lv_istore_n (lv' := [(3, .int 1), (2, .int (nI (sN_ (fun a => kx (i * 10 + a)) 10))), (0, .ref y), (1, .int (nI i))]) hx hb dX6_fix_76 rfl hl (by decide) rfl (fun ls hl => ?_)
            refine lv_aload_n hx hb dX6_fix_77 rfl (lv_at hl 2 rfl) ?_
            refine va_get (ci := 6) (v := .ref mw) (C := RX6) (T := TX6) (N := 24) hx hb hts bi_6 hown hK hP 0 rfl rfl 18 (by decide) (hts _ bw_423) (fun _ h9 => h9) rfl dX6_fix_78 ?_
            refine lv_bipush (v := 8) hx hb dX6_fix_81 (by decide) ?_
            refine lv_aload_n hx hb dX6_fix_83 rfl (lv_at hl 2 rfl) ?_
            refine va_get (ci := 6) (v := .int (nI hh)) (C := RX6) (T := TX6) (N := 24) hx hb hts bi_6 hown hK hP 0 rfl rfl 1 (by decide) (hts _ bw_406) (fun _ h9 => h9) rfl dX6_fix_84 ?_
            refine lv_imul hx hb dX6_fix_87 ?_
            refine tp_i (x' := nI (hh * 8)) (nn_mulc rfl rfl) ?_
            refine lv_iload_n hx hb dX6_fix_88 rfl (lv_at hl 3 rfl) ?_
            refine lv_iadd hx hb dX6_fix_89 ?_
            refine tp_i (x' := nI ((hh * 8) + i)) (nn_add rfl rfl) ?_
            refine lv_iload_n hx hb dX6_fix_90 rfl (lv_at hl 0 rfl) ?_
            refine lv_if_ne (tgt := 98) hx hb dX6_fix_91 (by decide) (fun _ => ?_) (fun h9 => absurd h9 (by decide))
            refine lv_iload_n hx hb dX6_fix_98 rfl (lv_at hl 1 rfl) ?_
            refine lv_aload_n hx hb dX6_fix_99 rfl (lv_at hl 2 rfl) ?_
            refine va_get (ci := 6) (v := .int r3) (C := RX6) (T := TX6) (N := 24) hx hb hts bi_6 hown hK hP 0 rfl rfl 5 (by decide) (hts _ bw_410) (fun _ h9 => h9) rfl dX6_fix_100 ?_
            refine tp_i (x' := nI b3) (hr3) ?_
            refine lv_icmp_le (tgt := 113) hx hb dX6_fix_103 (by decide) (fun c_103 => ?_) (fun c_103 => ?_)
            · have c_103 := qq_le (a := sN_ (fun a => kx (i * 10 + a)) 10) (b := b3) c_103 (by omega) (by omega)
              refine lv_iload_n hx hb dX6_fix_113 rfl (lv_at hl 1 rfl) ?_
              refine ar_st hx hb hK hP hD hS 5 (k := (hh * 8) + i) rfl rfl (by omega) (by decide) dX6_fix_114 _ rfl (fun H locs hP hD hS => ?_)
              have hP : va_P D cl_A [ob_J y 6 [.int th, .int (nI hh), .int r0, .int r1, .int r2, .int r3, .ref mb, .int given, .int mrew, .int (nI sz), .ref mk, .ref mc, .ref ms, .ref md, .ref mf, .ref mst, .ref mth, .ref mdr, .ref mw, .ref msh, .ref mpo, .ref mpa, .ref mde, .ref mj], ar_I ms cI 8 fsa, ar_I mf cZ 8 ffz, ar_I mst cI 80 fstk, ar_I mth cI 80 (se_v ffx fstk 80), ar_I mw cI 808 (upd (wf_ fwt hh (wv_ fsa ffz kx b3) i) ((hh * 8) + i) (nI (sN_ (fun a => kx (i * 10 + a)) 10)))] H := hP
              have hD : va_D A [ob_J y 6 [.int th, .int (nI hh), .int r0, .int r1, .int r2, .int r3, .ref mb, .int given, .int mrew, .int (nI sz), .ref mk, .ref mc, .ref ms, .ref md, .ref mf, .ref mst, .ref mth, .ref mdr, .ref mw, .ref msh, .ref mpo, .ref mpa, .ref mde, .ref mj], ar_I ms cI 8 fsa, ar_I mf cZ 8 ffz, ar_I mst cI 80 fstk, ar_I mth cI 80 (se_v ffx fstk 80), ar_I mw cI 808 (upd (wf_ fwt hh (wv_ fsa ffz kx b3) i) ((hh * 8) + i) (nI (sN_ (fun a => kx (i * 10 + a)) 10)))] := hD
              refine lv_iinc (v := nI (i + 1)) (lv' := [(1, .int (nI (i + 1))), (3, .int 1), (2, .int (nI (sN_ (fun a => kx (i * 10 + a)) 10))), (0, .ref y)]) hx hb dX6_fix_115 hl (k := 3) rfl (nI_1 _) (by decide) rfl (fun ls hl => ?_)
              refine lv_goto (tgt := 28) hx hb dX6_fix_118 (by decide) ?_
              have q_11 : (upd (wf_ fwt hh (wv_ fsa ffz kx b3) i) ((hh * 8) + i) (nI (sN_ (fun a => kx (i * 10 + a)) 10))) = (wf_ fwt hh (wv_ fsa ffz kx b3) (i + 1)) := wf_y (congrArg nI (by rw [wv_c ⟨by simp [c_5, c_33, c_49, c_59, c_68, c_103], c_68⟩, if_neg (by omega)]))
              obtain ⟨hP, hD⟩ := cs_W (fun z_z => [ob_J y 6 [.int th, .int (nI hh), .int r0, .int r1, .int r2, .int r3, .ref mb, .int given, .int mrew, .int (nI sz), .ref mk, .ref mc, .ref ms, .ref md, .ref mf, .ref mst, .ref mth, .ref mdr, .ref mw, .ref msh, .ref mpo, .ref mpa, .ref mde, .ref mj], ar_I ms cI 8 fsa, ar_I mf cZ 8 ffz, ar_I mst cI 80 fstk, ar_I mth cI 80 (se_v ffx fstk 80), ar_I mw cI 808 z_z]) q_11 hP hD
              have hl := lv_sub (l' := [(0, .ref y), (1, .int (nI (i + 1)))]) hl [3, 0] rfl
              have hl : lv_has ls 4 [(0, .ref y), (1, .int (nI (i + 1)))] := hl
              exact ih_28 (i + 1) (show sz - (i + 1) < sz - i from by omega) (show ((i + 1) ≤ sz) from by omega) H locs ls hP hD hS hl
            · have c_103 := qq_nle (a := sN_ (fun a => kx (i * 10 + a)) 10) (b := b3) c_103 (by omega) (by omega)
              refine lv_aload_n hx hb dX6_fix_106 rfl (lv_at hl 2 rfl) ?_
              refine va_get (ci := 6) (v := .int r3) (C := RX6) (T := TX6) (N := 24) hx hb hts bi_6 hown hK hP 0 rfl rfl 5 (by decide) (hts _ bw_410) (fun _ h9 => h9) rfl dX6_fix_107 ?_
              refine tp_i (x' := nI b3) (hr3) ?_
              refine lv_goto (tgt := 114) hx hb dX6_fix_110 (by decide) ?_
              refine ar_st hx hb hK hP hD hS 5 (k := (hh * 8) + i) rfl rfl (by omega) (by decide) dX6_fix_114 _ rfl (fun H locs hP hD hS => ?_)
              have hP : va_P D cl_A [ob_J y 6 [.int th, .int (nI hh), .int r0, .int r1, .int r2, .int r3, .ref mb, .int given, .int mrew, .int (nI sz), .ref mk, .ref mc, .ref ms, .ref md, .ref mf, .ref mst, .ref mth, .ref mdr, .ref mw, .ref msh, .ref mpo, .ref mpa, .ref mde, .ref mj], ar_I ms cI 8 fsa, ar_I mf cZ 8 ffz, ar_I mst cI 80 fstk, ar_I mth cI 80 (se_v ffx fstk 80), ar_I mw cI 808 (upd (wf_ fwt hh (wv_ fsa ffz kx b3) i) ((hh * 8) + i) (nI b3))] H := hP
              have hD : va_D A [ob_J y 6 [.int th, .int (nI hh), .int r0, .int r1, .int r2, .int r3, .ref mb, .int given, .int mrew, .int (nI sz), .ref mk, .ref mc, .ref ms, .ref md, .ref mf, .ref mst, .ref mth, .ref mdr, .ref mw, .ref msh, .ref mpo, .ref mpa, .ref mde, .ref mj], ar_I ms cI 8 fsa, ar_I mf cZ 8 ffz, ar_I mst cI 80 fstk, ar_I mth cI 80 (se_v ffx fstk 80), ar_I mw cI 808 (upd (wf_ fwt hh (wv_ fsa ffz kx b3) i) ((hh * 8) + i) (nI b3))] := hD
              refine lv_iinc (v := nI (i + 1)) (lv' := [(1, .int (nI (i + 1))), (3, .int 1), (2, .int (nI (sN_ (fun a => kx (i * 10 + a)) 10))), (0, .ref y)]) hx hb dX6_fix_115 hl (k := 3) rfl (nI_1 _) (by decide) rfl (fun ls hl => ?_)
              refine lv_goto (tgt := 28) hx hb dX6_fix_118 (by decide) ?_
              have q_12 : (upd (wf_ fwt hh (wv_ fsa ffz kx b3) i) ((hh * 8) + i) (nI b3)) = (wf_ fwt hh (wv_ fsa ffz kx b3) (i + 1)) := wf_y (congrArg nI (by rw [wv_c ⟨by simp [c_5, c_33, c_49, c_59, c_68, c_103], c_68⟩, if_pos c_103]))
              obtain ⟨hP, hD⟩ := cs_W (fun z_z => [ob_J y 6 [.int th, .int (nI hh), .int r0, .int r1, .int r2, .int r3, .ref mb, .int given, .int mrew, .int (nI sz), .ref mk, .ref mc, .ref ms, .ref md, .ref mf, .ref mst, .ref mth, .ref mdr, .ref mw, .ref msh, .ref mpo, .ref mpa, .ref mde, .ref mj], ar_I ms cI 8 fsa, ar_I mf cZ 8 ffz, ar_I mst cI 80 fstk, ar_I mth cI 80 (se_v ffx fstk 80), ar_I mw cI 808 z_z]) q_12 hP hD
              have hl := lv_sub (l' := [(0, .ref y), (1, .int (nI (i + 1)))]) hl [3, 0] rfl
              have hl : lv_has ls 4 [(0, .ref y), (1, .int (nI (i + 1)))] := hl
              exact ih_28 (i + 1) (show sz - (i + 1) < sz - i from by omega) (show ((i + 1) ≤ sz) from by omega) H locs ls hP hD hS hl
  · have c_5 := qq_nge (a := i) (b := 80) c_5 (by omega) (by omega)
    refine lv_aload_n hx hb dX6_fix_8 rfl (lv_at hl 0 rfl) ?_
    refine va_get (ci := 6) (v := .ref mth) (C := RX6) (T := TX6) (N := 24) hx hb hts bi_6 hown hK hP 0 rfl rfl 16 (by decide) (hts _ bw_421) (fun _ h9 => h9) rfl dX6_fix_9 ?_
    refine lv_iload_n hx hb dX6_fix_12 rfl (lv_at hl 1 rfl) ?_
    refine lv_aload_n hx hb dX6_fix_13 rfl (lv_at hl 0 rfl) ?_
    refine va_get (ci := 6) (v := .ref mst) (C := RX6) (T := TX6) (N := 24) hx hb hts bi_6 hown hK hP 0 rfl rfl 15 (by decide) (hts _ bw_420) (fun _ h9 => h9) rfl dX6_fix_14 ?_
    refine lv_iload_n hx hb dX6_fix_17 rfl (lv_at hl 1 rfl) ?_
    refine ar_ld hx hb hK hP 3 (k := i) rfl rfl (by omega) (by decide) dX6_fix_18 ?_
    refine ar_st hx hb hK hP hD hS 4 (k := i) rfl rfl (by omega) (by decide) dX6_fix_19 _ rfl (fun H locs hP hD hS => ?_)
    have hP : va_P D cl_A [ob_J y 6 [.int th, .int (nI hh), .int r0, .int r1, .int r2, .int r3, .ref mb, .int given, .int mrew, .int (nI sz), .ref mk, .ref mc, .ref ms, .ref md, .ref mf, .ref mst, .ref mth, .ref mdr, .ref mw, .ref msh, .ref mpo, .ref mpa, .ref mde, .ref mj], ar_I ms cI 8 fsa, ar_I mf cZ 8 ffz, ar_I mst cI 80 fstk, ar_I mth cI 80 (upd (se_v ffx fstk i) i (fstk i)), ar_I mw cI 808 fwt] H := hP
    have hD : va_D A [ob_J y 6 [.int th, .int (nI hh), .int r0, .int r1, .int r2, .int r3, .ref mb, .int given, .int mrew, .int (nI sz), .ref mk, .ref mc, .ref ms, .ref md, .ref mf, .ref mst, .ref mth, .ref mdr, .ref mw, .ref msh, .ref mpo, .ref mpa, .ref mde, .ref mj], ar_I ms cI 8 fsa, ar_I mf cZ 8 ffz, ar_I mst cI 80 fstk, ar_I mth cI 80 (upd (se_v ffx fstk i) i (fstk i)), ar_I mw cI 808 fwt] := hD
    refine lv_iinc (v := nI (i + 1)) (lv' := [(1, .int (nI (i + 1))), (0, .ref y)]) hx hb dX6_fix_20 hl (k := 1) rfl (nI_1 _) (by decide) rfl (fun ls hl => ?_)
    refine lv_goto (tgt := 2) hx hb dX6_fix_23 (by decide) ?_
    have q_13 : (upd (se_v ffx fstk i) i (fstk i)) = (se_v ffx fstk (i + 1)) := se_s _ _ i
    obtain ⟨hP, hD⟩ := cs_W (fun z_z => [ob_J y 6 [.int th, .int (nI hh), .int r0, .int r1, .int r2, .int r3, .ref mb, .int given, .int mrew, .int (nI sz), .ref mk, .ref mc, .ref ms, .ref md, .ref mf, .ref mst, .ref mth, .ref mdr, .ref mw, .ref msh, .ref mpo, .ref mpa, .ref mde, .ref mj], ar_I ms cI 8 fsa, ar_I mf cZ 8 ffz, ar_I mst cI 80 fstk, ar_I mth cI 80 z_z, ar_I mw cI 808 fwt]) q_13 hP hD
    have hl := lv_sub (l' := [(0, .ref y), (1, .int (nI (i + 1)))]) hl [1, 0] rfl
    have hl : lv_has ls 4 [(0, .ref y), (1, .int (nI (i + 1)))] := hl
    exact ih_2 (i + 1) (show 80 - (i + 1) < 80 - i from by omega) (show ((i + 1) ≤ 80) from by omega) H locs ls hP hD hS hl

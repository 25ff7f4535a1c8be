/-! THE CLAIM OUT OF ONE WALK OF THE LAW'S BODY. Your part is whole_start (and what it stands on); all else here is the same for every law, but numbers. -/
def R_law : String := "NodeWeightsLaw"
def lw_P (b : Addr) (xs : List Int32) (args : Array Value) (s : State) : Prop := args = #[.ref b] ∧ s.IntsAt b xs ∧ xs.length ≤ 2048 ∧ (Jvm.Cond.and given_1 narrow_1).before args s = true
def lw_Q (_ : Array Value) (s : State) (o : Outcome) (t : State) : Prop := o = .returned (some (.int 1)) ∧ Framed s o t [] 40 6553
def lw_Z (below : List Frame) (a : Array Value) (s : State) : State → Prop := fun t => ∃ o, t.status = .running ∧ Ended t below o ∧ lw_Q a s o t
/-- the law's own end, with 1 on the stack, nothing written that was there before, its room as the claim has it -/
theorem lw_ret {p : Program} {l : Launch} {e : Env} {s : State} {m : MethodId} {below : List Frame} {meth : Method} {c : Code} {b : Nat} (hx : p.tables.exec = Jvm.exec) (hb : c.code = code) (hr : meth.sig.returnType = ret) (hlocks : meth.locks = false) {pc : Nat} {H : Heap} {ls : Array Slot} (hdg : decode code pc = .ok (.ireturn, 1)) : W p l e room_1 s m #[Value.ref b] below meth c H [] 40 6553 (lw_Z below #[Value.ref b] s) (F0 m pc ls [.int 1]) := by
  intro T hT X
  obtain ⟨fs, hret, hrun, hended, hW, hframe⟩ := X.leave (v := some (.int 1)) (hlocks := hlocks) (fun h => by rw [hr] at h; cases h)
  have hmeth' : T.vm.method? m = some meth := X.method'
  refine ⟨T.setFrames fs, ?_, .returned (some (.int 1)), hrun, hended, rfl, ⟨_, rfl⟩, hW, hframe⟩
  jvm_step X.here [X.here.top, hx, hb, hdg, hmeth', hr, ret, narrow_b1]
  (try refine ⟨rfl, ?_⟩); (try refine ⟨rfl, ?_⟩)
  first | (intro acts; rw [hret _ acts rfl rfl rfl]) | rw [hret _ _ rfl rfl rfl]
  exact Steps.refl _
/-- what holds at the law's entry: the machine, the code, the tables' words (any of lw_tbl by 'hts w (by decide +kernel)'), the script of L ints xs at the cell b, what the Statement gives of the start (any of its parts by flat_of_before) -/
def lw_At (p : Program) (s : State) (m : MethodId) (meth : Method) (c : Code) (b L : Nat) (xs : Nat → Int32) : Prop :=
  p.tables.exec = Jvm.exec ∧ c.code = code ∧ meth.sig.returnType = ret ∧ c.maxLocals = 4 ∧ s.vm.findClass R_law = some m.cls ∧ (∀ w ∈ lw_tbl, w.before #[Value.ref b] s = true) ∧ va_X b L xs s s.heap ∧ b < s.heap.size ∧ meth.locks = false ∧ (Jvm.Cond.and given_1 narrow_1).before #[Value.ref b] s = true
theorem lw_c4 {L i : Nat} (hL : L ≤ 2048) (hi : i ≤ L) (h : ¬ (nI L - 4 < nI i)) : i + 4 ≤ L := by
  by_cases h4 : 4 ≤ L
  · rw [show nI L - 4 = nI (L - 4) from nn_sub rfl rfl h4] at h
    apply Decidable.byContradiction
    intro z
    exact h ((nI_ltI (by omega) (by omega)).mpr (by omega))
  · refine absurd ?_ h
    rcases (show L = 0 ∨ L = 1 ∨ L = 2 ∨ L = 3 by omega) with rfl | rfl | rfl | rfl <;> rcases (show i = 0 ∨ i = 1 ∨ i = 2 ∨ i = 3 by omega) with rfl | rfl | rfl | rfl <;> first | decide | omega
section LW
variable {p : Program} {l : Launch} {e : Env} {s : State} {m : MethodId} {below : List Frame} {meth : Method} {c : Code} {args : Array Value} {Q : State → Prop} {A : Nat → Prop} {D : va_G} {cI cJ cZ : ClassId} {b L i : Nat} {xs : Nat → Int32} {x rl bk bal stk due nd kp ct sa la fz st wt rw al br fx sh gv rs wy jp nx y mb mk mc ms md mf mst mth mdr mw msh mpo mpa mde mj : Nat} {hh : Nat} {sz : Nat} {funded : Int32} {rewarded : Int32} {frl : Nat → Int32} {fbal : Nat → Int32} {fstk : Nat → Int32} {fdue : Nat → Int32} {fkp : Nat → Int32} {fct : Nat → Int32} {fsa : Nat → Int32} {fla : Nat → Int32} {ffz : Nat → Int32} {fwt : Nat → Int32} {frw : Nat → Int32} {fal : Nat → Int32} {fbr : Nat → Int32} {ffx : Nat → Int32} {fgv : Nat → Int32} {frs : Nat → Int64} {fjp : Nat → Int32} {fnx : Nat → Int32} {fdm : Nat → Int32} {fpo : Nat → Int32} {fpa : Nat → Int64} {fde : Nat → Int32} {fmj : Nat → Int32} {H : Heap} {locs : List Loc} {ls : Array Slot}
set_option maxHeartbeats 4000000 in
set_option maxRecDepth 100000 in
theorem lw_loop (hx : p.tables.exec = Jvm.exec) (hb : c.code = code) (hml : c.maxLocals = 4) (hts : ∀ w ∈ bg_A, w.before #[Value.ref b] s = true) (hown : s.vm.findClass RL = some m.cls) (hN : hw_N s) (hK : va_K D cl_A (ty_A cI cJ cZ) s) (hA : ∀ q, s.heap.size ≤ q → A q) (hG : sg_ A s s.heap) (hX : va_X b L xs s s.heap) (hbl : b < s.heap.size) (hbA : ¬ A b) (hL : L ≤ 2048) (hr : meth.sig.returnType = ret) (hlk : meth.locks = false) (hAf : ∀ q, A q → s.heap.size ≤ q) (hi0 : i ≤ L) (hI : LI_ hh sz funded rewarded frl fbal fstk fdue fkp fct fsa fla fwt frw fal fbr ffx fdm fpo) (hP : va_P D cl_A [ob_J x 5 [.int (nI hh), .ref rl, .ref bk, .ref nd, .ref st, .ref sh, .ref wy], ar_I rl cI 4 frl, ob_J bk 0 [.int funded, .int rewarded, .ref bal, .ref stk, .ref due], ar_I bal cI 10 fbal, ar_I stk cI 80 fstk, ar_I due cI 1100 fdue, ob_J nd 1 [.int (nI sz), .ref kp, .ref ct, .ref sa, .ref la, .ref fz], ar_I kp cI 8 fkp, ar_I ct cI 8 fct, ar_I sa cI 8 fsa, ar_I la cI 8 fla, ar_I fz cZ 8 ffz, ob_J st 2 [.ref wt, .ref rw, .ref al, .ref br, .ref fx], ar_I wt cI 808 fwt, ar_I rw cI 808 frw, ar_I al cI 101 fal, ar_I br cI 101 fbr, ar_I fx cI 80 ffx, ob_J sh 3 [.ref gv, .ref rs], ar_I gv cI 10 fgv, ar_L rs cJ 10 frs, ob_J wy 4 [.ref jp, .ref nx], ar_I jp cI 101 fjp, ar_I nx cI 101 fnx, ob_J y 6 [.int 0, .int (nI hh), .int (frl 0), .int (frl 1), .int (frl 2), .int (frl 3), .ref mb, .int funded, .int rewarded, .int (nI sz), .ref mk, .ref mc, .ref ms, .ref md, .ref mf, .ref mst, .ref mth, .ref mdr, .ref mw, .ref msh, .ref mpo, .ref mpa, .ref mde, .ref mj], ar_I mb cI 10 fbal, ar_I mk cI 8 fkp, ar_I mc cI 8 fct, ar_I ms cI 8 fsa, ar_I md cI 8 fdm, ar_I mf cZ 8 ffz, ar_I mst cI 80 fstk, ar_I mth cI 80 ffx, ar_I mdr cI 1100 fdue, ar_I mw cI 808 fwt, ar_I msh cI 808 frw, ar_I mpo cI 101 fpo, ar_L mpa cJ 10 fpa, ar_I mde cI 10 fde, ar_I mj cI 101 fmj] H) (hD : va_D A [ob_J x 5 [.int (nI hh), .ref rl, .ref bk, .ref nd, .ref st, .ref sh, .ref wy], ar_I rl cI 4 frl, ob_J bk 0 [.int funded, .int rewarded, .ref bal, .ref stk, .ref due], ar_I bal cI 10 fbal, ar_I stk cI 80 fstk, ar_I due cI 1100 fdue, ob_J nd 1 [.int (nI sz), .ref kp, .ref ct, .ref sa, .ref la, .ref fz], ar_I kp cI 8 fkp, ar_I ct cI 8 fct, ar_I sa cI 8 fsa, ar_I la cI 8 fla, ar_I fz cZ 8 ffz, ob_J st 2 [.ref wt, .ref rw, .ref al, .ref br, .ref fx], ar_I wt cI 808 fwt, ar_I rw cI 808 frw, ar_I al cI 101 fal, ar_I br cI 101 fbr, ar_I fx cI 80 ffx, ob_J sh 3 [.ref gv, .ref rs], ar_I gv cI 10 fgv, ar_L rs cJ 10 frs, ob_J wy 4 [.ref jp, .ref nx], ar_I jp cI 101 fjp, ar_I nx cI 101 fnx, ob_J y 6 [.int 0, .int (nI hh), .int (frl 0), .int (frl 1), .int (frl 2), .int (frl 3), .ref mb, .int funded, .int rewarded, .int (nI sz), .ref mk, .ref mc, .ref ms, .ref md, .ref mf, .ref mst, .ref mth, .ref mdr, .ref mw, .ref msh, .ref mpo, .ref mpa, .ref mde, .ref mj], ar_I mb cI 10 fbal, ar_I mk cI 8 fkp, ar_I mc cI 8 fct, ar_I ms cI 8 fsa, ar_I md cI 8 fdm, ar_I mf cZ 8 ffz, ar_I mst cI 80 fstk, ar_I mth cI 80 ffx, ar_I mdr cI 1100 fdue, ar_I mw cI 808 fwt, ar_I msh cI 808 frw, ar_I mpo cI 101 fpo, ar_L mpa cJ 10 fpa, ar_I mde cI 10 fde, ar_I mj cI 101 fmj]) (hS : va_S A s.heap H locs) (hl : lv_has ls 4 [(0, .ref b), (1, .ref x), (2, .ref y), (3, .int (nI i))]) : W p l e room_1 s m #[Value.ref b] below meth c H locs 40 6553 (lw_Z below #[Value.ref b] s) (F0 m 18 ls []) := by
  refine lp_g (σ := (Nat) × (Nat) × (Nat) × (Int32) × (Int32) × (Nat → Int32) × (Nat → Int32) × (Nat → Int32) × (Nat → Int32) × (Nat → Int32) × (Nat → Int32) × (Nat → Int32) × (Nat → Int32) × (Nat → Int32) × (Nat → Int32) × (Nat → Int32) × (Nat → Int32) × (Nat → Int32) × (Nat → Int32) × (Nat → Int32) × (Nat → Int64) × (Nat → Int32) × (Nat → Int32) × (Nat → Int32) × (Nat → Int32) × (Nat → Int64) × (Nat → Int32) × (Nat → Int32)) (fun x_x => L - x_x.1) (fun x_x => [ob_J x 5 [.int (nI x_x.2.1), .ref rl, .ref bk, .ref nd, .ref st, .ref sh, .ref wy], ar_I rl cI 4 x_x.2.2.2.2.2.1, ob_J bk 0 [.int x_x.2.2.2.1, .int x_x.2.2.2.2.1, .ref bal, .ref stk, .ref due], ar_I bal cI 10 x_x.2.2.2.2.2.2.1, ar_I stk cI 80 x_x.2.2.2.2.2.2.2.1, ar_I due cI 1100 x_x.2.2.2.2.2.2.2.2.1, ob_J nd 1 [.int (nI x_x.2.2.1), .ref kp, .ref ct, .ref sa, .ref la, .ref fz], ar_I kp cI 8 x_x.2.2.2.2.2.2.2.2.2.1, ar_I ct cI 8 x_x.2.2.2.2.2.2.2.2.2.2.1, ar_I sa cI 8 x_x.2.2.2.2.2.2.2.2.2.2.2.1, ar_I la cI 8 x_x.2.2.2.2.2.2.2.2.2.2.2.2.1, ar_I fz cZ 8 x_x.2.2.2.2.2.2.2.2.2.2.2.2.2.1, ob_J st 2 [.ref wt, .ref rw, .ref al, .ref br, .ref fx], ar_I wt cI 808 x_x.2.2.2.2.2.2.2.2.2.2.2.2.2.2.1, ar_I rw cI 808 x_x.2.2.2.2.2.2.2.2.2.2.2.2.2.2.2.1, ar_I al cI 101 x_x.2.2.2.2.2.2.2.2.2.2.2.2.2.2.2.2.1, ar_I br cI 101 x_x.2.2.2.2.2.2.2.2.2.2.2.2.2.2.2.2.2.1, ar_I fx cI 80 x_x.2.2.2.2.2.2.2.2.2.2.2.2.2.2.2.2.2.2.1, ob_J sh 3 [.ref gv, .ref rs], ar_I gv cI 10 x_x.2.2.2.2.2.2.2.2.2.2.2.2.2.2.2.2.2.2.2.1, ar_L rs cJ 10 x_x.2.2.2.2.2.2.2.2.2.2.2.2.2.2.2.2.2.2.2.2.1, ob_J wy 4 [.ref jp, .ref nx], ar_I jp cI 101 x_x.2.2.2.2.2.2.2.2.2.2.2.2.2.2.2.2.2.2.2.2.2.1, ar_I nx cI 101 x_x.2.2.2.2.2.2.2.2.2.2.2.2.2.2.2.2.2.2.2.2.2.2.1, ob_J y 6 [.int 0, .int (nI x_x.2.1), .int (x_x.2.2.2.2.2.1 0), .int (x_x.2.2.2.2.2.1 1), .int (x_x.2.2.2.2.2.1 2), .int (x_x.2.2.2.2.2.1 3), .ref mb, .int x_x.2.2.2.1, .int x_x.2.2.2.2.1, .int (nI x_x.2.2.1), .ref mk, .ref mc, .ref ms, .ref md, .ref mf, .ref mst, .ref mth, .ref mdr, .ref mw, .ref msh, .ref mpo, .ref mpa, .ref mde, .ref mj], ar_I mb cI 10 x_x.2.2.2.2.2.2.1, ar_I mk cI 8 x_x.2.2.2.2.2.2.2.2.2.1, ar_I mc cI 8 x_x.2.2.2.2.2.2.2.2.2.2.1, ar_I ms cI 8 x_x.2.2.2.2.2.2.2.2.2.2.2.1, ar_I md cI 8 x_x.2.2.2.2.2.2.2.2.2.2.2.2.2.2.2.2.2.2.2.2.2.2.2.1, ar_I mf cZ 8 x_x.2.2.2.2.2.2.2.2.2.2.2.2.2.1, ar_I mst cI 80 x_x.2.2.2.2.2.2.2.1, ar_I mth cI 80 x_x.2.2.2.2.2.2.2.2.2.2.2.2.2.2.2.2.2.2.1, ar_I mdr cI 1100 x_x.2.2.2.2.2.2.2.2.1, ar_I mw cI 808 x_x.2.2.2.2.2.2.2.2.2.2.2.2.2.2.1, ar_I msh cI 808 x_x.2.2.2.2.2.2.2.2.2.2.2.2.2.2.2.1, ar_I mpo cI 101 x_x.2.2.2.2.2.2.2.2.2.2.2.2.2.2.2.2.2.2.2.2.2.2.2.2.1, ar_L mpa cJ 10 x_x.2.2.2.2.2.2.2.2.2.2.2.2.2.2.2.2.2.2.2.2.2.2.2.2.2.1, ar_I mde cI 10 x_x.2.2.2.2.2.2.2.2.2.2.2.2.2.2.2.2.2.2.2.2.2.2.2.2.2.2.1, ar_I mj cI 101 x_x.2.2.2.2.2.2.2.2.2.2.2.2.2.2.2.2.2.2.2.2.2.2.2.2.2.2.2]) (fun x_x => [(0, .ref b), (1, .ref x), (2, .ref y), (3, .int (nI x_x.1))]) (fun x_x => x_x.1 ≤ L ∧ LI_ x_x.2.1 x_x.2.2.1 x_x.2.2.2.1 x_x.2.2.2.2.1 x_x.2.2.2.2.2.1 x_x.2.2.2.2.2.2.1 x_x.2.2.2.2.2.2.2.1 x_x.2.2.2.2.2.2.2.2.1 x_x.2.2.2.2.2.2.2.2.2.1 x_x.2.2.2.2.2.2.2.2.2.2.1 x_x.2.2.2.2.2.2.2.2.2.2.2.1 x_x.2.2.2.2.2.2.2.2.2.2.2.2.1 x_x.2.2.2.2.2.2.2.2.2.2.2.2.2.2.1 x_x.2.2.2.2.2.2.2.2.2.2.2.2.2.2.2.1 x_x.2.2.2.2.2.2.2.2.2.2.2.2.2.2.2.2.1 x_x.2.2.2.2.2.2.2.2.2.2.2.2.2.2.2.2.2.1 x_x.2.2.2.2.2.2.2.2.2.2.2.2.2.2.2.2.2.2.1 x_x.2.2.2.2.2.2.2.2.2.2.2.2.2.2.2.2.2.2.2.2.2.2.2.1 x_x.2.2.2.2.2.2.2.2.2.2.2.2.2.2.2.2.2.2.2.2.2.2.2.2.1) ?_ (i, hh, sz, funded, rewarded, frl, fbal, fstk, fdue, fkp, fct, fsa, fla, ffz, fwt, frw, fal, fbr, ffx, fgv, frs, fjp, fnx, fdm, fpo, fpa, fde, fmj) ⟨hi0, hI⟩ hP hD hS hl
  intro x_x H locs ls hF hP hD hS hl ih_18
  obtain ⟨i, hh, sz, funded, rewarded, frl, fbal, fstk, fdue, fkp, fct, fsa, fla, ffz, fwt, frw, fal, fbr, ffx, fgv, frs, fjp, fnx, fdm, fpo, fpa, fde, fmj⟩ := x_x
  have hF : i ≤ L ∧ LI_ hh sz funded rewarded frl fbal fstk fdue fkp fct fsa fla fwt frw fal fbr ffx fdm fpo := hF
  obtain ⟨hiL, hI⟩ := hF
  have hP : va_P D cl_A [ob_J x 5 [.int (nI hh), .ref rl, .ref bk, .ref nd, .ref st, .ref sh, .ref wy], ar_I rl cI 4 frl, ob_J bk 0 [.int funded, .int rewarded, .ref bal, .ref stk, .ref due], ar_I bal cI 10 fbal, ar_I stk cI 80 fstk, ar_I due cI 1100 fdue, ob_J nd 1 [.int (nI sz), .ref kp, .ref ct, .ref sa, .ref la, .ref fz], ar_I kp cI 8 fkp, ar_I ct cI 8 fct, ar_I sa cI 8 fsa, ar_I la cI 8 fla, ar_I fz cZ 8 ffz, ob_J st 2 [.ref wt, .ref rw, .ref al, .ref br, .ref fx], ar_I wt cI 808 fwt, ar_I rw cI 808 frw, ar_I al cI 101 fal, ar_I br cI 101 fbr, ar_I fx cI 80 ffx, ob_J sh 3 [.ref gv, .ref rs], ar_I gv cI 10 fgv, ar_L rs cJ 10 frs, ob_J wy 4 [.ref jp, .ref nx], ar_I jp cI 101 fjp, ar_I nx cI 101 fnx, ob_J y 6 [.int 0, .int (nI hh), .int (frl 0), .int (frl 1), .int (frl 2), .int (frl 3), .ref mb, .int funded, .int rewarded, .int (nI sz), .ref mk, .ref mc, .ref ms, .ref md, .ref mf, .ref mst, .ref mth, .ref mdr, .ref mw, .ref msh, .ref mpo, .ref mpa, .ref mde, .ref mj], ar_I mb cI 10 fbal, ar_I mk cI 8 fkp, ar_I mc cI 8 fct, ar_I ms cI 8 fsa, ar_I md cI 8 fdm, ar_I mf cZ 8 ffz, ar_I mst cI 80 fstk, ar_I mth cI 80 ffx, ar_I mdr cI 1100 fdue, ar_I mw cI 808 fwt, ar_I msh cI 808 frw, ar_I mpo cI 101 fpo, ar_L mpa cJ 10 fpa, ar_I mde cI 10 fde, ar_I mj cI 101 fmj] H := hP
  have hD : va_D A [ob_J x 5 [.int (nI hh), .ref rl, .ref bk, .ref nd, .ref st, .ref sh, .ref wy], ar_I rl cI 4 frl, ob_J bk 0 [.int funded, .int rewarded, .ref bal, .ref stk, .ref due], ar_I bal cI 10 fbal, ar_I stk cI 80 fstk, ar_I due cI 1100 fdue, ob_J nd 1 [.int (nI sz), .ref kp, .ref ct, .ref sa, .ref la, .ref fz], ar_I kp cI 8 fkp, ar_I ct cI 8 fct, ar_I sa cI 8 fsa, ar_I la cI 8 fla, ar_I fz cZ 8 ffz, ob_J st 2 [.ref wt, .ref rw, .ref al, .ref br, .ref fx], ar_I wt cI 808 fwt, ar_I rw cI 808 frw, ar_I al cI 101 fal, ar_I br cI 101 fbr, ar_I fx cI 80 ffx, ob_J sh 3 [.ref gv, .ref rs], ar_I gv cI 10 fgv, ar_L rs cJ 10 frs, ob_J wy 4 [.ref jp, .ref nx], ar_I jp cI 101 fjp, ar_I nx cI 101 fnx, ob_J y 6 [.int 0, .int (nI hh), .int (frl 0), .int (frl 1), .int (frl 2), .int (frl 3), .ref mb, .int funded, .int rewarded, .int (nI sz), .ref mk, .ref mc, .ref ms, .ref md, .ref mf, .ref mst, .ref mth, .ref mdr, .ref mw, .ref msh, .ref mpo, .ref mpa, .ref mde, .ref mj], ar_I mb cI 10 fbal, ar_I mk cI 8 fkp, ar_I mc cI 8 fct, ar_I ms cI 8 fsa, ar_I md cI 8 fdm, ar_I mf cZ 8 ffz, ar_I mst cI 80 fstk, ar_I mth cI 80 ffx, ar_I mdr cI 1100 fdue, ar_I mw cI 808 fwt, ar_I msh cI 808 frw, ar_I mpo cI 101 fpo, ar_L mpa cJ 10 fpa, ar_I mde cI 10 fde, ar_I mj cI 101 fmj] := hD
  have hl : lv_has ls 4 [(0, .ref b), (1, .ref x), (2, .ref y), (3, .int (nI i))] := hl
  refine lv_iload_n hx hb dL_law_18 rfl (lv_at hl 3 rfl) ?_
  refine lv_aload_n hx hb dL_law_19 rfl (lv_at hl 0 rfl) ?_
  refine va_slen hx hb hX hbl hbA hS dL_law_20 ?_
  refine lv_iconst (v := 4) hx hb dL_law_21 (by decide) ?_
  refine lv_isub hx hb dL_law_22 ?_
  refine tp_i (x' := nI L - 4) rfl ?_
  refine lv_icmp_gt (tgt := 800) hx hb dL_law_23 (by decide) (fun c_23 => ?_) (fun c_23 => ?_)
  · refine lv_iconst (v := 1) hx hb dL_law_800 (by decide) ?_
    refine va_forget (fun q h => hAf _ (hS.2.2 q h)) ?_
    exact lw_ret hx hb hr hlk dL_law_801
  have hi : i + 4 ≤ L := lw_c4 hL hiL c_23
  have J_18 : ∀ (hh : Nat) (sz : Nat) (funded : Int32) (rewarded : Int32) (frl : Nat → Int32) (fbal : Nat → Int32) (fstk : Nat → Int32) (fdue : Nat → Int32) (fkp : Nat → Int32) (fct : Nat → Int32) (fsa : Nat → Int32) (fla : Nat → Int32) (ffz : Nat → Int32) (fwt : Nat → Int32) (frw : Nat → Int32) (fal : Nat → Int32) (fbr : Nat → Int32) (ffx : Nat → Int32) (fgv : Nat → Int32) (frs : Nat → Int64) (fjp : Nat → Int32) (fnx : Nat → Int32) (fdm : Nat → Int32) (fpo : Nat → Int32) (fpa : Nat → Int64) (fde : Nat → Int32) (fmj : Nat → Int32) (H : Heap) (locs : List Loc) (ls : Array Slot), LI_ hh sz funded rewarded frl fbal fstk fdue fkp fct fsa fla fwt frw fal fbr ffx fdm fpo → va_P D cl_A [ob_J x 5 [.int (nI hh), .ref rl, .ref bk, .ref nd, .ref st, .ref sh, .ref wy], ar_I rl cI 4 frl, ob_J bk 0 [.int funded, .int rewarded, .ref bal, .ref stk, .ref due], ar_I bal cI 10 fbal, ar_I stk cI 80 fstk, ar_I due cI 1100 fdue, ob_J nd 1 [.int (nI sz), .ref kp, .ref ct, .ref sa, .ref la, .ref fz], ar_I kp cI 8 fkp, ar_I ct cI 8 fct, ar_I sa cI 8 fsa, ar_I la cI 8 fla, ar_I fz cZ 8 ffz, ob_J st 2 [.ref wt, .ref rw, .ref al, .ref br, .ref fx], ar_I wt cI 808 fwt, ar_I rw cI 808 frw, ar_I al cI 101 fal, ar_I br cI 101 fbr, ar_I fx cI 80 ffx, ob_J sh 3 [.ref gv, .ref rs], ar_I gv cI 10 fgv, ar_L rs cJ 10 frs, ob_J wy 4 [.ref jp, .ref nx], ar_I jp cI 101 fjp, ar_I nx cI 101 fnx, ob_J y 6 [.int 0, .int (nI hh), .int (frl 0), .int (frl 1), .int (frl 2), .int (frl 3), .ref mb, .int funded, .int rewarded, .int (nI sz), .ref mk, .ref mc, .ref ms, .ref md, .ref mf, .ref mst, .ref mth, .ref mdr, .ref mw, .ref msh, .ref mpo, .ref mpa, .ref mde, .ref mj], ar_I mb cI 10 fbal, ar_I mk cI 8 fkp, ar_I mc cI 8 fct, ar_I ms cI 8 fsa, ar_I md cI 8 fdm, ar_I mf cZ 8 ffz, ar_I mst cI 80 fstk, ar_I mth cI 80 ffx, ar_I mdr cI 1100 fdue, ar_I mw cI 808 fwt, ar_I msh cI 808 frw, ar_I mpo cI 101 fpo, ar_L mpa cJ 10 fpa, ar_I mde cI 10 fde, ar_I mj cI 101 fmj] H → va_D A [ob_J x 5 [.int (nI hh), .ref rl, .ref bk, .ref nd, .ref st, .ref sh, .ref wy], ar_I rl cI 4 frl, ob_J bk 0 [.int funded, .int rewarded, .ref bal, .ref stk, .ref due], ar_I bal cI 10 fbal, ar_I stk cI 80 fstk, ar_I due cI 1100 fdue, ob_J nd 1 [.int (nI sz), .ref kp, .ref ct, .ref sa, .ref la, .ref fz], ar_I kp cI 8 fkp, ar_I ct cI 8 fct, ar_I sa cI 8 fsa, ar_I la cI 8 fla, ar_I fz cZ 8 ffz, ob_J st 2 [.ref wt, .ref rw, .ref al, .ref br, .ref fx], ar_I wt cI 808 fwt, ar_I rw cI 808 frw, ar_I al cI 101 fal, ar_I br cI 101 fbr, ar_I fx cI 80 ffx, ob_J sh 3 [.ref gv, .ref rs], ar_I gv cI 10 fgv, ar_L rs cJ 10 frs, ob_J wy 4 [.ref jp, .ref nx], ar_I jp cI 101 fjp, ar_I nx cI 101 fnx, ob_J y 6 [.int 0, .int (nI hh), .int (frl 0), .int (frl 1), .int (frl 2), .int (frl 3), .ref mb, .int funded, .int rewarded, .int (nI sz), .ref mk, .ref mc, .ref ms, .ref md, .ref mf, .ref mst, .ref mth, .ref mdr, .ref mw, .ref msh, .ref mpo, .ref mpa, .ref mde, .ref mj], ar_I mb cI 10 fbal, ar_I mk cI 8 fkp, ar_I mc cI 8 fct, ar_I ms cI 8 fsa, ar_I md cI 8 fdm, ar_I mf cZ 8 ffz, ar_I mst cI 80 fstk, ar_I mth cI 80 ffx, ar_I mdr cI 1100 fdue, ar_I mw cI 808 fwt, ar_I msh cI 808 frw, ar_I mpo cI 101 fpo, ar_L mpa cJ 10 fpa, ar_I mde cI 10 fde, ar_I mj cI 101 fmj] → va_S A s.heap H locs → lv_has ls 4 [(0, .ref b), (1, .ref x), (2, .ref y), (3, .int (nI (i + 4)))] → W p l e room_1 s m #[Value.ref b] below meth c H locs 40 6553 (lw_Z below #[Value.ref b] s) (F0 m 18 ls []) := fun hh sz funded rewarded frl fbal fstk fdue fkp fct fsa fla ffz fwt frw fal fbr ffx fgv frs fjp fnx fdm fpo fpa fde fmj H locs ls hI hP hD hS hl => ih_18 (i + 4, hh, sz, funded, rewarded, frl, fbal, fstk, fdue, fkp, fct, fsa, fla, ffz, fwt, frw, fal, fbr, ffx, fgv, frs, fjp, fnx, fdm, fpo, fpa, fde, fmj) (show L - (i + 4) < L - i by omega) ⟨hi, hI⟩ H locs ls hP hD hS hl
  clear ih_18
  refine lv_aload_n hx hb dL_law_26 rfl (lv_at hl 0 rfl) ?_
  refine lv_iload_n hx hb dL_law_27 rfl (lv_at hl 3 rfl) ?_
  refine sc_ld hx hb hX hbl hbA hS (k := i) rfl (by omega) hL dL_law_28 ?_
  refine lv_bipush (v := 31) hx hb dL_law_29 (by decide) ?_
  refine lv_iand hx hb dL_law_31 ?_
  by_cases e_0 : xs i &&& 31 = 0
  · refine tp_i (x' := 0) e_0 ?_
    refine lv_tableIn (off := 96) (tgt := 128) hx hb dL_law_32 (by decide) (by decide) (by decide) (by decide) ?_
    exact lo_rule hx hb hml hts hown hN hK hA hG hX hbl hbA hL J_18 hi hI hP hD hS hl
  by_cases e_1 : xs i &&& 31 = 1
  · refine tp_i (x' := 1) e_1 ?_
    refine lv_tableIn (off := 129) (tgt := 161) hx hb dL_law_32 (by decide) (by decide) (by decide) (by decide) ?_
    exact lo_fund hx hb hml hts hown hN hK hA hG hX hbl hbA hL J_18 hi hI hP hD hS hl
  by_cases e_2 : xs i &&& 31 = 2
  · refine tp_i (x' := 2) e_2 ?_
    refine lv_tableIn (off := 162) (tgt := 194) hx hb dL_law_32 (by decide) (by decide) (by decide) (by decide) ?_
    exact lo_node hx hb hml hts hown hN hK hA hG hX hbl hbA hL J_18 hi hI hP hD hS hl
  by_cases e_3 : xs i &&& 31 = 3
  · refine tp_i (x' := 3) e_3 ?_
    refine lv_tableIn (off := 195) (tgt := 227) hx hb dL_law_32 (by decide) (by decide) (by decide) (by decide) ?_
    exact lo_stake hx hb hml hts hown hN hK hA hG hX hbl hbA hL J_18 hi hI hP hD hS hl
  by_cases e_4 : xs i &&& 31 = 4
  · refine tp_i (x' := 4) e_4 ?_
    refine lv_tableIn (off := 238) (tgt := 270) hx hb dL_law_32 (by decide) (by decide) (by decide) (by decide) ?_
    exact lo_draw hx hb hml hts hown hN hK hA hG hX hbl hbA hL J_18 hi hI hP hD hS hl
  by_cases e_5 : xs i &&& 31 = 5
  · refine tp_i (x' := 5) e_5 ?_
    refine lv_tableIn (off := 281) (tgt := 313) hx hb dL_law_32 (by decide) (by decide) (by decide) (by decide) ?_
    exact lo_join hx hb hml hts hown hN hK hA hG hX hbl hbA hL J_18 hi hI hP hD hS hl
  by_cases e_6 : xs i &&& 31 = 6
  · refine tp_i (x' := 6) e_6 ?_
    refine lv_tableIn (off := 304) (tgt := 336) hx hb dL_law_32 (by decide) (by decide) (by decide) (by decide) ?_
    exact lo_leave hx hb hml hts hown hN hK hA hG hX hbl hbA hL J_18 hi hI hP hD hS hl
  by_cases e_7 : xs i &&& 31 = 7
  · refine tp_i (x' := 7) e_7 ?_
    refine lv_tableIn (off := 327) (tgt := 359) hx hb dL_law_32 (by decide) (by decide) (by decide) (by decide) ?_
    exact lo_freeze hx hb hml hts hown hN hK hA hG hX hbl hbA hL J_18 hi hI hP hD hS hl
  by_cases e_8 : xs i &&& 31 = 8
  · refine tp_i (x' := 8) e_8 ?_
    refine lv_tableIn (off := 376) (tgt := 408) hx hb dL_law_32 (by decide) (by decide) (by decide) (by decide) ?_
    exact lo_advance hx hb hml hts hown hN hK hA hG hX hbl hbA hL J_18 hi hI hP hD hS hl
  by_cases e_9 : xs i &&& 31 = 9
  · refine tp_i (x' := 9) e_9 ?_
    refine lv_tableIn (off := 399) (tgt := 431) hx hb dL_law_32 (by decide) (by decide) (by decide) (by decide) ?_
    exact lo_balance hx hb hml hts hown hN hK hA hG hX hbl hbA hL J_18 hi hI hP hD hS hl
  by_cases e_10 : xs i &&& 31 = 10
  · refine tp_i (x' := 10) e_10 ?_
    refine lv_tableIn (off := 422) (tgt := 454) hx hb dL_law_32 (by decide) (by decide) (by decide) (by decide) ?_
    exact lo_staked hx hb hml hts hown hN hK hA hG hX hbl hbA hL J_18 hi hI hP hD hS hl
  by_cases e_11 : xs i &&& 31 = 11
  · refine tp_i (x' := 11) e_11 ?_
    refine lv_tableIn (off := 455) (tgt := 487) hx hb dL_law_32 (by decide) (by decide) (by decide) (by decide) ?_
    exact lo_drawn hx hb hml hts hown hN hK hA hG hX hbl hbA hL J_18 hi hI hP hD hS hl
  by_cases e_12 : xs i &&& 31 = 12
  · refine tp_i (x' := 12) e_12 ?_
    refine lv_tableIn (off := 488) (tgt := 520) hx hb dL_law_32 (by decide) (by decide) (by decide) (by decide) ?_
    exact lo_about hx hb hml hts hown hN hK hA hG hX hbl hbA hL J_18 hi hI hP hD hS hl
  by_cases e_13 : xs i &&& 31 = 13
  · refine tp_i (x' := 13) e_13 ?_
    refine lv_tableIn (off := 521) (tgt := 553) hx hb dL_law_32 (by decide) (by decide) (by decide) (by decide) ?_
    exact lo_weight hx hb hml hts hown hN hK hA hG hX hbl hbA hL J_18 hi hI hP hD hS hl
  by_cases e_14 : xs i &&& 31 = 14
  · refine tp_i (x' := 14) e_14 ?_
    refine lv_tableIn (off := 554) (tgt := 586) hx hb dL_law_32 (by decide) (by decide) (by decide) (by decide) ?_
    exact lo_reward hx hb hml hts hown hN hK hA hG hX hbl hbA hL J_18 hi hI hP hD hS hl
  by_cases e_15 : xs i &&& 31 = 15
  · refine tp_i (x' := 15) e_15 ?_
    refine lv_tableIn (off := 587) (tgt := 619) hx hb dL_law_32 (by decide) (by decide) (by decide) (by decide) ?_
    exact lo_judge hx hb hml hts hown hN hK hA hG hX hbl hbA hL J_18 hi hI hP hD hS hl
  by_cases e_16 : xs i &&& 31 = 16
  · refine tp_i (x' := 16) e_16 ?_
    refine lv_tableIn (off := 620) (tgt := 652) hx hb dL_law_32 (by decide) (by decide) (by decide) (by decide) ?_
    exact lo_jump hx hb hml hts hown hN hK hA hG hX hbl hbA hL J_18 hi hI hP hD hS hl
  by_cases e_17 : xs i &&& 31 = 17
  · refine tp_i (x' := 17) e_17 ?_
    refine lv_tableIn (off := 663) (tgt := 695) hx hb dL_law_32 (by decide) (by decide) (by decide) (by decide) ?_
    exact lo_overlap hx hb hml hts hown hN hK hA hG hX hbl hbA hL J_18 hi hI hP hD hS hl
  by_cases e_18 : xs i &&& 31 = 18
  · refine tp_i (x' := 18) e_18 ?_
    refine lv_tableIn (off := 696) (tgt := 728) hx hb dL_law_32 (by decide) (by decide) (by decide) (by decide) ?_
    exact lo_way hx hb hml hts hown hN hK hA hG hX hbl hbA hL J_18 hi hI hP hD hS hl
  by_cases e_19 : xs i &&& 31 = 19
  · refine tp_i (x' := 19) e_19 ?_
    refine lv_tableIn (off := 739) (tgt := 771) hx hb dL_law_32 (by decide) (by decide) (by decide) (by decide) ?_
    exact lo_count hx hb hml hts hown hN hK hA hG hX hbl hbA hL J_18 hi hI hP hD hS hl
  refine lv_tableOut (tgt := 794) hx hb dL_law_32 (sw_out 19 (fun z hz => ?_)) (by decide) ?_
  · rcases (show z = 0 ∨ z = 1 ∨ z = 2 ∨ z = 3 ∨ z = 4 ∨ z = 5 ∨ z = 6 ∨ z = 7 ∨ z = 8 ∨ z = 9 ∨ z = 10 ∨ z = 11 ∨ z = 12 ∨ z = 13 ∨ z = 14 ∨ z = 15 ∨ z = 16 ∨ z = 17 ∨ z = 18 ∨ z = 19 by omega) with rfl | rfl | rfl | rfl | rfl | rfl | rfl | rfl | rfl | rfl | rfl | rfl | rfl | rfl | rfl | rfl | rfl | rfl | rfl | rfl
    · exact e_0
    · exact e_1
    · exact e_2
    · exact e_3
    · exact e_4
    · exact e_5
    · exact e_6
    · exact e_7
    · exact e_8
    · exact e_9
    · exact e_10
    · exact e_11
    · exact e_12
    · exact e_13
    · exact e_14
    · exact e_15
    · exact e_16
    · exact e_17
    · exact e_18
    · exact e_19
  refine lv_iinc (v := nI (i + 4)) (lv' := [(3, .int (nI (i + 4))), (0, .ref b), (1, .ref x), (2, .ref y)]) hx hb dL_law_794 hl (k := 3) rfl (nn_add rfl rfl) (by decide) rfl (fun ls hl => ?_)
  refine lv_goto (tgt := 18) hx hb dL_law_797 (by decide) ?_
  have hl := lv_sub (l' := [(0, .ref b), (1, .ref x), (2, .ref y), (3, .int (nI (i + 4)))]) hl [1, 2, 3, 0] rfl
  exact J_18 hh sz funded rewarded frl fbal fstk fdue fkp fct fsa fla ffz fwt frw fal fbr ffx fgv frs fjp fnx fdm fpo fpa fde fmj H locs ls hI hP hD hS hl
end LW

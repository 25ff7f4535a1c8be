/-! the base of the rows: contracts, entry, calls with cut and join, ends, arrays by natural numbers -/
abbrev cl_A : List vw_C := [(RX0, TX0, 5), (RX1, TX1, 6), (RX2, TX2, 5), (RX3, TX3, 2), (RX4, TX4, 2), (RX5, TX5, 7), (RX6, TX6, 24)]
abbrev ty_A (cI cJ cZ : ClassId) : List (ClassId × FieldType) := [(cI, .int), (cJ, .long), (cZ, .boolean)]
abbrev ar_I (a : Nat) (cI : ClassId) (n : Nat) (f : Nat → Int32) : Nat × va_E := (a, .inl (cI, n, .inl f))
abbrev ar_L (a : Nat) (cJ : ClassId) (n : Nat) (f : Nat → Int64) : Nat × va_E := (a, .inl (cJ, n, .inr (.inl f)))
abbrev ob_J (a ci : Nat) (fs : List Value) : Nat × va_E := (a, .inr (ci, fs))
/-- the links between nest mates -/
def hw_N (U : State) : Prop := va_Nw (.methodLinkNest RX0 21 yX5_duePlace RX5) U ∧ va_Nw (.methodLinkNest RX0 25 yX5_stakePlace RX5) U ∧ va_Nw (.methodLinkNest RX2 27 yX5_setPlace RX5) U ∧ va_Nw (.methodLinkNest RX5 20 yX0_init RX5) U ∧ va_Nw (.methodLinkNest RX5 27 yX1_init RX5) U ∧ va_Nw (.methodLinkNest RX5 34 yX2_init RX5) U ∧ va_Nw (.methodLinkNest RX5 41 yX3_init RX5) U ∧ va_Nw (.methodLinkNest RX5 48 yX4_init RX5) U
theorem hw_N.warm {s U : State} (hW : s.WarmedH U.vm) (h : hw_N s) : hw_N U :=
  ⟨h.1.warmM hW, h.2.1.warmM hW, h.2.2.1.warmM hW, h.2.2.2.1.warmM hW, h.2.2.2.2.1.warmM hW, h.2.2.2.2.2.1.warmM hW, h.2.2.2.2.2.2.1.warmM hW, h.2.2.2.2.2.2.2.warmM hW⟩
theorem hw_N.same {u U : State} (e : u.vm = U.vm) (h : hw_N u) : hw_N U :=
  ⟨h.1.same rfl e, h.2.1.same rfl e, h.2.2.1.same rfl e, h.2.2.2.1.same rfl e, h.2.2.2.2.1.same rfl e, h.2.2.2.2.2.1.same rfl e, h.2.2.2.2.2.2.1.same rfl e, h.2.2.2.2.2.2.2.same rfl e⟩
def pr_W (D : va_G) (cI cJ cZ : ClassId) (ws : va_W) (sz : Nat) (U : State) : Prop := U.heap.size = sz ∧ va_P D cl_A ws U.heap ∧ va_K D cl_A (ty_A cI cJ cZ) U ∧ va_D (fun _ => True) ws ∧ hw_N U
def af_W (D : va_G) (cI cJ cZ : ClassId) (A : Nat → Prop) (ws : va_W) (t : State) : Prop := va_P D cl_A ws t.heap ∧ va_K D cl_A (ty_A cI cJ cZ) t ∧ va_D A ws
abbrev rm_M (fr lo : Nat) : Room := { frames := fr, cells := 0, slots := 0, locals := lo }
/-- a contract: an answer of one word -/
def mt_I (l : Launch) (y : MethodName) (cc : ByteArray) (maxL : Nat) (rt : FieldType) (fr lo : Nat) (D : va_G) (cI cJ cZ : ClassId) (ws : va_W) (av : List Value) {S : Type} (post : Int32 → S → Prop) (w1 : S → va_W) : Prop :=
  ∀ sz : Nat, Met l y (.code y cc maxL (some rt) :: bg_A) (rm_M fr lo) (va_Pc av (pr_W D cI cJ cZ ws sz)) (va_Qi post (fun u => af_W D cI cJ cZ (va_A ws sz) (w1 u)) (va_A ws sz)) 0 0 (va_A ws sz)
/-- a contract: no answer -/
def mt_V (l : Launch) (y : MethodName) (cc : ByteArray) (maxL : Nat) (fr lo : Nat) (D : va_G) (cI cJ cZ : ClassId) (ws : va_W) (av : List Value) {S : Type} (post : S → Prop) (w1 : S → va_W) : Prop :=
  ∀ sz : Nat, Met l y (.code y cc maxL none :: bg_A) (rm_M fr lo) (va_Pc av (pr_W D cI cJ cZ ws sz)) (va_Qv post (fun u => af_W D cI cJ cZ (va_A ws sz) (w1 u)) (va_A ws sz)) 0 0 (va_A ws sz)
theorem gd_C {y : MethodName} {cb : ByteArray} {n : Nat} {r : Option FieldType} (hc : Cond.code y cb n r ∈ bg_A) : GoodIn bg_A (Cond.code y cb n r :: bg_A) := fun w hw => by
  have h : w ∈ bg_A := (List.mem_cons.mp hw).elim (fun e => e ▸ hc) id
  exact ⟨h, good_of_word (List.mem_filter.mp h).2⟩
theorem bl_W {D : va_G} {cI cJ cZ : ClassId} {ws : va_W} {sz : Nat} {av : List Value} : FrameBlind (va_Pc av (pr_W D cI cJ cZ ws sz)) := by
  intro a U g mk q
  obtain ⟨q0, q1, qP, qK, qD, qN⟩ := q
  exact ⟨q0, q1, qP, va_K.moved (u := U) (U := U.calling g mk a) (Vm.Alike.refl U.vm) qK, qD, qN.same rfl⟩
/-! numbers -/
abbrev tn_X (x : Int32) : Nat := x.toNatClampNeg
theorem nn_add {x y : Int32} {a b : Nat} (hx : x = nI a) (hy : y = nI b) : x + y = nI (a + b) := by rw [hx, hy, nI_add]
theorem nn_mul {x y : Int32} {a b : Nat} (hx : x = nI a) (hy : y = nI b) : x * y = nI (a * b) := by rw [hx, hy, pk_mul]
theorem nn_sub {x y : Int32} {a b : Nat} (hx : x = nI a) (hy : y = nI b) (h : b ≤ a) : x - y = nI (a - b) := by rw [hx, hy, pk_sub h]
theorem nn_dec {a : Nat} (h : 0 < a) : nI a + Int32.ofInt (-1) = nI (a - 1) := sb_m1 h
theorem qq_eq {a b : Nat} (h : nI a = nI b) (ha : a < 2 ^ 31) (hb : b < 2 ^ 31) : a = b := (nI_eq ha hb).mp h
theorem qq_ne {a b : Nat} (h : ¬ nI a = nI b) (ha : a < 2 ^ 31) (hb : b < 2 ^ 31) : ¬ a = b := fun z => h ((nI_eq ha hb).mpr z)
theorem qq_lt {a b : Nat} (h : nI a < nI b) (ha : a < 2 ^ 31) (hb : b < 2 ^ 31) : a < b := (nI_ltI ha hb).mp h
theorem qq_nlt {a b : Nat} (h : ¬ nI a < nI b) (ha : a < 2 ^ 31) (hb : b < 2 ^ 31) : b ≤ a := Nat.not_lt.mp fun z => h ((nI_ltI ha hb).mpr z)
theorem qq_ge {a b : Nat} (h : nI b ≤ nI a) (ha : a < 2 ^ 31) (hb : b < 2 ^ 31) : b ≤ a := (nI_leI hb ha).mp h
theorem qq_nge {a b : Nat} (h : ¬ nI b ≤ nI a) (ha : a < 2 ^ 31) (hb : b < 2 ^ 31) : a < b := Nat.not_le.mp fun z => h ((nI_leI hb ha).mpr z)
theorem qq_gt {a b : Nat} (h : nI b < nI a) (ha : a < 2 ^ 31) (hb : b < 2 ^ 31) : b < a := (nI_ltI hb ha).mp h
theorem qq_ngt {a b : Nat} (h : ¬ nI b < nI a) (ha : a < 2 ^ 31) (hb : b < 2 ^ 31) : a ≤ b := Nat.not_lt.mp fun z => h ((nI_ltI hb ha).mpr z)
theorem qq_le {a b : Nat} (h : nI a ≤ nI b) (ha : a < 2 ^ 31) (hb : b < 2 ^ 31) : a ≤ b := (nI_leI ha hb).mp h
theorem qq_nle {a b : Nat} (h : ¬ nI a ≤ nI b) (ha : a < 2 ^ 31) (hb : b < 2 ^ 31) : b < a := Nat.not_le.mp fun z => h ((nI_leI ha hb).mpr z)
theorem lc_lt {x y : Int64} (h : lg_cmp x y < 0) : x < y := by
  unfold lg_cmp at h
  split at h
  · exact absurd h (by decide)
  · split at h
    · exact absurd h (by decide)
    · rename_i h1 h2
      exact Int64.lt_of_le_of_ne (Int64.not_lt.mp h1) h2
theorem lc_nlt {x y : Int64} (h : ¬ lg_cmp x y < 0) : ¬ x < y := by
  intro z
  have h1 : ¬ y < x := Int64.not_lt.mpr (Int64.le_of_lt z)
  have h2 : ¬ x = y := Int64.ne_of_lt z
  exact h (by simp [lg_cmp, h1, h2])
theorem lc_gt {x y : Int64} (h : 0 < lg_cmp x y) : y < x := by
  unfold lg_cmp at h
  split at h
  · assumption
  · split at h
    · exact absurd h (by decide)
    · exact absurd h (by decide)
theorem lc_ngt {x y : Int64} (h : ¬ 0 < lg_cmp x y) : ¬ y < x := fun z => h (by simp [lg_cmp, z])
theorem lc_le {x y : Int64} (h : lg_cmp x y ≤ 0) : ¬ y < x := fun z => by simp [lg_cmp, z] at h
theorem lc_nle {x y : Int64} (h : ¬ lg_cmp x y ≤ 0) : y < x := by
  apply Decidable.byContradiction
  intro z
  apply h
  by_cases e : x = y
  · simp [lg_cmp, e]
  · simp [lg_cmp, e, z]
theorem lc_ge {x y : Int64} (h : 0 ≤ lg_cmp x y) : ¬ x < y := lc_nlt (Int32.not_lt.mpr h)
theorem lc_nge {x y : Int64} (h : ¬ 0 ≤ lg_cmp x y) : x < y := lc_lt (Int32.not_le.mp h)
theorem lc_eq {x y : Int64} (h : lg_cmp x y = 0) : x = y := by
  unfold lg_cmp at h
  split at h
  · exact absurd h (by decide)
  · split at h
    · assumption
    · exact absurd h (by decide)
theorem lc_ne {x y : Int64} (h : ¬ lg_cmp x y = 0) : ¬ x = y := fun z => h (by simp [lg_cmp, z])
theorem sw_out {x : Int32} (n : Nat) (h : ∀ z : Nat, z ≤ n → ¬ x = nI z) : x.toInt < 0 ∨ (n : Int) < x.toInt := by
  apply Decidable.byContradiction
  intro q
  have h1 : 0 ≤ x.toInt := by omega
  have h2 : x.toInt ≤ n := by omega
  refine h x.toInt.toNat (by omega) ?_
  apply Int32.toInt_inj.mp
  have h3 : x.toInt < 2 ^ 31 := Int32.toInt_lt x
  rw [nI_toInt (by omega)]
  omega
section BS
variable {p : Program} {l : Launch} {e : Env} {R : Room} {s : State} {m : MethodId} {args : Array Value} {below : List Frame} {meth : Method} {c : Code} {H : Heap} {locs : List Loc} {cells slots : Nat} {Q : State → Prop}
variable {D : va_G} {cI cJ cZ : ClassId} {A : Nat → Prop} {ws wc wr : va_W} {cc cb : ByteArray} {pc : Nat} {ls : Array Slot} {rest st0 As : List Value} {own C : String} {y : MethodName} {index maxB nL n fr lo b ci q0 : Nat}
theorem en_I {S : Type} {post : Int32 → S → Prop} {w1 : S → va_W} {rt : FieldType} {maxL : Nat} {av : List Value} (hy : plainName y.cls = true) (hlen : (lg_sl av).length ≤ maxL)
    (k : ∀ (p : Program) (e : Env) (s : State) (m : MethodId) (below : List Frame) (meth : Method) (c : Code) (A : Nat → Prop) (ls : Array Slot) (H : Heap) (locs : List Loc), p.tables.exec = Jvm.exec → c.code = cc → meth.sig.returnType = some rt → c.maxLocals = maxL → (∀ w ∈ bg_A, w.before av.toArray s = true) → s.vm.findClass y.cls = some m.cls → meth.locks = false → hw_N s → va_K D cl_A (ty_A cI cJ cZ) s → (∀ q, s.heap.size ≤ q → A q) → va_P D cl_A ws H → va_D A ws → va_S A s.heap H locs → lv_has ls maxL (lv_args 0 av) →
      W p l e (rm_M fr lo) s m av.toArray below meth c H locs 0 0 (MQ below (va_Qi post (fun u => af_W D cI cJ cZ A (w1 u)) A) av.toArray s 0 0 A) (F0 m 0 ls [])) : mt_I l y cc maxL rt fr lo D cI cJ cZ ws av post w1 := by
  intro sz
  refine Met.ofW (cc := cc) (maxL := maxL) (ret := some rt) hy rfl ?_
  intro p e s m args below meth c s₁ B hml hv
  obtain ⟨rfl, hsz, hP, hK, hD0, hN⟩ := hv
  subst hsz
  have hts := atoms_spec (ws := .code y cc maxL (some rt) :: bg_A) B.pre
  rw [lg_entry_eq]
  exact k p e s m below meth c (va_A ws s.heap.size) _ s.heap [] B.exec B.bytes B.returns hml (fun w h => hts w (List.mem_cons_of_mem _ h)) (findClass_of_methodNamed B.named) B.notSynchronized hN hK (fun q h => Or.inr h) hP hD0.self va_S.rf (lv_entry av hlen)
theorem en_V {S : Type} {post : S → Prop} {w1 : S → va_W} {maxL : Nat} {av : List Value} (hy : plainName y.cls = true) (hlen : (lg_sl av).length ≤ maxL)
    (k : ∀ (p : Program) (e : Env) (s : State) (m : MethodId) (below : List Frame) (meth : Method) (c : Code) (A : Nat → Prop) (ls : Array Slot) (H : Heap) (locs : List Loc), p.tables.exec = Jvm.exec → c.code = cc → meth.sig.returnType = none → c.maxLocals = maxL → (∀ w ∈ bg_A, w.before av.toArray s = true) → s.vm.findClass y.cls = some m.cls → meth.locks = false → hw_N s → va_K D cl_A (ty_A cI cJ cZ) s → (∀ q, s.heap.size ≤ q → A q) → va_P D cl_A ws H → va_D A ws → va_S A s.heap H locs → lv_has ls maxL (lv_args 0 av) →
      W p l e (rm_M fr lo) s m av.toArray below meth c H locs 0 0 (MQ below (va_Qv post (fun u => af_W D cI cJ cZ A (w1 u)) A) av.toArray s 0 0 A) (F0 m 0 ls [])) : mt_V l y cc maxL fr lo D cI cJ cZ ws av post w1 := by
  intro sz
  refine Met.ofW (cc := cc) (maxL := maxL) (ret := none) hy rfl ?_
  intro p e s m args below meth c s₁ B hml hv
  obtain ⟨rfl, hsz, hP, hK, hD0, hN⟩ := hv
  subst hsz
  have hts := atoms_spec (ws := .code y cc maxL none :: bg_A) B.pre
  rw [lg_entry_eq]
  exact k p e s m below meth c (va_A ws s.heap.size) _ s.heap [] B.exec B.bytes B.returns hml (fun w h => hts w (List.mem_cons_of_mem _ h)) (findClass_of_methodNamed B.named) B.notSynchronized hN hK (fun q h => Or.inr h) hP hD0.self va_S.rf (lv_entry av hlen)
/-- the end with an answer -/
theorem re_I {S : Type} {post : Int32 → S → Prop} {w1 : S → va_W} {v : Int32} {rt : FieldType} (hexec : p.tables.exec = Jvm.exec) (hb : c.code = cc) (hr : meth.sig.returnType = some rt) (hlk : meth.locks = false) (hK : va_K D cl_A (ty_A cI cJ cZ) s) (hS : va_S A s.heap H locs) (hn : narrow rt (.int v) = .int v) (u : S) (hP : va_P D cl_A (w1 u) H) (hD : va_D A (w1 u)) (hpost : post v u) (hdg : decode cc pc = .ok (.ireturn, 1)) :
    W p l e R s m args below meth c H locs cells slots (MQ below (va_Qi post (fun u => af_W D cI cJ cZ A (w1 u)) A) args s cells slots A) (F0 m pc ls [.int v]) :=
  W.zret hexec hb hr hn (fun _ ht hW => ⟨⟨v, u, rfl, hpost, by rw [ht]; exact hP, va_K.moved hW.alike hK, hD⟩, hS.F ht⟩) hS.2.2 hdg hlk
theorem re_V {S : Type} {post : S → Prop} {w1 : S → va_W} (hexec : p.tables.exec = Jvm.exec) (hb : c.code = cc) (hr : meth.sig.returnType = none) (hlk : meth.locks = false) (hK : va_K D cl_A (ty_A cI cJ cZ) s) (hS : va_S A s.heap H locs) (u : S) (hP : va_P D cl_A (w1 u) H) (hD : va_D A (w1 u)) (hpost : post u) (hdg : decode cc pc = .ok (.return_, 1)) :
    W p l e R s m args below meth c H locs cells slots (MQ below (va_Qv post (fun u => af_W D cI cJ cZ A (w1 u)) A) args s cells slots A) (F0 m pc ls []) :=
  W.vret hexec hb hr (fun _ ht hW => ⟨⟨u, rfl, hpost, by rw [ht]; exact hP, va_K.moved hW.alike hK, hD⟩, hS.F ht⟩) hS.2.2 hdg hlk
/-- the same top, said otherwise -/
theorem tp_i {x x' : Int32} (h : x = x') (k : W p l e R s m args below meth c H locs cells slots Q (F0 m pc ls (.int x' :: rest))) : W p l e R s m args below meth c H locs cells slots Q (F0 m pc ls (.int x :: rest)) := h ▸ k
theorem tp_l {x x' : Int64} (h : x = x') (k : W p l e R s m args below meth c H locs cells slots Q (F0 m pc ls (.long x' :: rest))) : W p l e R s m args below meth c H locs cells slots Q (F0 m pc ls (.long x :: rest)) := h ▸ k
theorem lv_ct {n : Nat} {l1 l2 : List (Nat × Value)} (h : lv_has ls n l1) (e : l1 = l2) : lv_has ls n l2 := e ▸ h
/-- arrays, by natural numbers -/
theorem ar_ld (hexec : p.tables.exec = Jvm.exec) (hb : c.code = cc) (hK : va_K D cl_A (ty_A cI cJ cZ) s) (hP : va_P D cl_A ws H) (q0 : Nat) {n k : Nat} {f : Nat → Int32} {a : Nat} (ha : ws[q0]? = some (ar_I a cI n f)) {i : Int32} (hi : i = nI k) (hk : k < n) (hn : n < 2 ^ 31) (hdg : decode cc pc = .ok (.iaload, 1))
    (kk : W p l e R s m args below meth c H locs cells slots Q (F0 m (pc + 1) ls (.int (f k) :: rest))) : W p l e R s m args below meth c H locs cells slots Q (F0 m pc ls (.int i :: .ref a :: rest)) := by
  subst hi
  refine va_iald hexec hb hK hP q0 0 ha rfl (vp_in_nI hk hn) hdg ?_
  rw [nI_clamp (Nat.lt_trans hk hn)]; exact kk
theorem ar_zd (hexec : p.tables.exec = Jvm.exec) (hb : c.code = cc) (hK : va_K D cl_A (ty_A cI cJ cZ) s) (hP : va_P D cl_A ws H) (q0 : Nat) {n k : Nat} {f : Nat → Int32} {a : Nat} (ha : ws[q0]? = some (ar_I a cZ n f)) {i : Int32} (hi : i = nI k) (hk : k < n) (hn : n < 2 ^ 31) (hdg : decode cc pc = .ok (.baload, 1))
    (kk : W p l e R s m args below meth c H locs cells slots Q (F0 m (pc + 1) ls (.int (f k) :: rest))) : W p l e R s m args below meth c H locs cells slots Q (F0 m pc ls (.int i :: .ref a :: rest)) := by
  subst hi
  refine va_zald hexec hb hK hP q0 2 ha rfl (vp_in_nI hk hn) hdg ?_
  rw [nI_clamp (Nat.lt_trans hk hn)]; exact kk
theorem ar_lld (hexec : p.tables.exec = Jvm.exec) (hb : c.code = cc) (hK : va_K D cl_A (ty_A cI cJ cZ) s) (hP : va_P D cl_A ws H) (q0 : Nat) {n k : Nat} {f : Nat → Int64} {a : Nat} (ha : ws[q0]? = some (ar_L a cJ n f)) {i : Int32} (hi : i = nI k) (hk : k < n) (hn : n < 2 ^ 31) (hdg : decode cc pc = .ok (.laload, 1))
    (kk : W p l e R s m args below meth c H locs cells slots Q (F0 m (pc + 1) ls (.long (f k) :: rest))) : W p l e R s m args below meth c H locs cells slots Q (F0 m pc ls (.int i :: .ref a :: rest)) := by
  subst hi
  refine va_lald hexec hb hK hP q0 1 ha rfl (vp_in_nI hk hn) hdg ?_
  rw [nI_clamp (Nat.lt_trans hk hn)]; exact kk
theorem ar_st (hexec : p.tables.exec = Jvm.exec) (hb : c.code = cc) (hK : va_K D cl_A (ty_A cI cJ cZ) s) (hP : va_P D cl_A ws H) (hD : va_D A ws) (hS : va_S A s.heap H locs) (q0 : Nat) {n k : Nat} {f : Nat → Int32} {a : Nat} (ha : ws[q0]? = some (ar_I a cI n f)) {i x : Int32} (hi : i = nI k) (hk : k < n) (hn : n < 2 ^ 31) (hdg : decode cc pc = .ok (.iastore, 1)) (w2 : va_W) (h2 : ws.set q0 (ar_I a cI n (upd f k x)) = w2)
    (kk : ∀ (H1 : Heap) (locs1 : List Loc), va_P D cl_A w2 H1 → va_D A w2 → va_S A s.heap H1 locs1 → W p l e R s m args below meth c H1 locs1 cells slots Q (F0 m (pc + 1) ls rest)) : W p l e R s m args below meth c H locs cells slots Q (F0 m pc ls (.int x :: .int i :: .ref a :: rest)) := by
  subst hi; subst h2
  refine va_iast hexec hb hK hP hD hS q0 0 ha rfl (vp_in_nI hk hn) hdg ?_
  rw [nI_clamp (Nat.lt_trans hk hn)]; exact kk
theorem ar_lst (hexec : p.tables.exec = Jvm.exec) (hb : c.code = cc) (hK : va_K D cl_A (ty_A cI cJ cZ) s) (hP : va_P D cl_A ws H) (hD : va_D A ws) (hS : va_S A s.heap H locs) (q0 : Nat) {n k : Nat} {f : Nat → Int64} {a : Nat} (ha : ws[q0]? = some (ar_L a cJ n f)) {i : Int32} {x : Int64} (hi : i = nI k) (hk : k < n) (hn : n < 2 ^ 31) (hdg : decode cc pc = .ok (.lastore, 1)) (w2 : va_W) (h2 : ws.set q0 (ar_L a cJ n (vp_updL f k x)) = w2)
    (kk : ∀ (H1 : Heap) (locs1 : List Loc), va_P D cl_A w2 H1 → va_D A w2 → va_S A s.heap H1 locs1 → W p l e R s m args below meth c H1 locs1 cells slots Q (F0 m (pc + 1) ls rest)) : W p l e R s m args below meth c H locs cells slots Q (F0 m pc ls (.long x :: .int i :: .ref a :: rest)) := by
  subst hi; subst h2
  refine va_last hexec hb hK hP hD hS q0 1 ha rfl (vp_in_nI hk hn) hdg ?_
  rw [nI_clamp (Nat.lt_trans hk hn)]; exact kk
theorem ar_zst (hexec : p.tables.exec = Jvm.exec) (hb : c.code = cc) (hK : va_K D cl_A (ty_A cI cJ cZ) s) (hP : va_P D cl_A ws H) (hD : va_D A ws) (hS : va_S A s.heap H locs) (q0 : Nat) {n k : Nat} {f : Nat → Int32} {a : Nat} (ha : ws[q0]? = some (ar_I a cZ n f)) {i x : Int32} (hi : i = nI k) (hk : k < n) (hn : n < 2 ^ 31) (hx1 : vp_nar .boolean x = x) (hdg : decode cc pc = .ok (.bastore, 1)) (w2 : va_W) (h2 : ws.set q0 (ar_I a cZ n (upd f k x)) = w2)
    (kk : ∀ (H1 : Heap) (locs1 : List Loc), va_P D cl_A w2 H1 → va_D A w2 → va_S A s.heap H1 locs1 → W p l e R s m args below meth c H1 locs1 cells slots Q (F0 m (pc + 1) ls rest)) : W p l e R s m args below meth c H locs cells slots Q (F0 m pc ls (.int x :: .int i :: .ref a :: rest)) := by
  subst hi; subst h2
  refine va_zast hexec hb hK hP hD hS q0 2 ha rfl (vp_in_nI hk hn) hdg ?_
  rw [nI_clamp (Nat.lt_trans hk hn), hx1]; exact kk
theorem ar_cp (hexec : p.tables.exec = Jvm.exec) (hb : c.code = cc) (hml : c.maxLocals = ls.size) (hown : s.vm.findClass own = some m.cls) (hlink : (Cond.methodLink own index arraycopyName).before args s = true) (hnat : (Cond.native arraycopyName).before args s = true) (hstat : (Cond.static arraycopyName).before args s = true) (hini : (Cond.initialized "java/lang/System").before args s = true)
    (hK : va_K D cl_A (ty_A cI cJ cZ) s) (hP : va_P D cl_A ws H) (hD : va_D A ws) (hS : va_S A s.heap H locs) (q0 q1 : Nat) {a a0 n0 n1 : Nat} {f g : Nat → Int32} (ha0 : ws[q0]? = some (ar_I a0 cI n0 f)) (ha1 : ws[q1]? = some (ar_I a cI n1 g)) {sp dp n : Nat} {xs xd xn : Int32} (h1 : xs = nI sp) (h2 : xd = nI dp) (h3 : xn = nI n) (h4 : sp + n ≤ n0) (h5 : dp + n ≤ n1) (h6 : n0 < 2 ^ 31 ∧ n1 < 2 ^ 31)
    (hfr : 1 ≤ R.frames ∧ (rest.map fun v => v.category).sum + (nativeFrameWords "java/lang/System" "arraycopy" 5 + 11) ≤ R.locals) (hdg : decode cc pc = .ok (.invokestatic index, 3)) (w2 : va_W) (hw2 : ws.set q1 (ar_I a cI n1 (va_cpy f g sp dp n)) = w2)
    (kk : ∀ (H1 : Heap) (locs1 : List Loc), va_P D cl_A w2 H1 → va_D A w2 → va_S A s.heap H1 locs1 → W p l e R s m args below meth c H1 locs1 cells slots Q (F0 m (pc + 3) ls rest)) : W p l e R s m args below meth c H locs cells slots Q (F0 m pc ls (.int xn :: .int xd :: .ref a :: .int xs :: .ref a0 :: rest)) := by
  subst h1; subst h2; subst h3; subst hw2
  have b1 : sp < 2 ^ 31 := by omega
  have b2 : dp < 2 ^ 31 := by omega
  have b3 : n < 2 ^ 31 := by omega
  refine va_copyi hexec hb hml hown hlink hnat hstat hini hK hP hD hS q0 q1 0 0 (ty := .int) ha0 ha1 rfl rfl rfl (nI_pos b1) (nI_pos b2) (nI_pos b3) (by rw [nI_clamp b1, nI_clamp b3]; exact h4) (by rw [nI_clamp b2, nI_clamp b3]; exact h5) (fun _ _ => rfl) hfr.1 hfr.2 hdg ?_
  rw [nI_clamp b1, nI_clamp b2, nI_clamp b3]
  exact kk
/-- a loop: the state at its head is a function of a value; a measure falls -/
theorem lp_g {σ : Type} {nL : Nat} {stk : List Value} (μ : σ → Nat) (W1 : σ → va_W) (L1 : σ → List (Nat × Value)) (F : σ → Prop)
    (body : ∀ (x : σ) (H : Heap) (locs : List Loc) (ls : Array Slot), F x → va_P D cl_A (W1 x) H → va_D A (W1 x) → va_S A s.heap H locs → lv_has ls nL (L1 x) →
      (∀ y : σ, μ y < μ x → F y → ∀ (H : Heap) (locs : List Loc) (ls : Array Slot), va_P D cl_A (W1 y) H → va_D A (W1 y) → va_S A s.heap H locs → lv_has ls nL (L1 y) → W p l e R s m args below meth c H locs cells slots Q (F0 m pc ls stk)) → W p l e R s m args below meth c H locs cells slots Q (F0 m pc ls stk))
    (x : σ) (hF : F x) (hP : va_P D cl_A (W1 x) H) (hD : va_D A (W1 x)) (hS : va_S A s.heap H locs) (hl : lv_has ls nL (L1 x)) : W p l e R s m args below meth c H locs cells slots Q (F0 m pc ls stk) := by
  have key : ∀ (n : Nat) (x : σ), μ x < n → F x → ∀ (H : Heap) (locs : List Loc) (ls : Array Slot), va_P D cl_A (W1 x) H → va_D A (W1 x) → va_S A s.heap H locs → lv_has ls nL (L1 x) → W p l e R s m args below meth c H locs cells slots Q (F0 m pc ls stk) := by
    intro n
    induction n with
    | zero => intro x h; exact absurd h (Nat.not_lt_zero _)
    | succ n ih => intro x hx hF H locs ls hP hD hS hl; exact body x H locs ls hF hP hD hS hl (fun y hy hFy => ih y (by omega) hFy)
  exact key (μ x + 1) x (Nat.lt_succ_self _) hF H locs ls hP hD hS hl
/-- a point that several roads reach -/
theorem mg_g {σ : Type} {nL : Nat} (W1 : σ → va_W) (L1 : σ → List (Nat × Value)) (F : σ → Prop) (stk : σ → List Value) (pj : Nat)
    (body : ∀ (x : σ) (H : Heap) (locs : List Loc) (ls : Array Slot), F x → va_P D cl_A (W1 x) H → va_D A (W1 x) → va_S A s.heap H locs → lv_has ls nL (L1 x) → W p l e R s m args below meth c H locs cells slots Q (F0 m pj ls (stk x)))
    (main : (∀ (x : σ) (H : Heap) (locs : List Loc) (ls : Array Slot), F x → va_P D cl_A (W1 x) H → va_D A (W1 x) → va_S A s.heap H locs → lv_has ls nL (L1 x) → W p l e R s m args below meth c H locs cells slots Q (F0 m pj ls (stk x))) → W p l e R s m args below meth c H locs cells slots Q (F0 m pc ls st0)) : W p l e R s m args below meth c H locs cells slots Q (F0 m pc ls st0) := main body
theorem cs_W {α : Type} {x y : α} (w : α → va_W) (h : x = y) (hP : va_P D cl_A (w x) H) (hD : va_D A (w x)) : va_P D cl_A (w y) H ∧ va_D A (w y) := by subst h; exact ⟨hP, hD⟩
theorem cs_L {α : Type} {x y : α} {n : Nat} (w : α → List (Nat × Value)) (h : x = y) (hl : lv_has ls n (w x)) : lv_has ls n (w y) := by subst h; exact hl
/-- what a call leaves: the rest of the caller's cells beside the callee's, in the caller's order -/
theorem jn_W {S : Type} {w1 w2 : S → va_W} {u : S} {H1 : Heap} (hP : va_P D cl_A ws H) (hD : va_D A ws) (hS : va_S A s.heap H locs) (hA : ∀ q, s.heap.size ≤ q → A q) (isC isR isP : List Nat) (hC : isC.map (fun i => ws[i]?) = wc.map some) (hR : isR.map (fun i => ws[i]?) = wr.map some) (hn : va_nd isR = true) (hdis : ∀ i ∈ isR, i ∉ isC) (hp : isP.map (fun i => (wr ++ w1 u)[i]?) = (w2 u).map some) (hpn : va_nd isP = true)
    (hk : ∀ q : Nat, q < H.size → ¬ va_A wc H.size q → H1[q]? = H[q]?) (hP1 : va_P D cl_A (w1 u) H1) (hD1 : va_D (va_A wc H.size) (w1 u)) : va_P D cl_A (w2 u) H1 ∧ va_D A (w2 u) := by
  obtain ⟨h1, h2⟩ := va_join hP hD isC isR hC hR hn hdis hk (va_free hD hS hA isC hC) hP1 hD1
  refine ⟨h1.sub isP ?_, h2.sub isP hpn hp⟩
  have key : ∀ (L : List Nat) (w : va_W) (v : va_W), L.map (fun i => w[i]?) = v.map some → L.filterMap (fun i => w[i]?) = v := by
    intro L w v h
    have h3 : (L.map (fun i => w[i]?)).filterMap id = (v.map some).filterMap id := by rw [h]
    simpa [List.filterMap_map, Function.comp_def] using h3
  exact key _ _ _ hp
theorem ct_D (hD : va_D A ws) (isC : List Nat) (hn : va_nd isC = true) (hC : isC.map (fun i => ws[i]?) = wc.map some) : va_D (fun _ => True) wc := (hD.sub isC hn hC).weaken (fun _ _ _ _ => trivial)
theorem ct_P (hP : va_P D cl_A ws H) (isC : List Nat) (hC : isC.map (fun i => ws[i]?) = wc.map some) : va_P D cl_A wc H := by
  intro k q hk
  have h1 : (isC.map (fun i => ws[i]?))[k]? = some (some q) := by rw [hC, List.getElem?_map, hk]; rfl
  rw [List.getElem?_map] at h1
  cases hi : isC[k]? with
  | none => rw [hi] at h1; cases h1
  | some i => rw [hi] at h1; exact hP i q (Option.some.inj h1)
theorem ct_pre (hP : va_P D cl_A ws H) (hD : va_D A ws) (hK : va_K D cl_A (ty_A cI cJ cZ) s) (hN : hw_N s) (isC : List Nat) (hn : va_nd isC = true) (hC : isC.map (fun i => ws[i]?) = wc.map some) (av : List Value) : ∀ U : State, U.heap = H → s.WarmedH U.vm → va_Pc av (pr_W D cI cJ cZ wc H.size) av.toArray U := fun U hU hW =>
  ⟨rfl, by rw [hU], by rw [hU]; exact ct_P hP isC hC, va_K.moved hW.alike hK, ct_D hD isC hn hC, hN.warm hW⟩
/-- a call of an instance method, with an answer -/
theorem ca_VI {S : Type} {post : Int32 → S → Prop} {w1 w2 : S → va_W} {rt : FieldType} {fs : List Value} {T : u_T} {N : Nat} (hM : mt_I l y cb maxB rt fr lo D cI cJ cZ wc (.ref b :: As) post w1) (hx : p.tables.exec = Jvm.exec) (hb : c.code = cc) (hml : c.maxLocals = nL) (hown : s.vm.findClass own = some m.cls) (hts : ∀ w ∈ bg_A, w.before args s = true) (hN : hw_N s) (hK : va_K D cl_A (ty_A cI cJ cZ) s) (hA : ∀ q, s.heap.size ≤ q → A q) (hP : va_P D cl_A ws H) (hD : va_D A ws) (hS : va_S A s.heap H locs)
    (ci q0 : Nat) (hci : cl_A[ci]? = some (C, T, N)) (hq0 : wc[q0]? = some (ob_J b ci fs)) (hlink : Cond.methodLink own index y ∈ bg_A) (hinst : Cond.instanceMethod y ∈ bg_A) (hsel : Cond.selects C y y ∈ bg_A) (hini : Cond.initialized y.cls ∈ bg_A) (hcode : Cond.code y cb maxB (some rt) ∈ bg_A)
    (nA : Nat) (hnA : As.length = nA) (hd : y.cls ≠ "java/lang/invoke/MethodHandle" ∧ y.cls ≠ "java/lang/invoke/VarHandle" ∧ (parseMethodDescriptor y.desc).map (fun d => d.parameters.length) = some nA) (hR : fr + 1 ≤ R.frames ∧ 8 + (maxB + 11) + lo ≤ R.locals)
    (isC isR isP : List Nat) (hC : isC.map (fun i => ws[i]?) = wc.map some) (hRr : isR.map (fun i => ws[i]?) = wr.map some) (hnd : (va_nd isC && va_nd isR && va_nd isP && isR.all (fun i => !isC.contains i)) = true) (hp : ∀ u, isP.map (fun i => (wr ++ w1 u)[i]?) = (w2 u).map some)
    (hsz : ls.size = nL) (hst : st0 = As.reverse ++ .ref b :: rest) (hrm : (rest.map fun v => v.category).sum ≤ 8) (hdg : decode cc pc = .ok (.invokevirtual index, 3)) (hcs : cells ≤ R.cells ∧ slots ≤ R.slots)
    (kk : ∀ (r : Int32) (u : S) (H1 : Heap) (locs1 : List Loc), post r u → va_P D cl_A (w2 u) H1 → va_D A (w2 u) → va_S A s.heap H1 locs1 → W p l e R s m args below meth c H1 locs1 cells slots Q (F0 m (pc + 3) ls (.int r :: rest))) : W p l e R s m args below meth c H locs cells slots Q (F0 m pc ls st0) := by
  simp only [Bool.and_eq_true, List.all_eq_true, Bool.not_eq_true'] at hnd
  obtain ⟨⟨⟨n1, n2⟩, n3⟩, n4⟩ := hnd
  have hdis : ∀ i ∈ isR, i ∉ isC := fun i hi hm => by have := n4 i hi; rw [List.contains_iff_mem.mpr hm] at this; cases this
  have hFc := va_free hD hS hA isC hC
  refine va_calli (va_runV (As := As) (rest := rest) ⟨hx, hb, hml, hown, hts⟩ (hM H.size) ⟨callB_of nA hts (gd_C hcode) rfl rfl rfl (hts _ hini) (hts _ hlink) hd hR, hts _ hinst, hts _ hsel⟩ ⟨bl_W, va_recv hK (ct_P hP isC hC) hci hq0, ct_pre hP hD hK hN isC n1 hC _⟩ rfl hnA hsz hst (lv_room hrm) hdg hcs) hS (fun q _ h => hFc q h) hFc (fun r u t H1 locs1 ht hvm hw hB hz1 hk1 hS1 => ?_)
  obtain ⟨hP1, hK1, hD1⟩ := hB
  rw [ht] at hP1
  obtain ⟨h1, h2⟩ := jn_W (w1 := w1) (w2 := w2) (u := u) hP hD hS hA isC isR isP hC hRr n2 hdis (hp u) n3 hk1 hP1 hD1
  exact kk r u H1 locs1 hw h1 h2 hS1
theorem ca_VV {S : Type} {post : S → Prop} {w1 w2 : S → va_W} {fs : List Value} {T : u_T} {N : Nat} (hM : mt_V l y cb maxB fr lo D cI cJ cZ wc (.ref b :: As) post w1) (hx : p.tables.exec = Jvm.exec) (hb : c.code = cc) (hml : c.maxLocals = nL) (hown : s.vm.findClass own = some m.cls) (hts : ∀ w ∈ bg_A, w.before args s = true) (hN : hw_N s) (hK : va_K D cl_A (ty_A cI cJ cZ) s) (hA : ∀ q, s.heap.size ≤ q → A q) (hP : va_P D cl_A ws H) (hD : va_D A ws) (hS : va_S A s.heap H locs)
    (ci q0 : Nat) (hci : cl_A[ci]? = some (C, T, N)) (hq0 : wc[q0]? = some (ob_J b ci fs)) (hlink : Cond.methodLink own index y ∈ bg_A) (hinst : Cond.instanceMethod y ∈ bg_A) (hsel : Cond.selects C y y ∈ bg_A) (hini : Cond.initialized y.cls ∈ bg_A) (hcode : Cond.code y cb maxB none ∈ bg_A)
    (nA : Nat) (hnA : As.length = nA) (hd : y.cls ≠ "java/lang/invoke/MethodHandle" ∧ y.cls ≠ "java/lang/invoke/VarHandle" ∧ (parseMethodDescriptor y.desc).map (fun d => d.parameters.length) = some nA) (hR : fr + 1 ≤ R.frames ∧ 8 + (maxB + 11) + lo ≤ R.locals)
    (isC isR isP : List Nat) (hC : isC.map (fun i => ws[i]?) = wc.map some) (hRr : isR.map (fun i => ws[i]?) = wr.map some) (hnd : (va_nd isC && va_nd isR && va_nd isP && isR.all (fun i => !isC.contains i)) = true) (hp : ∀ u, isP.map (fun i => (wr ++ w1 u)[i]?) = (w2 u).map some)
    (hsz : ls.size = nL) (hst : st0 = As.reverse ++ .ref b :: rest) (hrm : (rest.map fun v => v.category).sum ≤ 8) (hdg : decode cc pc = .ok (.invokevirtual index, 3)) (hcs : cells ≤ R.cells ∧ slots ≤ R.slots)
    (kk : ∀ (u : S) (H1 : Heap) (locs1 : List Loc), post u → va_P D cl_A (w2 u) H1 → va_D A (w2 u) → va_S A s.heap H1 locs1 → W p l e R s m args below meth c H1 locs1 cells slots Q (F0 m (pc + 3) ls rest)) : W p l e R s m args below meth c H locs cells slots Q (F0 m pc ls st0) := by
  simp only [Bool.and_eq_true, List.all_eq_true, Bool.not_eq_true'] at hnd
  obtain ⟨⟨⟨n1, n2⟩, n3⟩, n4⟩ := hnd
  have hdis : ∀ i ∈ isR, i ∉ isC := fun i hi hm => by have := n4 i hi; rw [List.contains_iff_mem.mpr hm] at this; cases this
  have hFc := va_free hD hS hA isC hC
  refine va_callv (va_runV (As := As) (rest := rest) ⟨hx, hb, hml, hown, hts⟩ (hM H.size) ⟨callB_of nA hts (gd_C hcode) rfl rfl rfl (hts _ hini) (hts _ hlink) hd hR, hts _ hinst, hts _ hsel⟩ ⟨bl_W, va_recv hK (ct_P hP isC hC) hci hq0, ct_pre hP hD hK hN isC n1 hC _⟩ rfl hnA hsz hst (lv_room hrm) hdg hcs) hS (fun q _ h => hFc q h) hFc (fun u t H1 locs1 ht hvm hw hB hz1 hk1 hS1 => ?_)
  obtain ⟨hP1, hK1, hD1⟩ := hB
  rw [ht] at hP1
  obtain ⟨h1, h2⟩ := jn_W (w1 := w1) (w2 := w2) (u := u) hP hD hS hA isC isR isP hC hRr n2 hdis (hp u) n3 hk1 hP1 hD1
  exact kk u H1 locs1 hw h1 h2 hS1
/-- a static method without cells, with an answer: of the same class, of a nest mate -/
theorem ca_SI {S : Type} {post : Int32 → S → Prop} {rt : FieldType} (hM : mt_I l y cb maxB rt fr lo D cI cJ cZ [] As post (fun _ => [])) (hx : p.tables.exec = Jvm.exec) (hb : c.code = cc) (hml : c.maxLocals = nL) (hown : s.vm.findClass own = some m.cls) (hts : ∀ w ∈ bg_A, w.before args s = true) (hN : hw_N s) (hK : va_K D cl_A (ty_A cI cJ cZ) s) (hA : ∀ q, s.heap.size ≤ q → A q) (hP : va_P D cl_A ws H) (hD : va_D A ws) (hS : va_S A s.heap H locs)
    (hlink : Cond.methodLink own index y ∈ bg_A) (hstat : Cond.static y ∈ bg_A) (hini : Cond.initialized y.cls ∈ bg_A) (hcode : Cond.code y cb maxB (some rt) ∈ bg_A)
    (nA : Nat) (hnA : As.length = nA) (hd : y.cls ≠ "java/lang/invoke/MethodHandle" ∧ y.cls ≠ "java/lang/invoke/VarHandle" ∧ (parseMethodDescriptor y.desc).map (fun d => d.parameters.length) = some nA) (hR : fr + 1 ≤ R.frames ∧ 8 + (maxB + 11) + lo ≤ R.locals)
    (hsz : ls.size = nL) (hst : st0 = As.reverse ++ rest) (hrm : (rest.map fun v => v.category).sum ≤ 8) (hdg : decode cc pc = .ok (.invokestatic index, 3)) (hcs : cells ≤ R.cells ∧ slots ≤ R.slots)
    (kk : ∀ (r : Int32) (u : S) (H1 : Heap) (locs1 : List Loc), post r u → va_P D cl_A ws H1 → va_D A ws → va_S A s.heap H1 locs1 → W p l e R s m args below meth c H1 locs1 cells slots Q (F0 m (pc + 3) ls (.int r :: rest))) : W p l e R s m args below meth c H locs cells slots Q (F0 m pc ls st0) := by
  have hFc := va_free (wc := []) hD hS hA [] rfl
  refine va_calli (va_runS (As := As) (rest := rest) ⟨hx, hb, hml, hown, hts⟩ (hM H.size) ⟨callB_of nA hts (gd_C hcode) rfl rfl rfl (hts _ hini) (hts _ hlink) hd hR, hts _ hstat⟩ ⟨bl_W, ct_pre hP hD hK hN [] rfl rfl _⟩ rfl hnA hsz hst (lv_room hrm) hdg hcs) hS (fun q _ h => hFc q h) hFc (fun r u t H1 locs1 ht hvm hw hB hz1 hk1 hS1 => ?_)
  refine kk r u H1 locs1 hw (hP.kept (fun k q hk => hk1 q.1 (hP k q hk).lt (fun z => ?_))) hD hS1
  have hl := (hP k q hk).lt
  rcases z with ⟨k2, e2, z⟩ | z
  · simp at z
  · omega
theorem ca_NI {S : Type} {post : Int32 → S → Prop} {rt : FieldType} {host : String} (hM : mt_I l y cb maxB rt fr lo D cI cJ cZ [] As post (fun _ => [])) (hx : p.tables.exec = Jvm.exec) (hb : c.code = cc) (hml : c.maxLocals = nL) (hown : s.vm.findClass own = some m.cls) (hts : ∀ w ∈ bg_A, w.before args s = true) (hN : hw_N s) (hK : va_K D cl_A (ty_A cI cJ cZ) s) (hA : ∀ q, s.heap.size ≤ q → A q) (hP : va_P D cl_A ws H) (hD : va_D A ws) (hS : va_S A s.heap H locs)
    (hlink : va_Nw (.methodLinkNest own index y host) s) (hstat : Cond.static y ∈ bg_A) (hini : Cond.initialized y.cls ∈ bg_A) (hcode : Cond.code y cb maxB (some rt) ∈ bg_A)
    (nA : Nat) (hnA : As.length = nA) (hd : y.cls ≠ "java/lang/invoke/MethodHandle" ∧ y.cls ≠ "java/lang/invoke/VarHandle" ∧ (parseMethodDescriptor y.desc).map (fun d => d.parameters.length) = some nA) (hR : fr + 1 ≤ R.frames ∧ 8 + (maxB + 11) + lo ≤ R.locals)
    (hsz : ls.size = nL) (hst : st0 = As.reverse ++ rest) (hrm : (rest.map fun v => v.category).sum ≤ 8) (hdg : decode cc pc = .ok (.invokestatic index, 3)) (hcs : cells ≤ R.cells ∧ slots ≤ R.slots)
    (kk : ∀ (r : Int32) (u : S) (H1 : Heap) (locs1 : List Loc), post r u → va_P D cl_A ws H1 → va_D A ws → va_S A s.heap H1 locs1 → W p l e R s m args below meth c H1 locs1 cells slots Q (F0 m (pc + 3) ls (.int r :: rest))) : W p l e R s m args below meth c H locs cells slots Q (F0 m pc ls st0) := by
  have hFc := va_free (wc := []) hD hS hA [] rfl
  refine va_calli (va_runSN (As := As) (rest := rest) ⟨hx, hb, hml, hown, hts⟩ (hM H.size) ⟨va_cnB nA hts (gd_C hcode) rfl rfl rfl hlink (hts _ hini) hd hR, hts _ hstat, trivial⟩ ⟨bl_W, ct_pre hP hD hK hN [] rfl rfl _⟩ rfl hnA hsz hst (lv_room hrm) hdg hcs) hS (fun q _ h => hFc q h) hFc (fun r u t H1 locs1 ht hvm hw hB hz1 hk1 hS1 => ?_)
  refine kk r u H1 locs1 hw (hP.kept (fun k q hk => hk1 q.1 (hP k q hk).lt (fun z => ?_))) hD hS1
  have hl := (hP k q hk).lt
  rcases z with ⟨k2, e2, z⟩ | z
  · simp at z
  · omega
end BS

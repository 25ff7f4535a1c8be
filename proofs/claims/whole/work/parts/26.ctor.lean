/-! making: constructors, new arrays; static tables -/
abbrev rm_C (fr lo nc ns : Nat) : Room := { frames := fr, cells := nc, slots := ns, locals := lo }
def mt_C (l : Launch) (y : MethodName) (cc : ByteArray) (maxL : Nat) (fr lo nc ns : Nat) (D : va_G) (cI cJ cZ : ClassId) (ws : va_W) (av : List Value) {S : Type} (w1 : S → va_W) : Prop :=
  ∀ sz : Nat, Met l y (.code y cc maxL none :: bg_A) (rm_C fr lo nc ns) (va_Pc av (pr_W D cI cJ cZ ws sz)) (va_Qv (fun _ : S => True) (fun u => af_W D cI cJ cZ (va_A ws sz) (w1 u)) (va_A ws sz)) nc ns (va_A ws sz)
def lt_ (k : Nat) : Int32 := if k = 0 then 1 else if k = 1 then 0 else 1
def mt_ (k : Nat) : Int32 := if k = 0 then 9 else if k = 1 then 10000 else if k = 2 then 50 else 1000000
/-- the two tables of bounds -/
def sg_ (A : Nat → Prop) (U : State) (H : Heap) : Prop := ∃ t1 t2 : Nat, va_Z RX5 "RULE_LEAST" "[I" (.ref t1) A U H ∧ va_T .int t1 4 (fun k => .int (lt_ k)) A U H ∧ va_Z RX5 "RULE_MOST" "[I" (.ref t2) A U H ∧ va_T .int t2 4 (fun k => .int (mt_ k)) A U H
theorem sg_moved {A : Nat → Prop} {u U : State} {H : Heap} (hvm : u.vm.Alike U.vm) (h : sg_ A u H) : sg_ A U H := by
  obtain ⟨t1, t2, a, b, c, d⟩ := h
  exact ⟨t1, t2, a.moved hvm, b.moved hvm, c.moved hvm, d.moved hvm⟩
theorem sg_kept {A : Nat → Prop} {U : State} {H H1 : Heap} (h : sg_ A U H) (hq : ∀ a : Nat, a < H.size → ¬ A a → H1[a]? = H[a]?) : sg_ A U H1 := by
  obtain ⟨t1, t2, a, b, c, d⟩ := h
  exact ⟨t1, t2, a.kept hq, b.kept hq, c.kept hq, d.kept hq⟩
theorem sg_narrow {A B : Nat → Prop} {U : State} {H : Heap} (h : sg_ A U H) (hAB : ∀ q, B q → A q) : sg_ B U H := by
  obtain ⟨t1, t2, a, b, c, d⟩ := h
  exact ⟨t1, t2, a.narrow hAB, b.narrow hAB, c.narrow hAB, d.narrow hAB⟩
def mt_R (l : Launch) (y : MethodName) (cc : ByteArray) (maxL : Nat) (rt : FieldType) (fr lo : Nat) (D : va_G) (cI cJ cZ : ClassId) (ws : va_W) (av : List Value) {S : Type} (post : Int32 → S → Prop) (w1 : S → va_W) : Prop :=
  ∀ sz : Nat, Met l y (.code y cc maxL (some rt) :: bg_A) (rm_M fr lo) (va_Pc av (fun U => pr_W D cI cJ cZ ws sz U ∧ sg_ (va_A ws sz) U U.heap)) (va_Qi post (fun u => af_W D cI cJ cZ (va_A ws sz) (w1 u)) (va_A ws sz)) 0 0 (va_A ws sz)
theorem bl_R {D : va_G} {cI cJ cZ : ClassId} {ws : va_W} {sz : Nat} {av : List Value} : FrameBlind (va_Pc av (fun U => pr_W D cI cJ cZ ws sz U ∧ sg_ (va_A ws sz) U U.heap)) := by
  intro a U g mk q
  obtain ⟨q0, q1, q2⟩ := q
  exact ⟨q0, (bl_W (av := av) a U g mk ⟨q0, q1⟩).2, sg_moved (u := U) (U := U.calling g mk a) (Vm.Alike.refl U.vm) q2⟩
theorem gd_k : ∀ k, k < 4 → ∀ v : Int32, (gd_P (nI k) v ↔ (lt_ k ≤ v ∧ v ≤ mt_ k)) := by
  intro k hk v
  have e : ∀ a b : Nat, a < 4 → b < 4 → (nI a = nI b ↔ a = b) := fun a b ha hb => nI_eq (by omega) (by omega)
  rcases (show k = 0 ∨ k = 1 ∨ k = 2 ∨ k = 3 by omega) with rfl | rfl | rfl | rfl <;> simp [gd_P, lt_, mt_, nI] <;> decide
theorem gd_n {what v : Int32} (h : what < 0 ∨ ¬ what < 4) : ¬ gd_P what v := by
  rintro (⟨rfl, _⟩ | ⟨rfl, _⟩ | ⟨rfl, _⟩ | ⟨rfl, _⟩) <;> revert h <;> decide
section CT
variable {p : Program} {l : Launch} {e : Env} {R : Room} {s : State} {m : MethodId} {args : Array Value} {below : List Frame} {meth : Method} {c : Code} {H : Heap} {locs : List Loc} {cells slots : Nat} {Q : State → Prop}
variable {D : va_G} {cI cJ cZ : ClassId} {A : Nat → Prop} {ws wc wr : va_W} {cc cb : ByteArray} {pc : Nat} {ls : Array Slot} {rest st0 As : List Value} {own C : String} {y : MethodName} {index maxB nL n fr lo b ci q0 nc ns : Nat}
theorem en_C {S : Type} {w1 : S → va_W} {maxL : Nat} {av : List Value} (hy : plainName y.cls = true) (hyn : y.name = "<init>") (hlen : (lg_sl av).length ≤ maxL)
    (k : ∀ (p : Program) (e : Env) (s : State) (m : MethodId) (below : List Frame) (meth : Method) (c : Code) (A : Nat → Prop) (ls : Array Slot) (H : Heap) (locs : List Loc), p.tables.exec = Jvm.exec → c.code = cc → meth.sig.returnType = none → c.maxLocals = maxL → (∀ w ∈ bg_A, w.before av.toArray s = true) → s.vm.findClass y.cls = some m.cls → meth.locks = false → meth.name = "<init>" → hw_N s → va_K D cl_A (ty_A cI cJ cZ) s → (∀ q, s.heap.size ≤ q → A q) → va_P D cl_A ws H → va_D A ws → va_S A s.heap H locs → lv_has ls maxL (lv_args 0 av) →
      W p l e (rm_C fr lo nc ns) s m av.toArray below meth c H locs 0 0 (MQ below (va_Qv (fun _ : S => True) (fun u => af_W D cI cJ cZ A (w1 u)) A) av.toArray s nc ns A) (F0 m 0 ls [])) : mt_C l y cc maxL fr lo nc ns D cI cJ cZ ws av w1 := by
  intro sz
  refine Met.ofW (cc := cc) (maxL := maxL) (ret := none) hy rfl ?_
  intro p e s m args below meth c s₁ B hml hv
  obtain ⟨rfl, hsz, hP, hK, hD0, hN⟩ := hv
  subst hsz
  have hts := atoms_spec (ws := .code y cc maxL none :: bg_A) B.pre
  rw [lg_entry_eq]
  exact k p e s m below meth c (va_A ws s.heap.size) _ s.heap [] B.exec B.bytes B.returns hml (fun w h => hts w (List.mem_cons_of_mem _ h)) (findClass_of_methodNamed B.named) B.notSynchronized (by rw [← hyn]; exact (name_of_methodNamed B.named B.method).1) hN hK (fun q h => Or.inr h) hP hD0.self va_S.rf (lv_entry av hlen)
theorem en_R {S : Type} {post : Int32 → S → Prop} {w1 : S → va_W} {rt : FieldType} {maxL : Nat} {av : List Value} (hy : plainName y.cls = true) (hlen : (lg_sl av).length ≤ maxL)
    (k : ∀ (p : Program) (e : Env) (s : State) (m : MethodId) (below : List Frame) (meth : Method) (c : Code) (A : Nat → Prop) (ls : Array Slot) (H : Heap) (locs : List Loc), p.tables.exec = Jvm.exec → c.code = cc → meth.sig.returnType = some rt → c.maxLocals = maxL → (∀ w ∈ bg_A, w.before av.toArray s = true) → s.vm.findClass y.cls = some m.cls → meth.locks = false → hw_N s → va_K D cl_A (ty_A cI cJ cZ) s → (∀ q, s.heap.size ≤ q → A q) → sg_ A s s.heap → va_P D cl_A ws H → va_D A ws → va_S A s.heap H locs → lv_has ls maxL (lv_args 0 av) →
      W p l e (rm_M fr lo) s m av.toArray below meth c H locs 0 0 (MQ below (va_Qi post (fun u => af_W D cI cJ cZ A (w1 u)) A) av.toArray s 0 0 A) (F0 m 0 ls [])) : mt_R l y cc maxL rt fr lo D cI cJ cZ ws av post w1 := by
  intro sz
  refine Met.ofW (cc := cc) (maxL := maxL) (ret := some rt) hy rfl ?_
  intro p e s m args below meth c s₁ B hml hv
  obtain ⟨rfl, ⟨hsz, hP, hK, hD0, hN⟩, hG⟩ := hv
  subst hsz
  have hts := atoms_spec (ws := .code y cc maxL (some rt) :: bg_A) B.pre
  rw [lg_entry_eq]
  exact k p e s m below meth c (va_A ws s.heap.size) _ s.heap [] B.exec B.bytes B.returns hml (fun w h => hts w (List.mem_cons_of_mem _ h)) (findClass_of_methodNamed B.named) B.notSynchronized hN hK (fun q h => Or.inr h) hG hP hD0.self va_S.rf (lv_entry av hlen)
theorem nw_I (hexec : p.tables.exec = Jvm.exec) (hb : c.code = cc) (harr : (Cond.arrayClass .int).before args s = true) (hK : va_K D cl_A (ty_A cI cJ cZ) s) (hP : va_P D cl_A ws H) (hD : va_D A ws) (hS : va_S A s.heap H locs) (hA : ∀ q, s.heap.size ≤ q → A q) {x : Int32} {N : Nat} (hx : x = nI N) (hN : N < 10000) (hcs : cells + 1 ≤ R.cells ∧ slots + N ≤ R.slots) (hdg : decode cc pc = .ok (.newarray .int, 2))
    (kk : ∀ (q : Nat) (H1 : Heap), va_P D cl_A (ws ++ [ar_I q cI N (fun _ => 0)]) H1 → va_D A (ws ++ [ar_I q cI N (fun _ => 0)]) → va_S A s.heap H1 locs → W p l e R s m args below meth c H1 locs (cells + 1) (slots + N) Q (F0 m (pc + 2) ls (.ref q :: rest))) : W p l e R s m args below meth c H locs cells slots Q (F0 m pc ls (.int x :: rest)) := by
  subst hx
  refine va_newa (atype := .int) (a0 := (N, .inl (fun _ => 0))) hexec hb harr rfl hK hP hD hS hA (fun _ => rfl) (nI_pos (by omega)) (nI_clamp (by omega)) (by show N * 4 ≤ _; omega) hcs.1 hcs.2 hdg (fun q cA H1 hK1 hP1 hD1 hS1 => ?_)
  have h1 := (hK1.2 0 _ rfl).2
  have h2 := (hK1.2 3 _ rfl).2
  have e : cI = cA := Option.some.inj (h1.symm.trans h2)
  subst e
  exact kk q H1 hP1 hD1 hS1
theorem nw_J (hexec : p.tables.exec = Jvm.exec) (hb : c.code = cc) (harr : (Cond.arrayClass .long).before args s = true) (hK : va_K D cl_A (ty_A cI cJ cZ) s) (hP : va_P D cl_A ws H) (hD : va_D A ws) (hS : va_S A s.heap H locs) (hA : ∀ q, s.heap.size ≤ q → A q) {x : Int32} {N : Nat} (hx : x = nI N) (hN : N < 10000) (hcs : cells + 1 ≤ R.cells ∧ slots + N ≤ R.slots) (hdg : decode cc pc = .ok (.newarray .long, 2))
    (kk : ∀ (q : Nat) (H1 : Heap), va_P D cl_A (ws ++ [ar_L q cJ N (fun _ => 0)]) H1 → va_D A (ws ++ [ar_L q cJ N (fun _ => 0)]) → va_S A s.heap H1 locs → W p l e R s m args below meth c H1 locs (cells + 1) (slots + N) Q (F0 m (pc + 2) ls (.ref q :: rest))) : W p l e R s m args below meth c H locs cells slots Q (F0 m pc ls (.int x :: rest)) := by
  subst hx
  refine va_newa (atype := .long) (a0 := (N, .inr (.inl (fun _ => 0)))) hexec hb harr rfl hK hP hD hS hA (fun _ => rfl) (nI_pos (by omega)) (nI_clamp (by omega)) (by show N * 8 ≤ _; omega) hcs.1 hcs.2 hdg (fun q cA H1 hK1 hP1 hD1 hS1 => ?_)
  have h1 := (hK1.2 1 _ rfl).2
  have h2 := (hK1.2 3 _ rfl).2
  have e : cJ = cA := Option.some.inj (h1.symm.trans h2)
  subst e
  exact kk q H1 hP1 hD1 hS1
theorem nw_Z (hexec : p.tables.exec = Jvm.exec) (hb : c.code = cc) (harr : (Cond.arrayClass .boolean).before args s = true) (hK : va_K D cl_A (ty_A cI cJ cZ) s) (hP : va_P D cl_A ws H) (hD : va_D A ws) (hS : va_S A s.heap H locs) (hA : ∀ q, s.heap.size ≤ q → A q) {x : Int32} {N : Nat} (hx : x = nI N) (hN : N < 10000) (hcs : cells + 1 ≤ R.cells ∧ slots + N ≤ R.slots) (hdg : decode cc pc = .ok (.newarray .boolean, 2))
    (kk : ∀ (q : Nat) (H1 : Heap), va_P D cl_A (ws ++ [ar_I q cZ N (fun _ => 0)]) H1 → va_D A (ws ++ [ar_I q cZ N (fun _ => 0)]) → va_S A s.heap H1 locs → W p l e R s m args below meth c H1 locs (cells + 1) (slots + N) Q (F0 m (pc + 2) ls (.ref q :: rest))) : W p l e R s m args below meth c H locs cells slots Q (F0 m pc ls (.int x :: rest)) := by
  subst hx
  refine va_newa (atype := .boolean) (a0 := (N, .inl (fun _ => 0))) hexec hb harr rfl hK hP hD hS hA (fun _ => rfl) (nI_pos (by omega)) (nI_clamp (by omega)) (by show N * 1 ≤ _; omega) hcs.1 hcs.2 hdg (fun q cA H1 hK1 hP1 hD1 hS1 => ?_)
  have h1 := (hK1.2 2 _ rfl).2
  have h2 := (hK1.2 3 _ rfl).2
  have e : cZ = cA := Option.some.inj (h1.symm.trans h2)
  subst e
  exact kk q H1 hP1 hD1 hS1
/-- a constructor's call: of a nest mate, of any -/
theorem ca_IN {S : Type} {w1 w2 : S → va_W} {host : String} (hM : mt_C l y cb maxB fr lo nc ns D cI cJ cZ wc [.ref b] w1) (hx : p.tables.exec = Jvm.exec) (hb : c.code = cc) (hml : c.maxLocals = nL) (hown : s.vm.findClass own = some m.cls) (hts : ∀ w ∈ bg_A, w.before args s = true) (hN : hw_N s) (hK : va_K D cl_A (ty_A cI cJ cZ) s) (hA : ∀ q, s.heap.size ≤ q → A q) (hP : va_P D cl_A ws H) (hD : va_D A ws) (hS : va_S A s.heap H locs)
    (hlink : va_Nw (.methodLinkNest own index y host) s) (hinst : Cond.instanceMethod y ∈ bg_A) (hini : Cond.initialized y.cls ∈ bg_A) (hcode : Cond.code y cb maxB none ∈ bg_A) (hyn : y.name = "<init>")
    (hd : y.cls ≠ "java/lang/invoke/MethodHandle" ∧ y.cls ≠ "java/lang/invoke/VarHandle" ∧ (parseMethodDescriptor y.desc).map (fun d => d.parameters.length) = some 0) (hR : fr + 1 ≤ R.frames ∧ 8 + (maxB + 11) + lo ≤ R.locals)
    (isC isR isP : List Nat) (hC : isC.map (fun i => ws[i]?) = wc.map some) (hRr : isR.map (fun i => ws[i]?) = wr.map some) (hnd : (va_nd isC && va_nd isR && va_nd isP && isR.all (fun i => !isC.contains i)) = true) (hp : ∀ u, isP.map (fun i => (wr ++ w1 u)[i]?) = (w2 u).map some)
    (hsz : ls.size = nL) (hst : st0 = .ref b :: rest) (hrm : (rest.map fun v => v.category).sum ≤ 8) (hdg : decode cc pc = .ok (.invokespecial index, 3)) (hcs : cells + nc ≤ R.cells ∧ slots + ns ≤ R.slots)
    (kk : ∀ (u : S) (H1 : Heap) (locs1 : List Loc), va_P D cl_A (w2 u) H1 → va_D A (w2 u) → va_S A s.heap H1 locs1 → W p l e R s m args below meth c H1 locs1 (cells + nc) (slots + ns) Q (F0 m (pc + 3) ls rest)) : W p l e R s m args below meth c H locs cells slots Q (F0 m pc ls st0) := by
  simp only [Bool.and_eq_true, List.all_eq_true, Bool.not_eq_true'] at hnd
  obtain ⟨⟨⟨n1, n2⟩, n3⟩, n4⟩ := hnd
  have hdis : ∀ i ∈ isR, i ∉ isC := fun i hi hm => by have := n4 i hi; rw [List.contains_iff_mem.mpr hm] at this; cases this
  have hFc := va_free hD hS hA isC hC
  refine va_callv (va_runIN (As := []) (rest := rest) ⟨hx, hb, hml, hown, hts⟩ (hM H.size) ⟨va_cnB 0 hts (gd_C hcode) rfl rfl rfl hlink (hts _ hini) hd hR, hyn, hts _ hinst⟩ ⟨bl_W, ct_pre hP hD hK hN isC n1 hC _⟩ rfl rfl hsz hst (lv_room hrm) hdg hcs) hS (fun q _ h => hFc q h) hFc (fun u t H1 locs1 ht hvm hw hB hz1 hk1 hS1 => ?_)
  obtain ⟨hP1, hK1, hD1⟩ := hB
  rw [ht] at hP1
  obtain ⟨h1, h2⟩ := jn_W (w1 := w1) (w2 := w2) (u := u) hP hD hS hA isC isR isP hC hRr n2 hdis (hp u) n3 hk1 hP1 hD1
  exact kk u H1 locs1 h1 h2 hS1
theorem ca_II {S : Type} {w1 w2 : S → va_W} (hM : mt_C l y cb maxB fr lo nc ns D cI cJ cZ wc [.ref b] w1) (hx : p.tables.exec = Jvm.exec) (hb : c.code = cc) (hml : c.maxLocals = nL) (hown : s.vm.findClass own = some m.cls) (hts : ∀ w ∈ bg_A, w.before args s = true) (hN : hw_N s) (hK : va_K D cl_A (ty_A cI cJ cZ) s) (hA : ∀ q, s.heap.size ≤ q → A q) (hP : va_P D cl_A ws H) (hD : va_D A ws) (hS : va_S A s.heap H locs)
    (hlink : Cond.methodLink own index y ∈ bg_A) (hinst : Cond.instanceMethod y ∈ bg_A) (hini : Cond.initialized y.cls ∈ bg_A) (hcode : Cond.code y cb maxB none ∈ bg_A) (hyn : y.name = "<init>")
    (hd : y.cls ≠ "java/lang/invoke/MethodHandle" ∧ y.cls ≠ "java/lang/invoke/VarHandle" ∧ (parseMethodDescriptor y.desc).map (fun d => d.parameters.length) = some 0) (hR : fr + 1 ≤ R.frames ∧ 8 + (maxB + 11) + lo ≤ R.locals)
    (isC isR isP : List Nat) (hC : isC.map (fun i => ws[i]?) = wc.map some) (hRr : isR.map (fun i => ws[i]?) = wr.map some) (hnd : (va_nd isC && va_nd isR && va_nd isP && isR.all (fun i => !isC.contains i)) = true) (hp : ∀ u, isP.map (fun i => (wr ++ w1 u)[i]?) = (w2 u).map some)
    (hsz : ls.size = nL) (hst : st0 = .ref b :: rest) (hrm : (rest.map fun v => v.category).sum ≤ 8) (hdg : decode cc pc = .ok (.invokespecial index, 3)) (hcs : cells + nc ≤ R.cells ∧ slots + ns ≤ R.slots)
    (kk : ∀ (u : S) (H1 : Heap) (locs1 : List Loc), va_P D cl_A (w2 u) H1 → va_D A (w2 u) → va_S A s.heap H1 locs1 → W p l e R s m args below meth c H1 locs1 (cells + nc) (slots + ns) Q (F0 m (pc + 3) ls rest)) : W p l e R s m args below meth c H locs cells slots Q (F0 m pc ls st0) := by
  simp only [Bool.and_eq_true, List.all_eq_true, Bool.not_eq_true'] at hnd
  obtain ⟨⟨⟨n1, n2⟩, n3⟩, n4⟩ := hnd
  have hdis : ∀ i ∈ isR, i ∉ isC := fun i hi hm => by have := n4 i hi; rw [List.contains_iff_mem.mpr hm] at this; cases this
  have hFc := va_free hD hS hA isC hC
  refine va_callv (va_runI (As := []) (rest := rest) ⟨hx, hb, hml, hown, hts⟩ (hM H.size) ⟨callB_of 0 hts (gd_C hcode) rfl rfl rfl (hts _ hini) (hts _ hlink) hd hR, hyn, hts _ hinst⟩ ⟨bl_W, ct_pre hP hD hK hN isC n1 hC _⟩ rfl rfl hsz hst (lv_room hrm) hdg hcs) hS (fun q _ h => hFc q h) hFc (fun u t H1 locs1 ht hvm hw hB hz1 hk1 hS1 => ?_)
  obtain ⟨hP1, hK1, hD1⟩ := hB
  rw [ht] at hP1
  obtain ⟨h1, h2⟩ := jn_W (w1 := w1) (w2 := w2) (u := u) hP hD hS hA isC isR isP hC hRr n2 hdis (hp u) n3 hk1 hP1 hD1
  exact kk u H1 locs1 h1 h2 hS1
/-- the call of a method that reads the tables -/
theorem ca_VR {S : Type} {post : Int32 → S → Prop} {w1 w2 : S → va_W} {rt : FieldType} {fs : List Value} {T : u_T} {N : Nat} (hM : mt_R l y cb maxB rt fr lo D cI cJ cZ wc (.ref b :: As) post w1) (hG : sg_ A s s.heap) (hx : p.tables.exec = Jvm.exec) (hb : c.code = cc) (hml : c.maxLocals = nL) (hown : s.vm.findClass own = some m.cls) (hts : ∀ w ∈ bg_A, w.before args s = true) (hN : hw_N s) (hK : va_K D cl_A (ty_A cI cJ cZ) s) (hA : ∀ q, s.heap.size ≤ q → A q) (hP : va_P D cl_A ws H) (hD : va_D A ws) (hS : va_S A s.heap H locs)
    (ci q0 : Nat) (hci : cl_A[ci]? = some (C, T, N)) (hq0 : wc[q0]? = some (ob_J b ci fs)) (hlink : Cond.methodLink own index y ∈ bg_A) (hinst : Cond.instanceMethod y ∈ bg_A) (hsel : Cond.selects C y y ∈ bg_A) (hini : Cond.initialized y.cls ∈ bg_A) (hcode : Cond.code y cb maxB (some rt) ∈ bg_A)
    (nA : Nat) (hnA : As.length = nA) (hd : y.cls ≠ "java/lang/invoke/MethodHandle" ∧ y.cls ≠ "java/lang/invoke/VarHandle" ∧ (parseMethodDescriptor y.desc).map (fun d => d.parameters.length) = some nA) (hR : fr + 1 ≤ R.frames ∧ 8 + (maxB + 11) + lo ≤ R.locals)
    (isC isR isP : List Nat) (hC : isC.map (fun i => ws[i]?) = wc.map some) (hRr : isR.map (fun i => ws[i]?) = wr.map some) (hnd : (va_nd isC && va_nd isR && va_nd isP && isR.all (fun i => !isC.contains i)) = true) (hp : ∀ u, isP.map (fun i => (wr ++ w1 u)[i]?) = (w2 u).map some)
    (hsz : ls.size = nL) (hst : st0 = As.reverse ++ .ref b :: rest) (hrm : (rest.map fun v => v.category).sum ≤ 8) (hdg : decode cc pc = .ok (.invokevirtual index, 3)) (hcs : cells ≤ R.cells ∧ slots ≤ R.slots)
    (kk : ∀ (r : Int32) (u : S) (H1 : Heap) (locs1 : List Loc), post r u → va_P D cl_A (w2 u) H1 → va_D A (w2 u) → va_S A s.heap H1 locs1 → W p l e R s m args below meth c H1 locs1 cells slots Q (F0 m (pc + 3) ls (.int r :: rest))) : W p l e R s m args below meth c H locs cells slots Q (F0 m pc ls st0) := by
  simp only [Bool.and_eq_true, List.all_eq_true, Bool.not_eq_true'] at hnd
  obtain ⟨⟨⟨n1, n2⟩, n3⟩, n4⟩ := hnd
  have hdis : ∀ i ∈ isR, i ∉ isC := fun i hi hm => by have := n4 i hi; rw [List.contains_iff_mem.mpr hm] at this; cases this
  have hFc := va_free hD hS hA isC hC
  refine va_calli (va_runV (As := As) (rest := rest) ⟨hx, hb, hml, hown, hts⟩ (hM H.size) ⟨callB_of nA hts (gd_C hcode) rfl rfl rfl (hts _ hini) (hts _ hlink) hd hR, hts _ hinst, hts _ hsel⟩ ⟨bl_R, va_recv hK (ct_P hP isC hC) hci hq0, fun U hU hW => ⟨rfl, (ct_pre hP hD hK hN isC n1 hC [] U hU hW).2, by rw [hU]; exact sg_narrow (sg_kept (sg_moved hW.alike hG) (fun q h1 h2 => hS.2.1 q h1 h2)) hFc⟩⟩ rfl hnA hsz hst (lv_room hrm) hdg hcs) hS (fun q _ h => hFc q h) hFc (fun r u t H1 locs1 ht hvm hw hB hz1 hk1 hS1 => ?_)
  obtain ⟨hP1, hK1, hD1⟩ := hB
  rw [ht] at hP1
  obtain ⟨h1, h2⟩ := jn_W (w1 := w1) (w2 := w2) (u := u) hP hD hS hA isC isR isP hC hRr n2 hdis (hp u) n3 hk1 hP1 hD1
  exact kk r u H1 locs1 hw h1 h2 hS1
end CT

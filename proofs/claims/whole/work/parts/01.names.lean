/-- a private method of a class that the tables say can be made, by its rows of tables_1 -/
def lw_okq (q : MethodName × Nat) : Prop := (q.1.cls ≠ "java/lang/invoke/MethodHandle" ∧ q.1.cls ≠ "java/lang/invoke/VarHandle") ∧ Cond.instantiable q.1.cls q.2 ∈ tables_1 ∧ Cond.privateMethod q.1 ∈ tables_1 ∧ Cond.instanceMethod q.1 ∈ tables_1
theorem lw_p0 : lw_okq (⟨"NodeWeights", "isMove", "(III)Z"⟩, 7) := ⟨⟨by decide +kernel, by decide +kernel⟩, List.mem_of_getElem? (i := 11) (by decide +kernel), List.mem_of_getElem? (i := 187) (by decide +kernel), List.mem_of_getElem? (i := 188) (by decide +kernel)⟩
theorem lw_p1 : lw_okq (⟨"NodeWeights", "beginNextHeight", "()V"⟩, 7) := ⟨⟨by decide +kernel, by decide +kernel⟩, List.mem_of_getElem? (i := 11) (by decide +kernel), List.mem_of_getElem? (i := 221) (by decide +kernel), List.mem_of_getElem? (i := 222) (by decide +kernel)⟩
theorem lw_p2 : lw_okq (⟨"NodeWeights", "giveRewards", "()V"⟩, 7) := ⟨⟨by decide +kernel, by decide +kernel⟩, List.mem_of_getElem? (i := 11) (by decide +kernel), List.mem_of_getElem? (i := 225) (by decide +kernel), List.mem_of_getElem? (i := 226) (by decide +kernel)⟩
theorem lw_p3 : lw_okq (⟨"NodeWeights", "pot", "()I"⟩, 7) := ⟨⟨by decide +kernel, by decide +kernel⟩, List.mem_of_getElem? (i := 11) (by decide +kernel), List.mem_of_getElem? (i := 232) (by decide +kernel), List.mem_of_getElem? (i := 233) (by decide +kernel)⟩
theorem lw_p4 : lw_okq (⟨"NodeWeights", "payNode", "(II)V"⟩, 7) := ⟨⟨by decide +kernel, by decide +kernel⟩, List.mem_of_getElem? (i := 11) (by decide +kernel), List.mem_of_getElem? (i := 248) (by decide +kernel), List.mem_of_getElem? (i := 249) (by decide +kernel)⟩
theorem lw_p5 : lw_okq (⟨"NodeWeights", "fixSet", "()V"⟩, 7) := ⟨⟨by decide +kernel, by decide +kernel⟩, List.mem_of_getElem? (i := 11) (by decide +kernel), List.mem_of_getElem? (i := 261) (by decide +kernel), List.mem_of_getElem? (i := 262) (by decide +kernel)⟩
theorem lw_p6 : lw_okq (⟨"NodeWeights", "hasSet", "(I)Z"⟩, 7) := ⟨⟨by decide +kernel, by decide +kernel⟩, List.mem_of_getElem? (i := 11) (by decide +kernel), List.mem_of_getElem? (i := 310) (by decide +kernel), List.mem_of_getElem? (i := 311) (by decide +kernel)⟩
theorem lw_p7 : lw_okq (⟨"NodeWeights", "isUpward", "(II)Z"⟩, 7) := ⟨⟨by decide +kernel, by decide +kernel⟩, List.mem_of_getElem? (i := 11) (by decide +kernel), List.mem_of_getElem? (i := 342) (by decide +kernel), List.mem_of_getElem? (i := 343) (by decide +kernel)⟩
theorem lw_p8 : lw_okq (⟨"NodeWeightsModel", "noNode", "(I)Z"⟩, 24) := ⟨⟨by decide +kernel, by decide +kernel⟩, List.mem_of_getElem? (i := 399) (by decide +kernel), List.mem_of_getElem? (i := 507) (by decide +kernel), List.mem_of_getElem? (i := 508) (by decide +kernel)⟩
theorem lw_p9 : lw_okq (⟨"NodeWeightsModel", "payFor", "(I)V"⟩, 24) := ⟨⟨by decide +kernel, by decide +kernel⟩, List.mem_of_getElem? (i := 399) (by decide +kernel), List.mem_of_getElem? (i := 531) (by decide +kernel), List.mem_of_getElem? (i := 532) (by decide +kernel)⟩
theorem lw_p10 : lw_okq (⟨"NodeWeightsModel", "allOf", "(I)I"⟩, 24) := ⟨⟨by decide +kernel, by decide +kernel⟩, List.mem_of_getElem? (i := 399) (by decide +kernel), List.mem_of_getElem? (i := 535) (by decide +kernel), List.mem_of_getElem? (i := 536) (by decide +kernel)⟩
theorem lw_p11 : lw_okq (⟨"NodeWeightsModel", "deal", "(II)V"⟩, 24) := ⟨⟨by decide +kernel, by decide +kernel⟩, List.mem_of_getElem? (i := 399) (by decide +kernel), List.mem_of_getElem? (i := 539) (by decide +kernel), List.mem_of_getElem? (i := 540) (by decide +kernel)⟩
theorem lw_p12 : lw_okq (⟨"NodeWeightsModel", "fix", "()V"⟩, 24) := ⟨⟨by decide +kernel, by decide +kernel⟩, List.mem_of_getElem? (i := 399) (by decide +kernel), List.mem_of_getElem? (i := 543) (by decide +kernel), List.mem_of_getElem? (i := 544) (by decide +kernel)⟩
theorem lw_p13 : lw_okq (⟨"NodeWeightsModel", "about5", "(I)I"⟩, 24) := ⟨⟨by decide +kernel, by decide +kernel⟩, List.mem_of_getElem? (i := 399) (by decide +kernel), List.mem_of_getElem? (i := 547) (by decide +kernel), List.mem_of_getElem? (i := 548) (by decide +kernel)⟩
theorem lw_p14 : lw_okq (⟨"NodeWeightsModel", "drawnOf", "(I)I"⟩, 24) := ⟨⟨by decide +kernel, by decide +kernel⟩, List.mem_of_getElem? (i := 399) (by decide +kernel), List.mem_of_getElem? (i := 564) (by decide +kernel), List.mem_of_getElem? (i := 565) (by decide +kernel)⟩
theorem lw_p15 : lw_okq (⟨"NodeWeightsModel", "noHeight", "(I)Z"⟩, 24) := ⟨⟨by decide +kernel, by decide +kernel⟩, List.mem_of_getElem? (i := 399) (by decide +kernel), List.mem_of_getElem? (i := 576) (by decide +kernel), List.mem_of_getElem? (i := 577) (by decide +kernel)⟩
def lw_privs_1 : List (MethodName × Nat) := [(⟨"NodeWeights", "isMove", "(III)Z"⟩, 7), (⟨"NodeWeights", "beginNextHeight", "()V"⟩, 7), (⟨"NodeWeights", "giveRewards", "()V"⟩, 7), (⟨"NodeWeights", "pot", "()I"⟩, 7), (⟨"NodeWeights", "payNode", "(II)V"⟩, 7), (⟨"NodeWeights", "fixSet", "()V"⟩, 7), (⟨"NodeWeights", "hasSet", "(I)Z"⟩, 7), (⟨"NodeWeights", "isUpward", "(II)Z"⟩, 7), (⟨"NodeWeightsModel", "noNode", "(I)Z"⟩, 24), (⟨"NodeWeightsModel", "payFor", "(I)V"⟩, 24), (⟨"NodeWeightsModel", "allOf", "(I)I"⟩, 24), (⟨"NodeWeightsModel", "deal", "(II)V"⟩, 24), (⟨"NodeWeightsModel", "fix", "()V"⟩, 24), (⟨"NodeWeightsModel", "about5", "(I)I"⟩, 24), (⟨"NodeWeightsModel", "drawnOf", "(I)I"⟩, 24), (⟨"NodeWeightsModel", "noHeight", "(I)Z"⟩, 24)]
theorem lw_r1 : ∀ q ∈ lw_privs_1, lw_okq q := List.forall_mem_cons.mpr ⟨lw_p0, List.forall_mem_cons.mpr ⟨lw_p1, List.forall_mem_cons.mpr ⟨lw_p2, List.forall_mem_cons.mpr ⟨lw_p3, List.forall_mem_cons.mpr ⟨lw_p4, List.forall_mem_cons.mpr ⟨lw_p5, List.forall_mem_cons.mpr ⟨lw_p6, List.forall_mem_cons.mpr ⟨lw_p7, List.forall_mem_cons.mpr ⟨lw_p8, List.forall_mem_cons.mpr ⟨lw_p9, List.forall_mem_cons.mpr ⟨lw_p10, List.forall_mem_cons.mpr ⟨lw_p11, List.forall_mem_cons.mpr ⟨lw_p12, List.forall_mem_cons.mpr ⟨lw_p13, List.forall_mem_cons.mpr ⟨lw_p14, List.forall_mem_cons.mpr ⟨lw_p15, fun _ h => absurd h List.not_mem_nil⟩⟩⟩⟩⟩⟩⟩⟩⟩⟩⟩⟩⟩⟩⟩⟩
theorem lw_p16 : lw_okq (⟨"NodeWeightsModel", "noBits", "(I)Z"⟩, 24) := ⟨⟨by decide +kernel, by decide +kernel⟩, List.mem_of_getElem? (i := 399) (by decide +kernel), List.mem_of_getElem? (i := 588) (by decide +kernel), List.mem_of_getElem? (i := 589) (by decide +kernel)⟩
theorem lw_p17 : lw_okq (⟨"NodeWeightsModel", "isGood", "(II)Z"⟩, 24) := ⟨⟨by decide +kernel, by decide +kernel⟩, List.mem_of_getElem? (i := 399) (by decide +kernel), List.mem_of_getElem? (i := 592) (by decide +kernel), List.mem_of_getElem? (i := 593) (by decide +kernel)⟩
theorem lw_p18 : lw_okq (⟨"NodeWeightsModel", "weightOf", "(II)I"⟩, 24) := ⟨⟨by decide +kernel, by decide +kernel⟩, List.mem_of_getElem? (i := 399) (by decide +kernel), List.mem_of_getElem? (i := 597) (by decide +kernel), List.mem_of_getElem? (i := 598) (by decide +kernel)⟩
theorem lw_p19 : lw_okq (⟨"NodeWeightsModel", "may", "(III)Z"⟩, 24) := ⟨⟨by decide +kernel, by decide +kernel⟩, List.mem_of_getElem? (i := 399) (by decide +kernel), List.mem_of_getElem? (i := 606) (by decide +kernel), List.mem_of_getElem? (i := 607) (by decide +kernel)⟩
theorem lw_p20 : lw_okq (⟨"NodeWeightsModel", "nextOf", "(II)I"⟩, 24) := ⟨⟨by decide +kernel, by decide +kernel⟩, List.mem_of_getElem? (i := 399) (by decide +kernel), List.mem_of_getElem? (i := 618) (by decide +kernel), List.mem_of_getElem? (i := 619) (by decide +kernel)⟩
theorem lw_p21 : lw_okq (⟨"NodeWeightsModel", "present", "(I)I"⟩, 24) := ⟨⟨by decide +kernel, by decide +kernel⟩, List.mem_of_getElem? (i := 399) (by decide +kernel), List.mem_of_getElem? (i := 622) (by decide +kernel), List.mem_of_getElem? (i := 623) (by decide +kernel)⟩
def lw_privs_2 : List (MethodName × Nat) := [(⟨"NodeWeightsModel", "noBits", "(I)Z"⟩, 24), (⟨"NodeWeightsModel", "isGood", "(II)Z"⟩, 24), (⟨"NodeWeightsModel", "weightOf", "(II)I"⟩, 24), (⟨"NodeWeightsModel", "may", "(III)Z"⟩, 24), (⟨"NodeWeightsModel", "nextOf", "(II)I"⟩, 24), (⟨"NodeWeightsModel", "present", "(I)I"⟩, 24)]
theorem lw_r2 : ∀ q ∈ lw_privs_2, lw_okq q := List.forall_mem_cons.mpr ⟨lw_p16, List.forall_mem_cons.mpr ⟨lw_p17, List.forall_mem_cons.mpr ⟨lw_p18, List.forall_mem_cons.mpr ⟨lw_p19, List.forall_mem_cons.mpr ⟨lw_p20, List.forall_mem_cons.mpr ⟨lw_p21, fun _ h => absurd h List.not_mem_nil⟩⟩⟩⟩⟩⟩
def lw_privs : List (MethodName × Nat) := lw_privs_1 ++ (lw_privs_2)
def lw_tbl : List Cond := k2_sels lw_privs ++ tables_1
theorem lw_privs_ok : ∀ q ∈ lw_privs, lw_okq q := by
  show ∀ q ∈ lw_privs_1 ++ (lw_privs_2), lw_okq q
  exact List.forall_mem_append.mpr ⟨lw_r1, lw_r2⟩
/-! ===== BEGIN words of one list among another's, by their places ===== -/
theorem goodIn_r {big : List Cond} (ws : List Cond) (ps : List Nat) (hp : ws = ps.filterMap (fun i => big[i]?)) (h : ws.all goodWord = true) : GoodIn big ws := by
  intro w hw
  have h1 := List.all_eq_true.mp h w hw
  rw [hp] at hw
  obtain ⟨i, -, hi⟩ := List.mem_filterMap.mp hw
  have hm : w ∈ big := by first | exact List.mem_of_getElem? hi | exact List.getElem?_mem hi
  exact ⟨hm, good_of_word h1⟩
theorem goodIn_app {big a b : List Cond} (ha : GoodIn big a) (hb : GoodIn big b) : GoodIn big (a ++ b) := fun w h => (List.mem_append.mp h).elim (ha w) (hb w)
theorem goodIn_ca {big a b : List Cond} {c : Cond} (ha : GoodIn big (c :: a)) (hb : GoodIn big b) : GoodIn big (c :: (a ++ b)) := fun w h => (List.mem_cons.mp h).elim (fun e => ha w (List.mem_cons.mpr (Or.inl e))) (fun h => (List.mem_append.mp h).elim (fun h => ha w (List.mem_cons.mpr (Or.inr h))) (hb w))
theorem goodIn_sub {big ws : List Cond} (hm : ∀ w ∈ ws, w ∈ big) (h : ws.all goodWord = true) : GoodIn big ws := fun w hw => ⟨hm w hw, good_of_word (List.all_eq_true.mp h w hw)⟩
/-! ===== END ===== -/

/-! ===== BEGIN printed: names, fields, word lists, decode rows ===== -/
def RX0 : String := "NodeWeights$Book"
def TX0 : u_T := fun k => match k with
  | 0 => ("NodeWeights$Book", "funded", "I", false)
  | 1 => ("NodeWeights$Book", "rewarded", "I", false)
  | 2 => ("NodeWeights$Book", "balance", "[I", true)
  | 3 => ("NodeWeights$Book", "stakes", "[I", true)
  | _ => ("NodeWeights$Book", "due", "[I", true)
def tyX0 : Nat → FieldType := fun k => match k with
  | 0 => .int
  | 1 => .int
  | 2 => .array .int
  | 3 => .array .int
  | _ => .array .int
abbrev wsX00 : List Cond := u_ws RX0 TX0 5
theorem nmX0 : ∀ a, a < 5 → ∀ b, b < 5 → a ≠ b → (TX0 a).2.1 ≠ (TX0 b).2.1 := by decide +kernel
theorem tyX0_ok : ∀ k, k < 5 → parseFieldDescriptor (TX0 k).2.2.1 = some (tyX0 k) := by decide +kernel
abbrev cX0_init : ByteArray := prog_2_method_1_code
def yX0_init : MethodName := ⟨RX0, "<init>", "()V"⟩
abbrev cX0_payDue : ByteArray := prog_2_method_2_code
def yX0_payDue : MethodName := ⟨RX0, "payDue", "(I)V"⟩
abbrev cX0_stakesOfNode : ByteArray := prog_2_method_3_code
def yX0_stakesOfNode : MethodName := ⟨RX0, "stakesOfNode", "(I)I"⟩
abbrev cX0_stakesOfAccount : ByteArray := prog_2_method_4_code
def yX0_stakesOfAccount : MethodName := ⟨RX0, "stakesOfAccount", "(I)I"⟩
abbrev cX0_dueOfAccount : ByteArray := prog_2_method_5_code
def yX0_dueOfAccount : MethodName := ⟨RX0, "dueOfAccount", "(I)I"⟩
abbrev cX0_allBalances : ByteArray := prog_2_method_6_code
def yX0_allBalances : MethodName := ⟨RX0, "allBalances", "()I"⟩
abbrev cX0_allStakes : ByteArray := prog_2_method_7_code
def yX0_allStakes : MethodName := ⟨RX0, "allStakes", "()I"⟩
abbrev cX0_allDue : ByteArray := prog_2_method_8_code
def yX0_allDue : MethodName := ⟨RX0, "allDue", "()I"⟩
def RX1 : String := "NodeWeights$Nodes"
def TX1 : u_T := fun k => match k with
  | 0 => ("NodeWeights$Nodes", "size", "I", false)
  | 1 => ("NodeWeights$Nodes", "keeper", "[I", true)
  | 2 => ("NodeWeights$Nodes", "cut", "[I", true)
  | 3 => ("NodeWeights$Nodes", "state", "[I", true)
  | 4 => ("NodeWeights$Nodes", "leavesAt", "[I", true)
  | _ => ("NodeWeights$Nodes", "frozen", "[Z", true)
def tyX1 : Nat → FieldType := fun k => match k with
  | 0 => .int
  | 1 => .array .int
  | 2 => .array .int
  | 3 => .array .int
  | 4 => .array .int
  | _ => .array .boolean
abbrev wsX10 : List Cond := u_ws RX1 TX1 6
theorem nmX1 : ∀ a, a < 6 → ∀ b, b < 6 → a ≠ b → (TX1 a).2.1 ≠ (TX1 b).2.1 := by decide +kernel
theorem tyX1_ok : ∀ k, k < 6 → parseFieldDescriptor (TX1 k).2.2.1 = some (tyX1 k) := by decide +kernel
abbrev cX1_init : ByteArray := prog_3_method_1_code
def yX1_init : MethodName := ⟨RX1, "<init>", "()V"⟩
abbrev cX1_has : ByteArray := prog_3_method_2_code
def yX1_has : MethodName := ⟨RX1, "has", "(I)Z"⟩
abbrev cX1_haveAll : ByteArray := prog_3_method_3_code
def yX1_haveAll : MethodName := ⟨RX1, "haveAll", "(I)Z"⟩
abbrev cX1_counts : ByteArray := prog_3_method_4_code
def yX1_counts : MethodName := ⟨RX1, "counts", "(I)Z"⟩
abbrev cX1_open : ByteArray := prog_3_method_5_code
def yX1_open : MethodName := ⟨RX1, "open", "(II)I"⟩
abbrev cX1_settle : ByteArray := prog_3_method_6_code
def yX1_settle : MethodName := ⟨RX1, "settle", "(I)V"⟩
def RX2 : String := "NodeWeights$Sets"
def TX2 : u_T := fun k => match k with
  | 0 => ("NodeWeights$Sets", "weights", "[I", true)
  | 1 => ("NodeWeights$Sets", "rewards", "[I", true)
  | 2 => ("NodeWeights$Sets", "all", "[I", true)
  | 3 => ("NodeWeights$Sets", "bearers", "[I", true)
  | _ => ("NodeWeights$Sets", "fixedStakes", "[I", true)
def tyX2 : Nat → FieldType := fun k => match k with
  | 0 => .array .int
  | 1 => .array .int
  | 2 => .array .int
  | 3 => .array .int
  | _ => .array .int
abbrev wsX20 : List Cond := u_ws RX2 TX2 5
theorem nmX2 : ∀ a, a < 5 → ∀ b, b < 5 → a ≠ b → (TX2 a).2.1 ≠ (TX2 b).2.1 := by decide +kernel
theorem tyX2_ok : ∀ k, k < 5 → parseFieldDescriptor (TX2 k).2.2.1 = some (tyX2 k) := by decide +kernel
abbrev cX2_init : ByteArray := prog_4_method_1_code
def yX2_init : MethodName := ⟨RX2, "<init>", "()V"⟩
abbrev cX2_enter : ByteArray := prog_4_method_2_code
def yX2_enter : MethodName := ⟨RX2, "enter", "(III)V"⟩
abbrev cX2_rewardsOf : ByteArray := prog_4_method_3_code
def yX2_rewardsOf : MethodName := ⟨RX2, "rewardsOf", "(I)I"⟩
abbrev cX2_weightOf : ByteArray := prog_4_method_4_code
def yX2_weightOf : MethodName := ⟨RX2, "weightOf", "(II)I"⟩
abbrev cX2_commonWeight : ByteArray := prog_4_method_5_code
def yX2_commonWeight : MethodName := ⟨RX2, "commonWeight", "(II)I"⟩
abbrev cX2_isGood : ByteArray := prog_4_method_6_code
def yX2_isGood : MethodName := ⟨RX2, "isGood", "(II)Z"⟩
abbrev cX2_allowsJump : ByteArray := prog_4_method_7_code
def yX2_allowsJump : MethodName := ⟨RX2, "allowsJump", "(III)Z"⟩
def RX3 : String := "NodeWeights$Sharer"
def TX3 : u_T := fun k => match k with
  | 0 => ("NodeWeights$Sharer", "given", "[I", true)
  | _ => ("NodeWeights$Sharer", "rest", "[J", true)
def tyX3 : Nat → FieldType := fun k => match k with
  | 0 => .array .int
  | _ => .array .long
abbrev wsX30 : List Cond := u_ws RX3 TX3 2
theorem nmX3 : ∀ a, a < 2 → ∀ b, b < 2 → a ≠ b → (TX3 a).2.1 ≠ (TX3 b).2.1 := by decide +kernel
theorem tyX3_ok : ∀ k, k < 2 → parseFieldDescriptor (TX3 k).2.2.1 = some (tyX3 k) := by decide +kernel
abbrev cX3_init : ByteArray := prog_5_method_1_code
def yX3_init : MethodName := ⟨RX3, "<init>", "()V"⟩
abbrev cX3_split : ByteArray := prog_5_method_2_code
def yX3_split : MethodName := ⟨RX3, "split", "(I[III)V"⟩
abbrev cX3_giveOneByRest : ByteArray := prog_5_method_3_code
def yX3_giveOneByRest : MethodName := ⟨RX3, "giveOneByRest", "(I)V"⟩
def RX4 : String := "NodeWeights$Ways"
def TX4 : u_T := fun k => match k with
  | 0 => ("NodeWeights$Ways", "jumps", "[I", true)
  | _ => ("NodeWeights$Ways", "next", "[I", true)
def tyX4 : Nat → FieldType := fun k => match k with
  | 0 => .array .int
  | _ => .array .int
abbrev wsX40 : List Cond := u_ws RX4 TX4 2
theorem nmX4 : ∀ a, a < 2 → ∀ b, b < 2 → a ≠ b → (TX4 a).2.1 ≠ (TX4 b).2.1 := by decide +kernel
theorem tyX4_ok : ∀ k, k < 2 → parseFieldDescriptor (TX4 k).2.2.1 = some (tyX4 k) := by decide +kernel
abbrev cX4_init : ByteArray := prog_6_method_1_code
def yX4_init : MethodName := ⟨RX4, "<init>", "()V"⟩
abbrev cX4_plan : ByteArray := prog_6_method_2_code
def yX4_plan : MethodName := ⟨RX4, "plan", "(LNodeWeights$Sets;II)V"⟩
abbrev cX4_planFrom : ByteArray := prog_6_method_3_code
def yX4_planFrom : MethodName := ⟨RX4, "planFrom", "(LNodeWeights$Sets;II)V"⟩
abbrev cX4_isShorter : ByteArray := prog_6_method_4_code
def yX4_isShorter : MethodName := ⟨RX4, "isShorter", "(II)Z"⟩
abbrev cX4_heightAt : ByteArray := prog_6_method_5_code
def yX4_heightAt : MethodName := ⟨RX4, "heightAt", "(III)I"⟩
def RX5 : String := "NodeWeights"
def TX5 : u_T := fun k => match k with
  | 0 => ("NodeWeights", "now", "I", false)
  | 1 => ("NodeWeights", "rules", "[I", true)
  | 2 => ("NodeWeights", "book", "LNodeWeights$Book;", true)
  | 3 => ("NodeWeights", "nodes", "LNodeWeights$Nodes;", true)
  | 4 => ("NodeWeights", "sets", "LNodeWeights$Sets;", true)
  | 5 => ("NodeWeights", "sharer", "LNodeWeights$Sharer;", true)
  | _ => ("NodeWeights", "ways", "LNodeWeights$Ways;", true)
def tyX5 : Nat → FieldType := fun k => match k with
  | 0 => .int
  | 1 => .array .int
  | 2 => .object "NodeWeights$Book"
  | 3 => .object "NodeWeights$Nodes"
  | 4 => .object "NodeWeights$Sets"
  | 5 => .object "NodeWeights$Sharer"
  | _ => .object "NodeWeights$Ways"
abbrev wsX50 : List Cond := u_ws RX5 TX5 7
theorem nmX5 : ∀ a, a < 7 → ∀ b, b < 7 → a ≠ b → (TX5 a).2.1 ≠ (TX5 b).2.1 := by decide +kernel
theorem tyX5_ok : ∀ k, k < 7 → parseFieldDescriptor (TX5 k).2.2.1 = some (tyX5 k) := by decide +kernel
abbrev cX5_init : ByteArray := prog_1_method_1_code
def yX5_init : MethodName := ⟨RX5, "<init>", "()V"⟩
abbrev cX5_rule : ByteArray := prog_1_method_2_code
def yX5_rule : MethodName := ⟨RX5, "rule", "(II)I"⟩
abbrev cX5_fund : ByteArray := prog_1_method_3_code
def yX5_fund : MethodName := ⟨RX5, "fund", "(II)I"⟩
abbrev cX5_node : ByteArray := prog_1_method_4_code
def yX5_node : MethodName := ⟨RX5, "node", "(II)I"⟩
abbrev cX5_stake : ByteArray := prog_1_method_5_code
def yX5_stake : MethodName := ⟨RX5, "stake", "(III)I"⟩
abbrev cX5_draw : ByteArray := prog_1_method_6_code
def yX5_draw : MethodName := ⟨RX5, "draw", "(III)I"⟩
abbrev cX5_join : ByteArray := prog_1_method_7_code
def yX5_join : MethodName := ⟨RX5, "join", "(I)I"⟩
abbrev cX5_leave : ByteArray := prog_1_method_8_code
def yX5_leave : MethodName := ⟨RX5, "leave", "(I)I"⟩
abbrev cX5_freeze : ByteArray := prog_1_method_9_code
def yX5_freeze : MethodName := ⟨RX5, "freeze", "(IZ)I"⟩
abbrev cX5_advance : ByteArray := prog_1_method_10_code
def yX5_advance : MethodName := ⟨RX5, "advance", "(I)I"⟩
abbrev cX5_balance : ByteArray := prog_1_method_11_code
def yX5_balance : MethodName := ⟨RX5, "balance", "(I)I"⟩
abbrev cX5_staked : ByteArray := prog_1_method_12_code
def yX5_staked : MethodName := ⟨RX5, "staked", "(II)I"⟩
abbrev cX5_drawn : ByteArray := prog_1_method_13_code
def yX5_drawn : MethodName := ⟨RX5, "drawn", "(II)I"⟩
abbrev cX5_about : ByteArray := prog_1_method_14_code
def yX5_about : MethodName := ⟨RX5, "about", "(II)I"⟩
abbrev cX5_weight : ByteArray := prog_1_method_15_code
def yX5_weight : MethodName := ⟨RX5, "weight", "(II)I"⟩
abbrev cX5_reward : ByteArray := prog_1_method_16_code
def yX5_reward : MethodName := ⟨RX5, "reward", "(II)I"⟩
abbrev cX5_judge : ByteArray := prog_1_method_17_code
def yX5_judge : MethodName := ⟨RX5, "judge", "(II)I"⟩
abbrev cX5_jump : ByteArray := prog_1_method_18_code
def yX5_jump : MethodName := ⟨RX5, "jump", "(III)I"⟩
abbrev cX5_overlap : ByteArray := prog_1_method_19_code
def yX5_overlap : MethodName := ⟨RX5, "overlap", "(II)I"⟩
abbrev cX5_way : ByteArray := prog_1_method_20_code
def yX5_way : MethodName := ⟨RX5, "way", "(III)I"⟩
abbrev cX5_count : ByteArray := prog_1_method_21_code
def yX5_count : MethodName := ⟨RX5, "count", "(I)I"⟩
abbrev cX5_isWithin : ByteArray := prog_1_method_22_code
def yX5_isWithin : MethodName := ⟨RX5, "isWithin", "(III)Z"⟩
abbrev cX5_isAccount : ByteArray := prog_1_method_23_code
def yX5_isAccount : MethodName := ⟨RX5, "isAccount", "(I)Z"⟩
abbrev cX5_isMove : ByteArray := prog_1_method_24_code
def yX5_isMove : MethodName := ⟨RX5, "isMove", "(III)Z"⟩
abbrev cX5_hasSet : ByteArray := prog_1_method_25_code
def yX5_hasSet : MethodName := ⟨RX5, "hasSet", "(I)Z"⟩
abbrev cX5_isUpward : ByteArray := prog_1_method_26_code
def yX5_isUpward : MethodName := ⟨RX5, "isUpward", "(II)Z"⟩
abbrev cX5_stakePlace : ByteArray := prog_1_method_27_code
def yX5_stakePlace : MethodName := ⟨RX5, "stakePlace", "(II)I"⟩
abbrev cX5_duePlace : ByteArray := prog_1_method_28_code
def yX5_duePlace : MethodName := ⟨RX5, "duePlace", "(II)I"⟩
abbrev cX5_setPlace : ByteArray := prog_1_method_29_code
def yX5_setPlace : MethodName := ⟨RX5, "setPlace", "(II)I"⟩
abbrev cX5_beginNextHeight : ByteArray := prog_1_method_30_code
def yX5_beginNextHeight : MethodName := ⟨RX5, "beginNextHeight", "()V"⟩
abbrev cX5_giveRewards : ByteArray := prog_1_method_31_code
def yX5_giveRewards : MethodName := ⟨RX5, "giveRewards", "()V"⟩
abbrev cX5_pot : ByteArray := prog_1_method_32_code
def yX5_pot : MethodName := ⟨RX5, "pot", "()I"⟩
abbrev cX5_payNode : ByteArray := prog_1_method_33_code
def yX5_payNode : MethodName := ⟨RX5, "payNode", "(II)V"⟩
abbrev cX5_fixSet : ByteArray := prog_1_method_34_code
def yX5_fixSet : MethodName := ⟨RX5, "fixSet", "()V"⟩
def RX6 : String := "NodeWeightsModel"
def TX6 : u_T := fun k => match k with
  | 0 => ("NodeWeightsModel", "thrown", "I", false)
  | 1 => ("NodeWeightsModel", "height", "I", false)
  | 2 => ("NodeWeightsModel", "wait", "I", false)
  | 3 => ("NodeWeightsModel", "reward", "I", false)
  | 4 => ("NodeWeightsModel", "halving", "I", false)
  | 5 => ("NodeWeightsModel", "bound", "I", false)
  | 6 => ("NodeWeightsModel", "balance", "[I", true)
  | 7 => ("NodeWeightsModel", "given", "I", false)
  | 8 => ("NodeWeightsModel", "rewarded", "I", false)
  | 9 => ("NodeWeightsModel", "nodes", "I", false)
  | 10 => ("NodeWeightsModel", "keeper", "[I", true)
  | 11 => ("NodeWeightsModel", "cut", "[I", true)
  | 12 => ("NodeWeightsModel", "state", "[I", true)
  | 13 => ("NodeWeightsModel", "due", "[I", true)
  | 14 => ("NodeWeightsModel", "isFrozen", "[Z", true)
  | 15 => ("NodeWeightsModel", "stake", "[I", true)
  | 16 => ("NodeWeightsModel", "then", "[I", true)
  | 17 => ("NodeWeightsModel", "drawn", "[I", true)
  | 18 => ("NodeWeightsModel", "weight", "[I", true)
  | 19 => ("NodeWeightsModel", "share", "[I", true)
  | 20 => ("NodeWeightsModel", "pots", "[I", true)
  | 21 => ("NodeWeightsModel", "part", "[J", true)
  | 22 => ("NodeWeightsModel", "dealt", "[I", true)
  | _ => ("NodeWeightsModel", "jumps", "[I", true)
def tyX6 : Nat → FieldType := fun k => match k with
  | 0 => .int
  | 1 => .int
  | 2 => .int
  | 3 => .int
  | 4 => .int
  | 5 => .int
  | 6 => .array .int
  | 7 => .int
  | 8 => .int
  | 9 => .int
  | 10 => .array .int
  | 11 => .array .int
  | 12 => .array .int
  | 13 => .array .int
  | 14 => .array .boolean
  | 15 => .array .int
  | 16 => .array .int
  | 17 => .array .int
  | 18 => .array .int
  | 19 => .array .int
  | 20 => .array .int
  | 21 => .array .long
  | 22 => .array .int
  | _ => .array .int
abbrev wsX60 : List Cond := u_ws RX6 TX6 24
theorem nmX6 : ∀ a, a < 24 → ∀ b, b < 24 → a ≠ b → (TX6 a).2.1 ≠ (TX6 b).2.1 := by decide +kernel
theorem tyX6_ok : ∀ k, k < 24 → parseFieldDescriptor (TX6 k).2.2.1 = some (tyX6 k) := by decide +kernel
abbrev cX6_in : ByteArray := prog_8_method_2_code
def yX6_in : MethodName := ⟨RX6, "in", "(JJJ)Z"⟩
abbrev cX6_init : ByteArray := prog_8_method_3_code
def yX6_init : MethodName := ⟨RX6, "<init>", "()V"⟩
abbrev cX6_noAccount : ByteArray := prog_8_method_4_code
def yX6_noAccount : MethodName := ⟨RX6, "noAccount", "(I)Z"⟩
abbrev cX6_noNode : ByteArray := prog_8_method_5_code
def yX6_noNode : MethodName := ⟨RX6, "noNode", "(I)Z"⟩
abbrev cX6_noHeight : ByteArray := prog_8_method_6_code
def yX6_noHeight : MethodName := ⟨RX6, "noHeight", "(I)Z"⟩
abbrev cX6_rule : ByteArray := prog_8_method_7_code
def yX6_rule : MethodName := ⟨RX6, "rule", "(II)I"⟩
abbrev cX6_fund : ByteArray := prog_8_method_8_code
def yX6_fund : MethodName := ⟨RX6, "fund", "(II)I"⟩
abbrev cX6_node : ByteArray := prog_8_method_9_code
def yX6_node : MethodName := ⟨RX6, "node", "(II)I"⟩
abbrev cX6_stake : ByteArray := prog_8_method_10_code
def yX6_stake : MethodName := ⟨RX6, "stake", "(III)I"⟩
abbrev cX6_draw : ByteArray := prog_8_method_11_code
def yX6_draw : MethodName := ⟨RX6, "draw", "(III)I"⟩
abbrev cX6_join : ByteArray := prog_8_method_12_code
def yX6_join : MethodName := ⟨RX6, "join", "(I)I"⟩
abbrev cX6_leave : ByteArray := prog_8_method_13_code
def yX6_leave : MethodName := ⟨RX6, "leave", "(I)I"⟩
abbrev cX6_freeze : ByteArray := prog_8_method_14_code
def yX6_freeze : MethodName := ⟨RX6, "freeze", "(IZ)I"⟩
abbrev cX6_deal : ByteArray := prog_8_method_15_code
def yX6_deal : MethodName := ⟨RX6, "deal", "(II)V"⟩
abbrev cX6_allOf : ByteArray := prog_8_method_16_code
def yX6_allOf : MethodName := ⟨RX6, "allOf", "(I)I"⟩
abbrev cX6_payFor : ByteArray := prog_8_method_17_code
def yX6_payFor : MethodName := ⟨RX6, "payFor", "(I)V"⟩
abbrev cX6_fix : ByteArray := prog_8_method_18_code
def yX6_fix : MethodName := ⟨RX6, "fix", "()V"⟩
abbrev cX6_about5 : ByteArray := prog_8_method_19_code
def yX6_about5 : MethodName := ⟨RX6, "about5", "(I)I"⟩
abbrev cX6_advance : ByteArray := prog_8_method_20_code
def yX6_advance : MethodName := ⟨RX6, "advance", "(I)I"⟩
abbrev cX6_balance : ByteArray := prog_8_method_21_code
def yX6_balance : MethodName := ⟨RX6, "balance", "(I)I"⟩
abbrev cX6_staked : ByteArray := prog_8_method_22_code
def yX6_staked : MethodName := ⟨RX6, "staked", "(II)I"⟩
abbrev cX6_drawnOf : ByteArray := prog_8_method_23_code
def yX6_drawnOf : MethodName := ⟨RX6, "drawnOf", "(I)I"⟩
abbrev cX6_drawn : ByteArray := prog_8_method_24_code
def yX6_drawn : MethodName := ⟨RX6, "drawn", "(II)I"⟩
abbrev cX6_about : ByteArray := prog_8_method_25_code
def yX6_about : MethodName := ⟨RX6, "about", "(II)I"⟩
abbrev cX6_weight : ByteArray := prog_8_method_26_code
def yX6_weight : MethodName := ⟨RX6, "weight", "(II)I"⟩
abbrev cX6_reward : ByteArray := prog_8_method_27_code
def yX6_reward : MethodName := ⟨RX6, "reward", "(II)I"⟩
abbrev cX6_noBits : ByteArray := prog_8_method_28_code
def yX6_noBits : MethodName := ⟨RX6, "noBits", "(I)Z"⟩
abbrev cX6_weightOf : ByteArray := prog_8_method_29_code
def yX6_weightOf : MethodName := ⟨RX6, "weightOf", "(II)I"⟩
abbrev cX6_isGood : ByteArray := prog_8_method_30_code
def yX6_isGood : MethodName := ⟨RX6, "isGood", "(II)Z"⟩
abbrev cX6_may : ByteArray := prog_8_method_31_code
def yX6_may : MethodName := ⟨RX6, "may", "(III)Z"⟩
abbrev cX6_judge : ByteArray := prog_8_method_32_code
def yX6_judge : MethodName := ⟨RX6, "judge", "(II)I"⟩
abbrev cX6_jump : ByteArray := prog_8_method_33_code
def yX6_jump : MethodName := ⟨RX6, "jump", "(III)I"⟩
abbrev cX6_overlap : ByteArray := prog_8_method_34_code
def yX6_overlap : MethodName := ⟨RX6, "overlap", "(II)I"⟩
abbrev cX6_present : ByteArray := prog_8_method_35_code
def yX6_present : MethodName := ⟨RX6, "present", "(I)I"⟩
abbrev cX6_nextOf : ByteArray := prog_8_method_36_code
def yX6_nextOf : MethodName := ⟨RX6, "nextOf", "(II)I"⟩
abbrev cX6_way : ByteArray := prog_8_method_37_code
def yX6_way : MethodName := ⟨RX6, "way", "(III)I"⟩
abbrev cX6_count : ByteArray := prog_8_method_38_code
def yX6_count : MethodName := ⟨RX6, "count", "(I)I"⟩
def RJ9 : String := "java/lang/Math"
def TJ9 : u_T := fun k => match k with
  | _ => ("", "", "", false)
def tyJ9 : Nat → FieldType := fun k => match k with
  | _ => .int
abbrev wsJ90 : List Cond := u_ws RJ9 TJ9 0
theorem nmJ9 : ∀ a, a < 0 → ∀ b, b < 0 → a ≠ b → (TJ9 a).2.1 ≠ (TJ9 b).2.1 := by decide +kernel
theorem tyJ9_ok : ∀ k, k < 0 → parseFieldDescriptor (TJ9 k).2.2.1 = some (tyJ9 k) := by decide +kernel
abbrev cJ9_min_7cf53 : ByteArray := prog_9_method_69_code
def yJ9_min_7cf53 : MethodName := ⟨RJ9, "min", "(II)I"⟩
def RJ10 : String := "java/lang/System"
def TJ10 : u_T := fun k => match k with
  | _ => ("", "", "", false)
def tyJ10 : Nat → FieldType := fun k => match k with
  | _ => .int
abbrev wsJ100 : List Cond := u_ws RJ10 TJ10 0
theorem nmJ10 : ∀ a, a < 0 → ∀ b, b < 0 → a ≠ b → (TJ10 a).2.1 ≠ (TJ10 b).2.1 := by decide +kernel
theorem tyJ10_ok : ∀ k, k < 0 → parseFieldDescriptor (TJ10 k).2.2.1 = some (tyJ10 k) := by decide +kernel
def RL : String := "NodeWeightsLaw"
abbrev cL_law : ByteArray := code
def yL_law : MethodName := ⟨RL, "law", "([I)Z"⟩
def wsJ9_min_7cf53 : List Cond := .code yJ9_min_7cf53 cJ9_min_7cf53 2 (some .int) :: ([])

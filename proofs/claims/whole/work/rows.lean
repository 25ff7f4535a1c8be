section
/-- a private method of a class that the tables say can be made, by its rows of tables_1 -/
def lw_okq (q : MethodName × Nat) : Prop := (q.1.cls ≠ "java/lang/invoke/MethodHandle" ∧ q.1.cls ≠ "java/lang/invoke/VarHandle") ∧ Cond.instantiable q.1.cls q.2 ∈ tables_1 ∧ Cond.privateMethod q.1 ∈ tables_1 ∧ Cond.instanceMethod q.1 ∈ tables_1
theorem lw_p0 : lw_okq (⟨"NodeWeights", "isMove", "(III)Z"⟩, 7) := ⟨⟨by decide +kernel, by decide +kernel⟩, List.mem_of_getElem? (i := 11) (by decide +kernel), List.mem_of_getElem? (i := 187) (by decide +kernel), List.mem_of_getElem? (i := 188) (by decide +kernel)⟩
theorem lw_p1 : lw_okq (⟨"NodeWeights", "beginNextHeight", "()V"⟩, 7) := ⟨⟨by decide +kernel, by decide +kernel⟩, List.mem_of_getElem? (i := 11) (by decide +kernel), List.mem_of_getElem? (i := 221) (by decide +kernel), List.mem_of_getElem? (i := 222) (by decide +kernel)⟩
theorem lw_p2 : lw_okq (⟨"NodeWeights", "giveRewards", "()V"⟩, 7) := ⟨⟨by decide +kernel, by decide +kernel⟩, List.mem_of_getElem? (i := 11) (by decide +kernel), List.mem_of_getElem? (i := 225) (by decide +kernel), List.mem_of_getElem? (i := 226) (by decide +kernel)⟩
theorem lw_p3 : lw_okq (⟨"NodeWeights", "pot", "()I"⟩, 7) := ⟨⟨by decide +kernel, by decide +kernel⟩, List.mem_of_getElem? (i := 11) (by decide +kernel), List.mem_of_getElem? (i := 232) (by decide +kernel), List.mem_of_getElem? (i := 233) (by decide +kernel)⟩
theorem lw_p4 : lw_okq (⟨"NodeWeights", "payNode", "(II)V"⟩, 7) := ⟨⟨by decide +kernel, by decide +kernel⟩, List.mem_of_getElem? (i := 11) (by decide +kernel), List.mem_of_getElem? (i := 248) (by decide +kernel), List.mem_of_getElem? (i := 249) (by decide +kernel)⟩
theorem lw_p5 : lw_okq (⟨"NodeWeights", "fixSet", "()V"⟩, 7) := ⟨⟨by decide +kernel, by decide +kernel⟩, List.mem_of_getElem? (i := 11) (by decide +kernel), List.mem_of_getElem? (i := 261) (by decide +kernel), List.mem_of_getElem? (i := 262) (by decide +kernel)⟩
theorem lw_p6 : lw_okq (⟨"NodeWeights", "hasSet", "(I)Z"⟩, 7) := ⟨⟨by decide +kernel, by decide +kernel⟩, List.mem_of_getElem? (i := 11) (by decide +kernel), List.mem_of_getElem? (i := 310) (by decide +kernel), List.mem_of_getElem? (i := 311) (by decide +kernel)⟩
theorem lw_p7 : lw_okq (⟨"NodeWeights", "isUpward", "(II)Z"⟩, 7) := ⟨⟨by decide +kernel, by decide +kernel⟩, List.mem_of_getElem? (i := 11) (by decide +kernel), List.mem_of_getElem? (i := 342) (by decide +kernel), List.mem_of_getElem? (i := 343) (by decide +kernel)⟩
theorem lw_p8 : lw_okq (⟨"NodeWeightsModel", "noNode", "(I)Z"⟩, 24) := ⟨⟨by decide +kernel, by decide +kernel⟩, List.mem_of_getElem? (i := 399) (by decide +kernel), List.mem_of_getElem? (i := 507) (by decide +kernel), List.mem_of_getElem? (i := 508) (by decide +kernel)⟩
theorem lw_p9 : lw_okq (⟨"NodeWeightsModel", "payFor", "(I)V"⟩, 24) := ⟨⟨by decide +kernel, by decide +kernel⟩, List.mem_of_getElem? (i := 399) (by decide +kernel), List.mem_of_getElem? (i := 531) (by decide +kernel), List.mem_of_getElem? (i := 532) (by decide +kernel)⟩
theorem lw_p10 : lw_okq (⟨"NodeWeightsModel", "allOf", "(I)I"⟩, 24) := ⟨⟨by decide +kernel, by decide +kernel⟩, List.mem_of_getElem? (i := 399) (by decide +kernel), List.mem_of_getElem? (i := 535) (by decide +kernel), List.mem_of_getElem? (i := 536) (by decide +kernel)⟩
theorem lw_p11 : lw_okq (⟨"NodeWeightsModel", "deal", "(II)V"⟩, 24) := ⟨⟨by decide +kernel, by decide +kernel⟩, List.mem_of_getElem? (i := 399) (by decide +kernel), List.mem_of_getElem? (i := 539) (by decide +kernel), List.mem_of_getElem? (i := 540) (by decide +kernel)⟩
theorem lw_p12 : lw_okq (⟨"NodeWeightsModel", "fix", "()V"⟩, 24) := ⟨⟨by decide +kernel, by decide +kernel⟩, List.mem_of_getElem? (i := 399) (by decide +kernel), List.mem_of_getElem? (i := 543) (by decide +kernel), List.mem_of_getElem? (i := 544) (by decide +kernel)⟩
theorem lw_p13 : lw_okq (⟨"NodeWeightsModel", "about5", "(I)I"⟩, 24) := ⟨⟨by decide +kernel, by decide +kernel⟩, List.mem_of_getElem? (i := 399) (by decide +kernel), List.mem_of_getElem? (i := 547) (by decide +kernel), List.mem_of_getElem? (i := 548) (by decide +kernel)⟩
theorem lw_p14 : lw_okq (⟨"NodeWeightsModel", "drawnOf", "(I)I"⟩, 24) := ⟨⟨by decide +kernel, by decide +kernel⟩, List.mem_of_getElem? (i := 399) (by decide +kernel), List.mem_of_getElem? (i := 564) (by decide +kernel), List.mem_of_getElem? (i := 565) (by decide +kernel)⟩
theorem lw_p15 : lw_okq (⟨"NodeWeightsModel", "noHeight", "(I)Z"⟩, 24) := ⟨⟨by decide +kernel, by decide +kernel⟩, List.mem_of_getElem? (i := 399) (by decide +kernel), List.mem_of_getElem? (i := 576) (by decide +kernel), List.mem_of_getElem? (i := 577) (by decide +kernel)⟩
def lw_privs_1 : List (MethodName × Nat) := [(⟨"NodeWeights", "isMove", "(III)Z"⟩, 7), (⟨"NodeWeights", "beginNextHeight", "()V"⟩, 7), (⟨"NodeWeights", "giveRewards", "()V"⟩, 7), (⟨"NodeWeights", "pot", "()I"⟩, 7), (⟨"NodeWeights", "payNode", "(II)V"⟩, 7), (⟨"NodeWeights", "fixSet", "()V"⟩, 7), (⟨"NodeWeights", "hasSet", "(I)Z"⟩, 7), (⟨"NodeWeights", "isUpward", "(II)Z"⟩, 7), (⟨"NodeWeightsModel", "noNode", "(I)Z"⟩, 24), (⟨"NodeWeightsModel", "payFor", "(I)V"⟩, 24), (⟨"NodeWeightsModel", "allOf", "(I)I"⟩, 24), (⟨"NodeWeightsModel", "deal", "(II)V"⟩, 24), (⟨"NodeWeightsModel", "fix", "()V"⟩, 24), (⟨"NodeWeightsModel", "about5", "(I)I"⟩, 24), (⟨"NodeWeightsModel", "drawnOf", "(I)I"⟩, 24), (⟨"NodeWeightsModel", "noHeight", "(I)Z"⟩, 24)]
theorem lw_r1 : ∀ q ∈ lw_privs_1, lw_okq q := List.forall_mem_cons.mpr ⟨lw_p0, List.forall_mem_cons.mpr ⟨lw_p1, List.forall_mem_cons.mpr ⟨lw_p2, List.forall_mem_cons.mpr ⟨lw_p3, List.forall_mem_cons.mpr ⟨lw_p4, List.forall_mem_cons.mpr ⟨lw_p5, List.forall_mem_cons.mpr ⟨lw_p6, List.forall_mem_cons.mpr ⟨lw_p7, List.forall_mem_cons.mpr ⟨lw_p8, List.forall_mem_cons.mpr ⟨lw_p9, List.forall_mem_cons.mpr ⟨lw_p10, List.forall_mem_cons.mpr ⟨lw_p11, List.forall_mem_cons.mpr ⟨lw_p12, List.forall_mem_cons.mpr ⟨lw_p13, List.forall_mem_cons.mpr ⟨lw_p14, List.forall_mem_cons.mpr ⟨lw_p15, fun _ h => absurd h List.not_mem_nil⟩⟩⟩⟩⟩⟩⟩⟩⟩⟩⟩⟩⟩⟩⟩⟩
theorem lw_p16 : lw_okq (⟨"NodeWeightsModel", "noBits", "(I)Z"⟩, 24) := ⟨⟨by decide +kernel, by decide +kernel⟩, List.mem_of_getElem? (i := 399) (by decide +kernel), List.mem_of_getElem? (i := 588) (by decide +kernel), List.mem_of_getElem? (i := 589) (by decide +kernel)⟩
theorem lw_p17 : lw_okq (⟨"NodeWeightsModel", "isGood", "(II)Z"⟩, 24) := ⟨⟨by decide +kernel, by decide +kernel⟩, List.mem_of_getElem? (i := 399) (by decide +kernel), List.mem_of_getElem? (i := 592) (by decide +kernel), List.mem_of_getElem? (i := 593) (by decide +kernel)⟩
theorem lw_p18 : lw_okq (⟨"NodeWeightsModel", "weightOf", "(II)I"⟩, 24) := ⟨⟨by decide +kernel, by decide +kernel⟩, List.mem_of_getElem? (i := 399) (by decide +kernel), List.mem_of_getElem? (i := 597) (by decide +kernel), List.mem_of_getElem? (i := 598) (by decide +kernel)⟩
theorem lw_p19 : lw_okq (⟨"NodeWeightsModel", "may", "(III)Z"⟩, 24) := ⟨⟨by decide +kernel, by decide +kernel⟩, List.mem_of_getElem? (i := 399) (by decide +kernel), List.mem_of_getElem? (i := 606) (by decide +kernel), List.mem_of_getElem? (i := 607) (by decide +kernel)⟩
theorem lw_p20 : lw_okq (⟨"NodeWeightsModel", "nextOf", "(II)I"⟩, 24) := ⟨⟨by decide +kernel, by decide +kernel⟩, List.mem_of_getElem? (i := 399) (by decide +kernel), List.mem_of_getElem? (i := 618) (by decide +kernel), List.mem_of_getElem? (i := 619) (by decide +kernel)⟩
theorem lw_p21 : lw_okq (⟨"NodeWeightsModel", "present", "(I)I"⟩, 24) := ⟨⟨by decide +kernel, by decide +kernel⟩, List.mem_of_getElem? (i := 399) (by decide +kernel), List.mem_of_getElem? (i := 622) (by decide +kernel), List.mem_of_getElem? (i := 623) (by decide +kernel)⟩
def lw_privs_2 : List (MethodName × Nat) := [(⟨"NodeWeightsModel", "noBits", "(I)Z"⟩, 24), (⟨"NodeWeightsModel", "isGood", "(II)Z"⟩, 24), (⟨"NodeWeightsModel", "weightOf", "(II)I"⟩, 24), (⟨"NodeWeightsModel", "may", "(III)Z"⟩, 24), (⟨"NodeWeightsModel", "nextOf", "(II)I"⟩, 24), (⟨"NodeWeightsModel", "present", "(I)I"⟩, 24)]
theorem lw_r2 : ∀ q ∈ lw_privs_2, lw_okq q := List.forall_mem_cons.mpr ⟨lw_p16, List.forall_mem_cons.mpr ⟨lw_p17, List.forall_mem_cons.mpr ⟨lw_p18, List.forall_mem_cons.mpr ⟨lw_p19, List.forall_mem_cons.mpr ⟨lw_p20, List.forall_mem_cons.mpr ⟨lw_p21, fun _ h => absurd h List.not_mem_nil⟩⟩⟩⟩⟩⟩
def lw_privs : List (MethodName × Nat) := lw_privs_1 ++ (lw_privs_2)
def lw_tbl : List Cond := k2_sels lw_privs ++ tables_1
theorem lw_privs_ok : ∀ q ∈ lw_privs, lw_okq q := by
  show ∀ q ∈ lw_privs_1 ++ (lw_privs_2), lw_okq q
  exact List.forall_mem_append.mpr ⟨lw_r1, lw_r2⟩
/-! ===== BEGIN words of one list among another's, by their places ===== -/
theorem goodIn_r {big : List Cond} (ws : List Cond) (ps : List Nat) (hp : ws = ps.filterMap (fun i => big[i]?)) (h : ws.all goodWord = true) : GoodIn big ws := by
  intro w hw
  have h1 := List.all_eq_true.mp h w hw
  rw [hp] at hw
  obtain ⟨i, -, hi⟩ := List.mem_filterMap.mp hw
  have hm : w ∈ big := by first | exact List.mem_of_getElem? hi | exact List.getElem?_mem hi
  exact ⟨hm, good_of_word h1⟩
theorem goodIn_app {big a b : List Cond} (ha : GoodIn big a) (hb : GoodIn big b) : GoodIn big (a ++ b) := fun w h => (List.mem_append.mp h).elim (ha w) (hb w)
theorem goodIn_ca {big a b : List Cond} {c : Cond} (ha : GoodIn big (c :: a)) (hb : GoodIn big b) : GoodIn big (c :: (a ++ b)) := fun w h => (List.mem_cons.mp h).elim (fun e => ha w (List.mem_cons.mpr (Or.inl e))) (fun h => (List.mem_append.mp h).elim (fun h => ha w (List.mem_cons.mpr (Or.inr h))) (hb w))
theorem goodIn_sub {big ws : List Cond} (hm : ∀ w ∈ ws, w ∈ big) (h : ws.all goodWord = true) : GoodIn big ws := fun w hw => ⟨hm w hw, good_of_word (List.all_eq_true.mp h w hw)⟩
/-! ===== END ===== -/

/-! ===== BEGIN printed: names, fields, word lists, decode rows ===== -/
def RX0 : String := "NodeWeights$Book"
def TX0 : u_T := fun k => match k with
  | 0 => ("NodeWeights$Book", "funded", "I", false)
  | 1 => ("NodeWeights$Book", "rewarded", "I", false)
  | 2 => ("NodeWeights$Book", "balance", "[I", true)
  | 3 => ("NodeWeights$Book", "stakes", "[I", true)
  | _ => ("NodeWeights$Book", "due", "[I", true)
def tyX0 : Nat → FieldType := fun k => match k with
  | 0 => .int
  | 1 => .int
  | 2 => .array .int
  | 3 => .array .int
  | _ => .array .int
abbrev wsX00 : List Cond := u_ws RX0 TX0 5
theorem nmX0 : ∀ a, a < 5 → ∀ b, b < 5 → a ≠ b → (TX0 a).2.1 ≠ (TX0 b).2.1 := by decide +kernel
theorem tyX0_ok : ∀ k, k < 5 → parseFieldDescriptor (TX0 k).2.2.1 = some (tyX0 k) := by decide +kernel
abbrev cX0_init : ByteArray := prog_2_method_1_code
def yX0_init : MethodName := ⟨RX0, "<init>", "()V"⟩
abbrev cX0_payDue : ByteArray := prog_2_method_2_code
def yX0_payDue : MethodName := ⟨RX0, "payDue", "(I)V"⟩
abbrev cX0_stakesOfNode : ByteArray := prog_2_method_3_code
def yX0_stakesOfNode : MethodName := ⟨RX0, "stakesOfNode", "(I)I"⟩
abbrev cX0_stakesOfAccount : ByteArray := prog_2_method_4_code
def yX0_stakesOfAccount : MethodName := ⟨RX0, "stakesOfAccount", "(I)I"⟩
abbrev cX0_dueOfAccount : ByteArray := prog_2_method_5_code
def yX0_dueOfAccount : MethodName := ⟨RX0, "dueOfAccount", "(I)I"⟩
abbrev cX0_allBalances : ByteArray := prog_2_method_6_code
def yX0_allBalances : MethodName := ⟨RX0, "allBalances", "()I"⟩
abbrev cX0_allStakes : ByteArray := prog_2_method_7_code
def yX0_allStakes : MethodName := ⟨RX0, "allStakes", "()I"⟩
abbrev cX0_allDue : ByteArray := prog_2_method_8_code
def yX0_allDue : MethodName := ⟨RX0, "allDue", "()I"⟩
def RX1 : String := "NodeWeights$Nodes"
def TX1 : u_T := fun k => match k with
  | 0 => ("NodeWeights$Nodes", "size", "I", false)
  | 1 => ("NodeWeights$Nodes", "keeper", "[I", true)
  | 2 => ("NodeWeights$Nodes", "cut", "[I", true)
  | 3 => ("NodeWeights$Nodes", "state", "[I", true)
  | 4 => ("NodeWeights$Nodes", "leavesAt", "[I", true)
  | _ => ("NodeWeights$Nodes", "frozen", "[Z", true)
def tyX1 : Nat → FieldType := fun k => match k with
  | 0 => .int
  | 1 => .array .int
  | 2 => .array .int
  | 3 => .array .int
  | 4 => .array .int
  | _ => .array .boolean
abbrev wsX10 : List Cond := u_ws RX1 TX1 6
theorem nmX1 : ∀ a, a < 6 → ∀ b, b < 6 → a ≠ b → (TX1 a).2.1 ≠ (TX1 b).2.1 := by decide +kernel
theorem tyX1_ok : ∀ k, k < 6 → parseFieldDescriptor (TX1 k).2.2.1 = some (tyX1 k) := by decide +kernel
abbrev cX1_init : ByteArray := prog_3_method_1_code
def yX1_init : MethodName := ⟨RX1, "<init>", "()V"⟩
abbrev cX1_has : ByteArray := prog_3_method_2_code
def yX1_has : MethodName := ⟨RX1, "has", "(I)Z"⟩
abbrev cX1_haveAll : ByteArray := prog_3_method_3_code
def yX1_haveAll : MethodName := ⟨RX1, "haveAll", "(I)Z"⟩
abbrev cX1_counts : ByteArray := prog_3_method_4_code
def yX1_counts : MethodName := ⟨RX1, "counts", "(I)Z"⟩
abbrev cX1_open : ByteArray := prog_3_method_5_code
def yX1_open : MethodName := ⟨RX1, "open", "(II)I"⟩
abbrev cX1_settle : ByteArray := prog_3_method_6_code
def yX1_settle : MethodName := ⟨RX1, "settle", "(I)V"⟩
def RX2 : String := "NodeWeights$Sets"
def TX2 : u_T := fun k => match k with
  | 0 => ("NodeWeights$Sets", "weights", "[I", true)
  | 1 => ("NodeWeights$Sets", "rewards", "[I", true)
  | 2 => ("NodeWeights$Sets", "all", "[I", true)
  | 3 => ("NodeWeights$Sets", "bearers", "[I", true)
  | _ => ("NodeWeights$Sets", "fixedStakes", "[I", true)
def tyX2 : Nat → FieldType := fun k => match k with
  | 0 => .array .int
  | 1 => .array .int
  | 2 => .array .int
  | 3 => .array .int
  | _ => .array .int
abbrev wsX20 : List Cond := u_ws RX2 TX2 5
theorem nmX2 : ∀ a, a < 5 → ∀ b, b < 5 → a ≠ b → (TX2 a).2.1 ≠ (TX2 b).2.1 := by decide +kernel
theorem tyX2_ok : ∀ k, k < 5 → parseFieldDescriptor (TX2 k).2.2.1 = some (tyX2 k) := by decide +kernel
abbrev cX2_init : ByteArray := prog_4_method_1_code
def yX2_init : MethodName := ⟨RX2, "<init>", "()V"⟩
abbrev cX2_enter : ByteArray := prog_4_method_2_code
def yX2_enter : MethodName := ⟨RX2, "enter", "(III)V"⟩
abbrev cX2_rewardsOf : ByteArray := prog_4_method_3_code
def yX2_rewardsOf : MethodName := ⟨RX2, "rewardsOf", "(I)I"⟩
abbrev cX2_weightOf : ByteArray := prog_4_method_4_code
def yX2_weightOf : MethodName := ⟨RX2, "weightOf", "(II)I"⟩
abbrev cX2_commonWeight : ByteArray := prog_4_method_5_code
def yX2_commonWeight : MethodName := ⟨RX2, "commonWeight", "(II)I"⟩
abbrev cX2_isGood : ByteArray := prog_4_method_6_code
def yX2_isGood : MethodName := ⟨RX2, "isGood", "(II)Z"⟩
abbrev cX2_allowsJump : ByteArray := prog_4_method_7_code
def yX2_allowsJump : MethodName := ⟨RX2, "allowsJump", "(III)Z"⟩
def RX3 : String := "NodeWeights$Sharer"
def TX3 : u_T := fun k => match k with
  | 0 => ("NodeWeights$Sharer", "given", "[I", true)
  | _ => ("NodeWeights$Sharer", "rest", "[J", true)
def tyX3 : Nat → FieldType := fun k => match k with
  | 0 => .array .int
  | _ => .array .long
abbrev wsX30 : List Cond := u_ws RX3 TX3 2
theorem nmX3 : ∀ a, a < 2 → ∀ b, b < 2 → a ≠ b → (TX3 a).2.1 ≠ (TX3 b).2.1 := by decide +kernel
theorem tyX3_ok : ∀ k, k < 2 → parseFieldDescriptor (TX3 k).2.2.1 = some (tyX3 k) := by decide +kernel
abbrev cX3_init : ByteArray := prog_5_method_1_code
def yX3_init : MethodName := ⟨RX3, "<init>", "()V"⟩
abbrev cX3_split : ByteArray := prog_5_method_2_code
def yX3_split : MethodName := ⟨RX3, "split", "(I[III)V"⟩
abbrev cX3_giveOneByRest : ByteArray := prog_5_method_3_code
def yX3_giveOneByRest : MethodName := ⟨RX3, "giveOneByRest", "(I)V"⟩
def RX4 : String := "NodeWeights$Ways"
def TX4 : u_T := fun k => match k with
  | 0 => ("NodeWeights$Ways", "jumps", "[I", true)
  | _ => ("NodeWeights$Ways", "next", "[I", true)
def tyX4 : Nat → FieldType := fun k => match k with
  | 0 => .array .int
  | _ => .array .int
abbrev wsX40 : List Cond := u_ws RX4 TX4 2
theorem nmX4 : ∀ a, a < 2 → ∀ b, b < 2 → a ≠ b → (TX4 a).2.1 ≠ (TX4 b).2.1 := by decide +kernel
theorem tyX4_ok : ∀ k, k < 2 → parseFieldDescriptor (TX4 k).2.2.1 = some (tyX4 k) := by decide +kernel
abbrev cX4_init : ByteArray := prog_6_method_1_code
def yX4_init : MethodName := ⟨RX4, "<init>", "()V"⟩
abbrev cX4_plan : ByteArray := prog_6_method_2_code
def yX4_plan : MethodName := ⟨RX4, "plan", "(LNodeWeights$Sets;II)V"⟩
abbrev cX4_planFrom : ByteArray := prog_6_method_3_code
def yX4_planFrom : MethodName := ⟨RX4, "planFrom", "(LNodeWeights$Sets;II)V"⟩
abbrev cX4_isShorter : ByteArray := prog_6_method_4_code
def yX4_isShorter : MethodName := ⟨RX4, "isShorter", "(II)Z"⟩
abbrev cX4_heightAt : ByteArray := prog_6_method_5_code
def yX4_heightAt : MethodName := ⟨RX4, "heightAt", "(III)I"⟩
def RX5 : String := "NodeWeights"
def TX5 : u_T := fun k => match k with
  | 0 => ("NodeWeights", "now", "I", false)
  | 1 => ("NodeWeights", "rules", "[I", true)
  | 2 => ("NodeWeights", "book", "LNodeWeights$Book;", true)
  | 3 => ("NodeWeights", "nodes", "LNodeWeights$Nodes;", true)
  | 4 => ("NodeWeights", "sets", "LNodeWeights$Sets;", true)
  | 5 => ("NodeWeights", "sharer", "LNodeWeights$Sharer;", true)
  | _ => ("NodeWeights", "ways", "LNodeWeights$Ways;", true)
def tyX5 : Nat → FieldType := fun k => match k with
  | 0 => .int
  | 1 => .array .int
  | 2 => .object "NodeWeights$Book"
  | 3 => .object "NodeWeights$Nodes"
  | 4 => .object "NodeWeights$Sets"
  | 5 => .object "NodeWeights$Sharer"
  | _ => .object "NodeWeights$Ways"
abbrev wsX50 : List Cond := u_ws RX5 TX5 7
theorem nmX5 : ∀ a, a < 7 → ∀ b, b < 7 → a ≠ b → (TX5 a).2.1 ≠ (TX5 b).2.1 := by decide +kernel
theorem tyX5_ok : ∀ k, k < 7 → parseFieldDescriptor (TX5 k).2.2.1 = some (tyX5 k) := by decide +kernel
abbrev cX5_init : ByteArray := prog_1_method_1_code
def yX5_init : MethodName := ⟨RX5, "<init>", "()V"⟩
abbrev cX5_rule : ByteArray := prog_1_method_2_code
def yX5_rule : MethodName := ⟨RX5, "rule", "(II)I"⟩
abbrev cX5_fund : ByteArray := prog_1_method_3_code
def yX5_fund : MethodName := ⟨RX5, "fund", "(II)I"⟩
abbrev cX5_node : ByteArray := prog_1_method_4_code
def yX5_node : MethodName := ⟨RX5, "node", "(II)I"⟩
abbrev cX5_stake : ByteArray := prog_1_method_5_code
def yX5_stake : MethodName := ⟨RX5, "stake", "(III)I"⟩
abbrev cX5_draw : ByteArray := prog_1_method_6_code
def yX5_draw : MethodName := ⟨RX5, "draw", "(III)I"⟩
abbrev cX5_join : ByteArray := prog_1_method_7_code
def yX5_join : MethodName := ⟨RX5, "join", "(I)I"⟩
abbrev cX5_leave : ByteArray := prog_1_method_8_code
def yX5_leave : MethodName := ⟨RX5, "leave", "(I)I"⟩
abbrev cX5_freeze : ByteArray := prog_1_method_9_code
def yX5_freeze : MethodName := ⟨RX5, "freeze", "(IZ)I"⟩
abbrev cX5_advance : ByteArray := prog_1_method_10_code
def yX5_advance : MethodName := ⟨RX5, "advance", "(I)I"⟩
abbrev cX5_balance : ByteArray := prog_1_method_11_code
def yX5_balance : MethodName := ⟨RX5, "balance", "(I)I"⟩
abbrev cX5_staked : ByteArray := prog_1_method_12_code
def yX5_staked : MethodName := ⟨RX5, "staked", "(II)I"⟩
abbrev cX5_drawn : ByteArray := prog_1_method_13_code
def yX5_drawn : MethodName := ⟨RX5, "drawn", "(II)I"⟩
abbrev cX5_about : ByteArray := prog_1_method_14_code
def yX5_about : MethodName := ⟨RX5, "about", "(II)I"⟩
abbrev cX5_weight : ByteArray := prog_1_method_15_code
def yX5_weight : MethodName := ⟨RX5, "weight", "(II)I"⟩
abbrev cX5_reward : ByteArray := prog_1_method_16_code
def yX5_reward : MethodName := ⟨RX5, "reward", "(II)I"⟩
abbrev cX5_judge : ByteArray := prog_1_method_17_code
def yX5_judge : MethodName := ⟨RX5, "judge", "(II)I"⟩
abbrev cX5_jump : ByteArray := prog_1_method_18_code
def yX5_jump : MethodName := ⟨RX5, "jump", "(III)I"⟩
abbrev cX5_overlap : ByteArray := prog_1_method_19_code
def yX5_overlap : MethodName := ⟨RX5, "overlap", "(II)I"⟩
abbrev cX5_way : ByteArray := prog_1_method_20_code
def yX5_way : MethodName := ⟨RX5, "way", "(III)I"⟩
abbrev cX5_count : ByteArray := prog_1_method_21_code
def yX5_count : MethodName := ⟨RX5, "count", "(I)I"⟩
abbrev cX5_isWithin : ByteArray := prog_1_method_22_code
def yX5_isWithin : MethodName := ⟨RX5, "isWithin", "(III)Z"⟩
abbrev cX5_isAccount : ByteArray := prog_1_method_23_code
def yX5_isAccount : MethodName := ⟨RX5, "isAccount", "(I)Z"⟩
abbrev cX5_isMove : ByteArray := prog_1_method_24_code
def yX5_isMove : MethodName := ⟨RX5, "isMove", "(III)Z"⟩
abbrev cX5_hasSet : ByteArray := prog_1_method_25_code
def yX5_hasSet : MethodName := ⟨RX5, "hasSet", "(I)Z"⟩
abbrev cX5_isUpward : ByteArray := prog_1_method_26_code
def yX5_isUpward : MethodName := ⟨RX5, "isUpward", "(II)Z"⟩
abbrev cX5_stakePlace : ByteArray := prog_1_method_27_code
def yX5_stakePlace : MethodName := ⟨RX5, "stakePlace", "(II)I"⟩
abbrev cX5_duePlace : ByteArray := prog_1_method_28_code
def yX5_duePlace : MethodName := ⟨RX5, "duePlace", "(II)I"⟩
abbrev cX5_setPlace : ByteArray := prog_1_method_29_code
def yX5_setPlace : MethodName := ⟨RX5, "setPlace", "(II)I"⟩
abbrev cX5_beginNextHeight : ByteArray := prog_1_method_30_code
def yX5_beginNextHeight : MethodName := ⟨RX5, "beginNextHeight", "()V"⟩
abbrev cX5_giveRewards : ByteArray := prog_1_method_31_code
def yX5_giveRewards : MethodName := ⟨RX5, "giveRewards", "()V"⟩
abbrev cX5_pot : ByteArray := prog_1_method_32_code
def yX5_pot : MethodName := ⟨RX5, "pot", "()I"⟩
abbrev cX5_payNode : ByteArray := prog_1_method_33_code
def yX5_payNode : MethodName := ⟨RX5, "payNode", "(II)V"⟩
abbrev cX5_fixSet : ByteArray := prog_1_method_34_code
def yX5_fixSet : MethodName := ⟨RX5, "fixSet", "()V"⟩
def RX6 : String := "NodeWeightsModel"
def TX6 : u_T := fun k => match k with
  | 0 => ("NodeWeightsModel", "thrown", "I", false)
  | 1 => ("NodeWeightsModel", "height", "I", false)
  | 2 => ("NodeWeightsModel", "wait", "I", false)
  | 3 => ("NodeWeightsModel", "reward", "I", false)
  | 4 => ("NodeWeightsModel", "halving", "I", false)
  | 5 => ("NodeWeightsModel", "bound", "I", false)
  | 6 => ("NodeWeightsModel", "balance", "[I", true)
  | 7 => ("NodeWeightsModel", "given", "I", false)
  | 8 => ("NodeWeightsModel", "rewarded", "I", false)
  | 9 => ("NodeWeightsModel", "nodes", "I", false)
  | 10 => ("NodeWeightsModel", "keeper", "[I", true)
  | 11 => ("NodeWeightsModel", "cut", "[I", true)
  | 12 => ("NodeWeightsModel", "state", "[I", true)
  | 13 => ("NodeWeightsModel", "due", "[I", true)
  | 14 => ("NodeWeightsModel", "isFrozen", "[Z", true)
  | 15 => ("NodeWeightsModel", "stake", "[I", true)
  | 16 => ("NodeWeightsModel", "then", "[I", true)
  | 17 => ("NodeWeightsModel", "drawn", "[I", true)
  | 18 => ("NodeWeightsModel", "weight", "[I", true)
  | 19 => ("NodeWeightsModel", "share", "[I", true)
  | 20 => ("NodeWeightsModel", "pots", "[I", true)
  | 21 => ("NodeWeightsModel", "part", "[J", true)
  | 22 => ("NodeWeightsModel", "dealt", "[I", true)
  | _ => ("NodeWeightsModel", "jumps", "[I", true)
def tyX6 : Nat → FieldType := fun k => match k with
  | 0 => .int
  | 1 => .int
  | 2 => .int
  | 3 => .int
  | 4 => .int
  | 5 => .int
  | 6 => .array .int
  | 7 => .int
  | 8 => .int
  | 9 => .int
  | 10 => .array .int
  | 11 => .array .int
  | 12 => .array .int
  | 13 => .array .int
  | 14 => .array .boolean
  | 15 => .array .int
  | 16 => .array .int
  | 17 => .array .int
  | 18 => .array .int
  | 19 => .array .int
  | 20 => .array .int
  | 21 => .array .long
  | 22 => .array .int
  | _ => .array .int
abbrev wsX60 : List Cond := u_ws RX6 TX6 24
theorem nmX6 : ∀ a, a < 24 → ∀ b, b < 24 → a ≠ b → (TX6 a).2.1 ≠ (TX6 b).2.1 := by decide +kernel
theorem tyX6_ok : ∀ k, k < 24 → parseFieldDescriptor (TX6 k).2.2.1 = some (tyX6 k) := by decide +kernel
abbrev cX6_in : ByteArray := prog_8_method_2_code
def yX6_in : MethodName := ⟨RX6, "in", "(JJJ)Z"⟩
abbrev cX6_init : ByteArray := prog_8_method_3_code
def yX6_init : MethodName := ⟨RX6, "<init>", "()V"⟩
abbrev cX6_noAccount : ByteArray := prog_8_method_4_code
def yX6_noAccount : MethodName := ⟨RX6, "noAccount", "(I)Z"⟩
abbrev cX6_noNode : ByteArray := prog_8_method_5_code
def yX6_noNode : MethodName := ⟨RX6, "noNode", "(I)Z"⟩
abbrev cX6_noHeight : ByteArray := prog_8_method_6_code
def yX6_noHeight : MethodName := ⟨RX6, "noHeight", "(I)Z"⟩
abbrev cX6_rule : ByteArray := prog_8_method_7_code
def yX6_rule : MethodName := ⟨RX6, "rule", "(II)I"⟩
abbrev cX6_fund : ByteArray := prog_8_method_8_code
def yX6_fund : MethodName := ⟨RX6, "fund", "(II)I"⟩
abbrev cX6_node : ByteArray := prog_8_method_9_code
def yX6_node : MethodName := ⟨RX6, "node", "(II)I"⟩
abbrev cX6_stake : ByteArray := prog_8_method_10_code
def yX6_stake : MethodName := ⟨RX6, "stake", "(III)I"⟩
abbrev cX6_draw : ByteArray := prog_8_method_11_code
def yX6_draw : MethodName := ⟨RX6, "draw", "(III)I"⟩
abbrev cX6_join : ByteArray := prog_8_method_12_code
def yX6_join : MethodName := ⟨RX6, "join", "(I)I"⟩
abbrev cX6_leave : ByteArray := prog_8_method_13_code
def yX6_leave : MethodName := ⟨RX6, "leave", "(I)I"⟩
abbrev cX6_freeze : ByteArray := prog_8_method_14_code
def yX6_freeze : MethodName := ⟨RX6, "freeze", "(IZ)I"⟩
abbrev cX6_deal : ByteArray := prog_8_method_15_code
def yX6_deal : MethodName := ⟨RX6, "deal", "(II)V"⟩
abbrev cX6_allOf : ByteArray := prog_8_method_16_code
def yX6_allOf : MethodName := ⟨RX6, "allOf", "(I)I"⟩
abbrev cX6_payFor : ByteArray := prog_8_method_17_code
def yX6_payFor : MethodName := ⟨RX6, "payFor", "(I)V"⟩
abbrev cX6_fix : ByteArray := prog_8_method_18_code
def yX6_fix : MethodName := ⟨RX6, "fix", "()V"⟩
abbrev cX6_about5 : ByteArray := prog_8_method_19_code
def yX6_about5 : MethodName := ⟨RX6, "about5", "(I)I"⟩
abbrev cX6_advance : ByteArray := prog_8_method_20_code
def yX6_advance : MethodName := ⟨RX6, "advance", "(I)I"⟩
abbrev cX6_balance : ByteArray := prog_8_method_21_code
def yX6_balance : MethodName := ⟨RX6, "balance", "(I)I"⟩
abbrev cX6_staked : ByteArray := prog_8_method_22_code
def yX6_staked : MethodName := ⟨RX6, "staked", "(II)I"⟩
abbrev cX6_drawnOf : ByteArray := prog_8_method_23_code
def yX6_drawnOf : MethodName := ⟨RX6, "drawnOf", "(I)I"⟩
abbrev cX6_drawn : ByteArray := prog_8_method_24_code
def yX6_drawn : MethodName := ⟨RX6, "drawn", "(II)I"⟩
abbrev cX6_about : ByteArray := prog_8_method_25_code
def yX6_about : MethodName := ⟨RX6, "about", "(II)I"⟩
abbrev cX6_weight : ByteArray := prog_8_method_26_code
def yX6_weight : MethodName := ⟨RX6, "weight", "(II)I"⟩
abbrev cX6_reward : ByteArray := prog_8_method_27_code
def yX6_reward : MethodName := ⟨RX6, "reward", "(II)I"⟩
abbrev cX6_noBits : ByteArray := prog_8_method_28_code
def yX6_noBits : MethodName := ⟨RX6, "noBits", "(I)Z"⟩
abbrev cX6_weightOf : ByteArray := prog_8_method_29_code
def yX6_weightOf : MethodName := ⟨RX6, "weightOf", "(II)I"⟩
abbrev cX6_isGood : ByteArray := prog_8_method_30_code
def yX6_isGood : MethodName := ⟨RX6, "isGood", "(II)Z"⟩
abbrev cX6_may : ByteArray := prog_8_method_31_code
def yX6_may : MethodName := ⟨RX6, "may", "(III)Z"⟩
abbrev cX6_judge : ByteArray := prog_8_method_32_code
def yX6_judge : MethodName := ⟨RX6, "judge", "(II)I"⟩
abbrev cX6_jump : ByteArray := prog_8_method_33_code
def yX6_jump : MethodName := ⟨RX6, "jump", "(III)I"⟩
abbrev cX6_overlap : ByteArray := prog_8_method_34_code
def yX6_overlap : MethodName := ⟨RX6, "overlap", "(II)I"⟩
abbrev cX6_present : ByteArray := prog_8_method_35_code
def yX6_present : MethodName := ⟨RX6, "present", "(I)I"⟩
abbrev cX6_nextOf : ByteArray := prog_8_method_36_code
def yX6_nextOf : MethodName := ⟨RX6, "nextOf", "(II)I"⟩
abbrev cX6_way : ByteArray := prog_8_method_37_code
def yX6_way : MethodName := ⟨RX6, "way", "(III)I"⟩
abbrev cX6_count : ByteArray := prog_8_method_38_code
def yX6_count : MethodName := ⟨RX6, "count", "(I)I"⟩
def RJ9 : String := "java/lang/Math"
def TJ9 : u_T := fun k => match k with
  | _ => ("", "", "", false)
def tyJ9 : Nat → FieldType := fun k => match k with
  | _ => .int
abbrev wsJ90 : List Cond := u_ws RJ9 TJ9 0
theorem nmJ9 : ∀ a, a < 0 → ∀ b, b < 0 → a ≠ b → (TJ9 a).2.1 ≠ (TJ9 b).2.1 := by decide +kernel
theorem tyJ9_ok : ∀ k, k < 0 → parseFieldDescriptor (TJ9 k).2.2.1 = some (tyJ9 k) := by decide +kernel
abbrev cJ9_min_7cf53 : ByteArray := prog_9_method_69_code
def yJ9_min_7cf53 : MethodName := ⟨RJ9, "min", "(II)I"⟩
def RJ10 : String := "java/lang/System"
def TJ10 : u_T := fun k => match k with
  | _ => ("", "", "", false)
def tyJ10 : Nat → FieldType := fun k => match k with
  | _ => .int
abbrev wsJ100 : List Cond := u_ws RJ10 TJ10 0
theorem nmJ10 : ∀ a, a < 0 → ∀ b, b < 0 → a ≠ b → (TJ10 a).2.1 ≠ (TJ10 b).2.1 := by decide +kernel
theorem tyJ10_ok : ∀ k, k < 0 → parseFieldDescriptor (TJ10 k).2.2.1 = some (tyJ10 k) := by decide +kernel
def RL : String := "NodeWeightsLaw"
abbrev cL_law : ByteArray := code
def yL_law : MethodName := ⟨RL, "law", "([I)Z"⟩
def wsJ9_min_7cf53 : List Cond := .code yJ9_min_7cf53 cJ9_min_7cf53 2 (some .int) :: ([])
end
section
theorem dX0_init_0 : decode cX0_init 0 = .ok (.aload_n 0, 1) := by decide +kernel
theorem dX0_init_1 : decode cX0_init 1 = .ok (.invokespecial 3, 3) := by decide +kernel
theorem dX0_init_4 : decode cX0_init 4 = .ok (.aload_n 0, 1) := by decide +kernel
theorem dX0_init_5 : decode cX0_init 5 = .ok (.bipush 10, 2) := by decide +kernel
theorem dX0_init_7 : decode cX0_init 7 = .ok (.newarray .int, 2) := by decide +kernel
theorem dX0_init_9 : decode cX0_init 9 = .ok (.putfield 9, 3) := by decide +kernel
theorem dX0_init_12 : decode cX0_init 12 = .ok (.aload_n 0, 1) := by decide +kernel
theorem dX0_init_13 : decode cX0_init 13 = .ok (.bipush 80, 2) := by decide +kernel
theorem dX0_init_15 : decode cX0_init 15 = .ok (.newarray .int, 2) := by decide +kernel
theorem dX0_init_17 : decode cX0_init 17 = .ok (.putfield 15, 3) := by decide +kernel
theorem dX0_init_20 : decode cX0_init 20 = .ok (.aload_n 0, 1) := by decide +kernel
theorem dX0_init_21 : decode cX0_init 21 = .ok (.sipush 1100, 3) := by decide +kernel
theorem dX0_init_24 : decode cX0_init 24 = .ok (.newarray .int, 2) := by decide +kernel
theorem dX0_init_26 : decode cX0_init 26 = .ok (.putfield 18, 3) := by decide +kernel
theorem dX0_init_29 : decode cX0_init 29 = .ok (.return_, 1) := by decide +kernel
theorem dX0_payDue_0 : decode cX0_payDue 0 = .ok (.iconst 0, 1) := by decide +kernel
theorem dX0_payDue_1 : decode cX0_payDue 1 = .ok (.istore_n 2, 1) := by decide +kernel
theorem dX0_payDue_2 : decode cX0_payDue 2 = .ok (.iload_n 2, 1) := by decide +kernel
theorem dX0_payDue_3 : decode cX0_payDue 3 = .ok (.bipush 10, 2) := by decide +kernel
theorem dX0_payDue_5 : decode cX0_payDue 5 = .ok (.if_icmp .ge 37, 3) := by decide +kernel
theorem dX0_payDue_8 : decode cX0_payDue 8 = .ok (.iload_n 2, 1) := by decide +kernel
theorem dX0_payDue_9 : decode cX0_payDue 9 = .ok (.iload_n 1, 1) := by decide +kernel
theorem dX0_payDue_10 : decode cX0_payDue 10 = .ok (.invokestatic 21, 3) := by decide +kernel
theorem dX0_payDue_13 : decode cX0_payDue 13 = .ok (.istore_n 3, 1) := by decide +kernel
theorem dX0_payDue_14 : decode cX0_payDue 14 = .ok (.aload_n 0, 1) := by decide +kernel
theorem dX0_payDue_15 : decode cX0_payDue 15 = .ok (.getfield 9, 3) := by decide +kernel
theorem dX0_payDue_18 : decode cX0_payDue 18 = .ok (.iload_n 2, 1) := by decide +kernel
theorem dX0_payDue_19 : decode cX0_payDue 19 = .ok (.dup2, 1) := by decide +kernel
theorem dX0_payDue_20 : decode cX0_payDue 20 = .ok (.iaload, 1) := by decide +kernel
theorem dX0_payDue_21 : decode cX0_payDue 21 = .ok (.aload_n 0, 1) := by decide +kernel
theorem dX0_payDue_22 : decode cX0_payDue 22 = .ok (.getfield 18, 3) := by decide +kernel
theorem dX0_payDue_25 : decode cX0_payDue 25 = .ok (.iload_n 3, 1) := by decide +kernel
theorem dX0_payDue_26 : decode cX0_payDue 26 = .ok (.iaload, 1) := by decide +kernel
theorem dX0_payDue_27 : decode cX0_payDue 27 = .ok (.iadd, 1) := by decide +kernel
theorem dX0_payDue_28 : decode cX0_payDue 28 = .ok (.iastore, 1) := by decide +kernel
theorem dX0_payDue_29 : decode cX0_payDue 29 = .ok (.aload_n 0, 1) := by decide +kernel
theorem dX0_payDue_30 : decode cX0_payDue 30 = .ok (.getfield 18, 3) := by decide +kernel
theorem dX0_payDue_33 : decode cX0_payDue 33 = .ok (.iload_n 3, 1) := by decide +kernel
theorem dX0_payDue_34 : decode cX0_payDue 34 = .ok (.iconst 0, 1) := by decide +kernel
theorem dX0_payDue_35 : decode cX0_payDue 35 = .ok (.iastore, 1) := by decide +kernel
theorem dX0_payDue_36 : decode cX0_payDue 36 = .ok (.iinc 2 1, 3) := by decide +kernel
theorem dX0_payDue_39 : decode cX0_payDue 39 = .ok (.goto (-37), 3) := by decide +kernel
theorem dX0_payDue_42 : decode cX0_payDue 42 = .ok (.return_, 1) := by decide +kernel
theorem dX0_stakesOfNode_0 : decode cX0_stakesOfNode 0 = .ok (.iconst 0, 1) := by decide +kernel
theorem dX0_stakesOfNode_1 : decode cX0_stakesOfNode 1 = .ok (.istore_n 2, 1) := by decide +kernel
theorem dX0_stakesOfNode_2 : decode cX0_stakesOfNode 2 = .ok (.iconst 0, 1) := by decide +kernel
theorem dX0_stakesOfNode_3 : decode cX0_stakesOfNode 3 = .ok (.istore_n 3, 1) := by decide +kernel
theorem dX0_stakesOfNode_4 : decode cX0_stakesOfNode 4 = .ok (.iload_n 3, 1) := by decide +kernel
theorem dX0_stakesOfNode_5 : decode cX0_stakesOfNode 5 = .ok (.bipush 10, 2) := by decide +kernel
theorem dX0_stakesOfNode_7 : decode cX0_stakesOfNode 7 = .ok (.if_icmp .ge 22, 3) := by decide +kernel
theorem dX0_stakesOfNode_10 : decode cX0_stakesOfNode 10 = .ok (.iload_n 2, 1) := by decide +kernel
theorem dX0_stakesOfNode_11 : decode cX0_stakesOfNode 11 = .ok (.aload_n 0, 1) := by decide +kernel
theorem dX0_stakesOfNode_12 : decode cX0_stakesOfNode 12 = .ok (.getfield 15, 3) := by decide +kernel
theorem dX0_stakesOfNode_15 : decode cX0_stakesOfNode 15 = .ok (.iload_n 1, 1) := by decide +kernel
theorem dX0_stakesOfNode_16 : decode cX0_stakesOfNode 16 = .ok (.iload_n 3, 1) := by decide +kernel
theorem dX0_stakesOfNode_17 : decode cX0_stakesOfNode 17 = .ok (.invokestatic 25, 3) := by decide +kernel
theorem dX0_stakesOfNode_20 : decode cX0_stakesOfNode 20 = .ok (.iaload, 1) := by decide +kernel
theorem dX0_stakesOfNode_21 : decode cX0_stakesOfNode 21 = .ok (.iadd, 1) := by decide +kernel
theorem dX0_stakesOfNode_22 : decode cX0_stakesOfNode 22 = .ok (.istore_n 2, 1) := by decide +kernel
theorem dX0_stakesOfNode_23 : decode cX0_stakesOfNode 23 = .ok (.iinc 3 1, 3) := by decide +kernel
theorem dX0_stakesOfNode_26 : decode cX0_stakesOfNode 26 = .ok (.goto (-22), 3) := by decide +kernel
theorem dX0_stakesOfNode_29 : decode cX0_stakesOfNode 29 = .ok (.iload_n 2, 1) := by decide +kernel
theorem dX0_stakesOfNode_30 : decode cX0_stakesOfNode 30 = .ok (.ireturn, 1) := by decide +kernel
theorem dX0_stakesOfAccount_0 : decode cX0_stakesOfAccount 0 = .ok (.iconst 0, 1) := by decide +kernel
theorem dX0_stakesOfAccount_1 : decode cX0_stakesOfAccount 1 = .ok (.istore_n 2, 1) := by decide +kernel
theorem dX0_stakesOfAccount_2 : decode cX0_stakesOfAccount 2 = .ok (.iconst 0, 1) := by decide +kernel
theorem dX0_stakesOfAccount_3 : decode cX0_stakesOfAccount 3 = .ok (.istore_n 3, 1) := by decide +kernel
theorem dX0_stakesOfAccount_4 : decode cX0_stakesOfAccount 4 = .ok (.iload_n 3, 1) := by decide +kernel
theorem dX0_stakesOfAccount_5 : decode cX0_stakesOfAccount 5 = .ok (.bipush 8, 2) := by decide +kernel
theorem dX0_stakesOfAccount_7 : decode cX0_stakesOfAccount 7 = .ok (.if_icmp .ge 22, 3) := by decide +kernel
theorem dX0_stakesOfAccount_10 : decode cX0_stakesOfAccount 10 = .ok (.iload_n 2, 1) := by decide +kernel
theorem dX0_stakesOfAccount_11 : decode cX0_stakesOfAccount 11 = .ok (.aload_n 0, 1) := by decide +kernel
theorem dX0_stakesOfAccount_12 : decode cX0_stakesOfAccount 12 = .ok (.getfield 15, 3) := by decide +kernel
theorem dX0_stakesOfAccount_15 : decode cX0_stakesOfAccount 15 = .ok (.iload_n 3, 1) := by decide +kernel
theorem dX0_stakesOfAccount_16 : decode cX0_stakesOfAccount 16 = .ok (.iload_n 1, 1) := by decide +kernel
theorem dX0_stakesOfAccount_17 : decode cX0_stakesOfAccount 17 = .ok (.invokestatic 25, 3) := by decide +kernel
theorem dX0_stakesOfAccount_20 : decode cX0_stakesOfAccount 20 = .ok (.iaload, 1) := by decide +kernel
theorem dX0_stakesOfAccount_21 : decode cX0_stakesOfAccount 21 = .ok (.iadd, 1) := by decide +kernel
theorem dX0_stakesOfAccount_22 : decode cX0_stakesOfAccount 22 = .ok (.istore_n 2, 1) := by decide +kernel
theorem dX0_stakesOfAccount_23 : decode cX0_stakesOfAccount 23 = .ok (.iinc 3 1, 3) := by decide +kernel
theorem dX0_stakesOfAccount_26 : decode cX0_stakesOfAccount 26 = .ok (.goto (-22), 3) := by decide +kernel
theorem dX0_stakesOfAccount_29 : decode cX0_stakesOfAccount 29 = .ok (.iload_n 2, 1) := by decide +kernel
theorem dX0_stakesOfAccount_30 : decode cX0_stakesOfAccount 30 = .ok (.ireturn, 1) := by decide +kernel
theorem dX0_dueOfAccount_0 : decode cX0_dueOfAccount 0 = .ok (.iconst 0, 1) := by decide +kernel
theorem dX0_dueOfAccount_1 : decode cX0_dueOfAccount 1 = .ok (.istore_n 2, 1) := by decide +kernel
theorem dX0_dueOfAccount_2 : decode cX0_dueOfAccount 2 = .ok (.iconst 1, 1) := by decide +kernel
theorem dX0_dueOfAccount_3 : decode cX0_dueOfAccount 3 = .ok (.istore_n 3, 1) := by decide +kernel
theorem dX0_dueOfAccount_4 : decode cX0_dueOfAccount 4 = .ok (.iload_n 3, 1) := by decide +kernel
theorem dX0_dueOfAccount_5 : decode cX0_dueOfAccount 5 = .ok (.bipush 109, 2) := by decide +kernel
theorem dX0_dueOfAccount_7 : decode cX0_dueOfAccount 7 = .ok (.if_icmp .gt 22, 3) := by decide +kernel
theorem dX0_dueOfAccount_10 : decode cX0_dueOfAccount 10 = .ok (.iload_n 2, 1) := by decide +kernel
theorem dX0_dueOfAccount_11 : decode cX0_dueOfAccount 11 = .ok (.aload_n 0, 1) := by decide +kernel
theorem dX0_dueOfAccount_12 : decode cX0_dueOfAccount 12 = .ok (.getfield 18, 3) := by decide +kernel
theorem dX0_dueOfAccount_15 : decode cX0_dueOfAccount 15 = .ok (.iload_n 1, 1) := by decide +kernel
theorem dX0_dueOfAccount_16 : decode cX0_dueOfAccount 16 = .ok (.iload_n 3, 1) := by decide +kernel
theorem dX0_dueOfAccount_17 : decode cX0_dueOfAccount 17 = .ok (.invokestatic 21, 3) := by decide +kernel
theorem dX0_dueOfAccount_20 : decode cX0_dueOfAccount 20 = .ok (.iaload, 1) := by decide +kernel
theorem dX0_dueOfAccount_21 : decode cX0_dueOfAccount 21 = .ok (.iadd, 1) := by decide +kernel
theorem dX0_dueOfAccount_22 : decode cX0_dueOfAccount 22 = .ok (.istore_n 2, 1) := by decide +kernel
theorem dX0_dueOfAccount_23 : decode cX0_dueOfAccount 23 = .ok (.iinc 3 1, 3) := by decide +kernel
theorem dX0_dueOfAccount_26 : decode cX0_dueOfAccount 26 = .ok (.goto (-22), 3) := by decide +kernel
theorem dX0_dueOfAccount_29 : decode cX0_dueOfAccount 29 = .ok (.iload_n 2, 1) := by decide +kernel
theorem dX0_dueOfAccount_30 : decode cX0_dueOfAccount 30 = .ok (.ireturn, 1) := by decide +kernel
theorem dX0_allBalances_0 : decode cX0_allBalances 0 = .ok (.iconst 0, 1) := by decide +kernel
theorem dX0_allBalances_1 : decode cX0_allBalances 1 = .ok (.istore_n 1, 1) := by decide +kernel
theorem dX0_allBalances_2 : decode cX0_allBalances 2 = .ok (.iconst 0, 1) := by decide +kernel
theorem dX0_allBalances_3 : decode cX0_allBalances 3 = .ok (.istore_n 2, 1) := by decide +kernel
theorem dX0_allBalances_4 : decode cX0_allBalances 4 = .ok (.iload_n 2, 1) := by decide +kernel
theorem dX0_allBalances_5 : decode cX0_allBalances 5 = .ok (.bipush 10, 2) := by decide +kernel
theorem dX0_allBalances_7 : decode cX0_allBalances 7 = .ok (.if_icmp .ge 18, 3) := by decide +kernel
theorem dX0_allBalances_10 : decode cX0_allBalances 10 = .ok (.iload_n 1, 1) := by decide +kernel
theorem dX0_allBalances_11 : decode cX0_allBalances 11 = .ok (.aload_n 0, 1) := by decide +kernel
theorem dX0_allBalances_12 : decode cX0_allBalances 12 = .ok (.getfield 9, 3) := by decide +kernel
theorem dX0_allBalances_15 : decode cX0_allBalances 15 = .ok (.iload_n 2, 1) := by decide +kernel
theorem dX0_allBalances_16 : decode cX0_allBalances 16 = .ok (.iaload, 1) := by decide +kernel
theorem dX0_allBalances_17 : decode cX0_allBalances 17 = .ok (.iadd, 1) := by decide +kernel
theorem dX0_allBalances_18 : decode cX0_allBalances 18 = .ok (.istore_n 1, 1) := by decide +kernel
theorem dX0_allBalances_19 : decode cX0_allBalances 19 = .ok (.iinc 2 1, 3) := by decide +kernel
theorem dX0_allBalances_22 : decode cX0_allBalances 22 = .ok (.goto (-18), 3) := by decide +kernel
theorem dX0_allBalances_25 : decode cX0_allBalances 25 = .ok (.iload_n 1, 1) := by decide +kernel
theorem dX0_allBalances_26 : decode cX0_allBalances 26 = .ok (.ireturn, 1) := by decide +kernel
theorem dX0_allStakes_0 : decode cX0_allStakes 0 = .ok (.iconst 0, 1) := by decide +kernel
theorem dX0_allStakes_1 : decode cX0_allStakes 1 = .ok (.istore_n 1, 1) := by decide +kernel
theorem dX0_allStakes_2 : decode cX0_allStakes 2 = .ok (.iconst 0, 1) := by decide +kernel
theorem dX0_allStakes_3 : decode cX0_allStakes 3 = .ok (.istore_n 2, 1) := by decide +kernel
theorem dX0_allStakes_4 : decode cX0_allStakes 4 = .ok (.iload_n 2, 1) := by decide +kernel
theorem dX0_allStakes_5 : decode cX0_allStakes 5 = .ok (.bipush 8, 2) := by decide +kernel
theorem dX0_allStakes_7 : decode cX0_allStakes 7 = .ok (.if_icmp .ge 17, 3) := by decide +kernel
theorem dX0_allStakes_10 : decode cX0_allStakes 10 = .ok (.iload_n 1, 1) := by decide +kernel
theorem dX0_allStakes_11 : decode cX0_allStakes 11 = .ok (.aload_n 0, 1) := by decide +kernel
theorem dX0_allStakes_12 : decode cX0_allStakes 12 = .ok (.iload_n 2, 1) := by decide +kernel
theorem dX0_allStakes_13 : decode cX0_allStakes 13 = .ok (.invokevirtual 28, 3) := by decide +kernel
theorem dX0_allStakes_16 : decode cX0_allStakes 16 = .ok (.iadd, 1) := by decide +kernel
theorem dX0_allStakes_17 : decode cX0_allStakes 17 = .ok (.istore_n 1, 1) := by decide +kernel
theorem dX0_allStakes_18 : decode cX0_allStakes 18 = .ok (.iinc 2 1, 3) := by decide +kernel
theorem dX0_allStakes_21 : decode cX0_allStakes 21 = .ok (.goto (-17), 3) := by decide +kernel
theorem dX0_allStakes_24 : decode cX0_allStakes 24 = .ok (.iload_n 1, 1) := by decide +kernel
theorem dX0_allStakes_25 : decode cX0_allStakes 25 = .ok (.ireturn, 1) := by decide +kernel
theorem dX0_allDue_0 : decode cX0_allDue 0 = .ok (.iconst 0, 1) := by decide +kernel
theorem dX0_allDue_1 : decode cX0_allDue 1 = .ok (.istore_n 1, 1) := by decide +kernel
theorem dX0_allDue_2 : decode cX0_allDue 2 = .ok (.iconst 0, 1) := by decide +kernel
theorem dX0_allDue_3 : decode cX0_allDue 3 = .ok (.istore_n 2, 1) := by decide +kernel
theorem dX0_allDue_4 : decode cX0_allDue 4 = .ok (.iload_n 2, 1) := by decide +kernel
theorem dX0_allDue_5 : decode cX0_allDue 5 = .ok (.bipush 10, 2) := by decide +kernel
theorem dX0_allDue_7 : decode cX0_allDue 7 = .ok (.if_icmp .ge 17, 3) := by decide +kernel
theorem dX0_allDue_10 : decode cX0_allDue 10 = .ok (.iload_n 1, 1) := by decide +kernel
theorem dX0_allDue_11 : decode cX0_allDue 11 = .ok (.aload_n 0, 1) := by decide +kernel
theorem dX0_allDue_12 : decode cX0_allDue 12 = .ok (.iload_n 2, 1) := by decide +kernel
theorem dX0_allDue_13 : decode cX0_allDue 13 = .ok (.invokevirtual 32, 3) := by decide +kernel
theorem dX0_allDue_16 : decode cX0_allDue 16 = .ok (.iadd, 1) := by decide +kernel
theorem dX0_allDue_17 : decode cX0_allDue 17 = .ok (.istore_n 1, 1) := by decide +kernel
theorem dX0_allDue_18 : decode cX0_allDue 18 = .ok (.iinc 2 1, 3) := by decide +kernel
theorem dX0_allDue_21 : decode cX0_allDue 21 = .ok (.goto (-17), 3) := by decide +kernel
theorem dX0_allDue_24 : decode cX0_allDue 24 = .ok (.iload_n 1, 1) := by decide +kernel
theorem dX0_allDue_25 : decode cX0_allDue 25 = .ok (.ireturn, 1) := by decide +kernel
theorem dX1_init_0 : decode cX1_init 0 = .ok (.aload_n 0, 1) := by decide +kernel
theorem dX1_init_1 : decode cX1_init 1 = .ok (.invokespecial 3, 3) := by decide +kernel
theorem dX1_init_4 : decode cX1_init 4 = .ok (.aload_n 0, 1) := by decide +kernel
theorem dX1_init_5 : decode cX1_init 5 = .ok (.bipush 8, 2) := by decide +kernel
theorem dX1_init_7 : decode cX1_init 7 = .ok (.newarray .int, 2) := by decide +kernel
theorem dX1_init_9 : decode cX1_init 9 = .ok (.putfield 9, 3) := by decide +kernel
theorem dX1_init_12 : decode cX1_init 12 = .ok (.aload_n 0, 1) := by decide +kernel
theorem dX1_init_13 : decode cX1_init 13 = .ok (.bipush 8, 2) := by decide +kernel
theorem dX1_init_15 : decode cX1_init 15 = .ok (.newarray .int, 2) := by decide +kernel
theorem dX1_init_17 : decode cX1_init 17 = .ok (.putfield 15, 3) := by decide +kernel
theorem dX1_init_20 : decode cX1_init 20 = .ok (.aload_n 0, 1) := by decide +kernel
theorem dX1_init_21 : decode cX1_init 21 = .ok (.bipush 8, 2) := by decide +kernel
theorem dX1_init_23 : decode cX1_init 23 = .ok (.newarray .int, 2) := by decide +kernel
theorem dX1_init_25 : decode cX1_init 25 = .ok (.putfield 18, 3) := by decide +kernel
theorem dX1_init_28 : decode cX1_init 28 = .ok (.aload_n 0, 1) := by decide +kernel
theorem dX1_init_29 : decode cX1_init 29 = .ok (.bipush 8, 2) := by decide +kernel
theorem dX1_init_31 : decode cX1_init 31 = .ok (.newarray .int, 2) := by decide +kernel
theorem dX1_init_33 : decode cX1_init 33 = .ok (.putfield 21, 3) := by decide +kernel
theorem dX1_init_36 : decode cX1_init 36 = .ok (.aload_n 0, 1) := by decide +kernel
theorem dX1_init_37 : decode cX1_init 37 = .ok (.bipush 8, 2) := by decide +kernel
theorem dX1_init_39 : decode cX1_init 39 = .ok (.newarray .boolean, 2) := by decide +kernel
theorem dX1_init_41 : decode cX1_init 41 = .ok (.putfield 24, 3) := by decide +kernel
theorem dX1_init_44 : decode cX1_init 44 = .ok (.return_, 1) := by decide +kernel
theorem dX1_has_0 : decode cX1_has 0 = .ok (.iload_n 1, 1) := by decide +kernel
theorem dX1_has_1 : decode cX1_has 1 = .ok (.ifCond .lt 15, 3) := by decide +kernel
theorem dX1_has_4 : decode cX1_has 4 = .ok (.iload_n 1, 1) := by decide +kernel
theorem dX1_has_5 : decode cX1_has 5 = .ok (.aload_n 0, 1) := by decide +kernel
theorem dX1_has_6 : decode cX1_has 6 = .ok (.getfield 28, 3) := by decide +kernel
theorem dX1_has_9 : decode cX1_has 9 = .ok (.if_icmp .ge 7, 3) := by decide +kernel
theorem dX1_has_12 : decode cX1_has 12 = .ok (.iconst 1, 1) := by decide +kernel
theorem dX1_has_13 : decode cX1_has 13 = .ok (.goto 4, 3) := by decide +kernel
theorem dX1_has_16 : decode cX1_has 16 = .ok (.iconst 0, 1) := by decide +kernel
theorem dX1_has_17 : decode cX1_has 17 = .ok (.ireturn, 1) := by decide +kernel
theorem dX1_haveAll_0 : decode cX1_haveAll 0 = .ok (.iload_n 1, 1) := by decide +kernel
theorem dX1_haveAll_1 : decode cX1_haveAll 1 = .ok (.aload_n 0, 1) := by decide +kernel
theorem dX1_haveAll_2 : decode cX1_haveAll 2 = .ok (.getfield 28, 3) := by decide +kernel
theorem dX1_haveAll_5 : decode cX1_haveAll 5 = .ok (.iushr, 1) := by decide +kernel
theorem dX1_haveAll_6 : decode cX1_haveAll 6 = .ok (.ifCond .ne 7, 3) := by decide +kernel
theorem dX1_haveAll_9 : decode cX1_haveAll 9 = .ok (.iconst 1, 1) := by decide +kernel
theorem dX1_haveAll_10 : decode cX1_haveAll 10 = .ok (.goto 4, 3) := by decide +kernel
theorem dX1_haveAll_13 : decode cX1_haveAll 13 = .ok (.iconst 0, 1) := by decide +kernel
theorem dX1_haveAll_14 : decode cX1_haveAll 14 = .ok (.ireturn, 1) := by decide +kernel
theorem dX1_counts_0 : decode cX1_counts 0 = .ok (.aload_n 0, 1) := by decide +kernel
theorem dX1_counts_1 : decode cX1_counts 1 = .ok (.getfield 18, 3) := by decide +kernel
theorem dX1_counts_4 : decode cX1_counts 4 = .ok (.iload_n 1, 1) := by decide +kernel
theorem dX1_counts_5 : decode cX1_counts 5 = .ok (.iaload, 1) := by decide +kernel
theorem dX1_counts_6 : decode cX1_counts 6 = .ok (.iconst 2, 1) := by decide +kernel
theorem dX1_counts_7 : decode cX1_counts 7 = .ok (.if_icmp .eq 13, 3) := by decide +kernel
theorem dX1_counts_10 : decode cX1_counts 10 = .ok (.aload_n 0, 1) := by decide +kernel
theorem dX1_counts_11 : decode cX1_counts 11 = .ok (.getfield 18, 3) := by decide +kernel
theorem dX1_counts_14 : decode cX1_counts 14 = .ok (.iload_n 1, 1) := by decide +kernel
theorem dX1_counts_15 : decode cX1_counts 15 = .ok (.iaload, 1) := by decide +kernel
theorem dX1_counts_16 : decode cX1_counts 16 = .ok (.iconst 3, 1) := by decide +kernel
theorem dX1_counts_17 : decode cX1_counts 17 = .ok (.if_icmp .ne 16, 3) := by decide +kernel
theorem dX1_counts_20 : decode cX1_counts 20 = .ok (.aload_n 0, 1) := by decide +kernel
theorem dX1_counts_21 : decode cX1_counts 21 = .ok (.getfield 24, 3) := by decide +kernel
theorem dX1_counts_24 : decode cX1_counts 24 = .ok (.iload_n 1, 1) := by decide +kernel
theorem dX1_counts_25 : decode cX1_counts 25 = .ok (.baload, 1) := by decide +kernel
theorem dX1_counts_26 : decode cX1_counts 26 = .ok (.ifCond .ne 7, 3) := by decide +kernel
theorem dX1_counts_29 : decode cX1_counts 29 = .ok (.iconst 1, 1) := by decide +kernel
theorem dX1_counts_30 : decode cX1_counts 30 = .ok (.goto 4, 3) := by decide +kernel
theorem dX1_counts_33 : decode cX1_counts 33 = .ok (.iconst 0, 1) := by decide +kernel
theorem dX1_counts_34 : decode cX1_counts 34 = .ok (.ireturn, 1) := by decide +kernel
theorem dX1_open_0 : decode cX1_open 0 = .ok (.aload_n 0, 1) := by decide +kernel
theorem dX1_open_1 : decode cX1_open 1 = .ok (.getfield 28, 3) := by decide +kernel
theorem dX1_open_4 : decode cX1_open 4 = .ok (.istore_n 3, 1) := by decide +kernel
theorem dX1_open_5 : decode cX1_open 5 = .ok (.aload_n 0, 1) := by decide +kernel
theorem dX1_open_6 : decode cX1_open 6 = .ok (.getfield 9, 3) := by decide +kernel
theorem dX1_open_9 : decode cX1_open 9 = .ok (.iload_n 3, 1) := by decide +kernel
theorem dX1_open_10 : decode cX1_open 10 = .ok (.iload_n 1, 1) := by decide +kernel
theorem dX1_open_11 : decode cX1_open 11 = .ok (.iastore, 1) := by decide +kernel
theorem dX1_open_12 : decode cX1_open 12 = .ok (.aload_n 0, 1) := by decide +kernel
theorem dX1_open_13 : decode cX1_open 13 = .ok (.getfield 15, 3) := by decide +kernel
theorem dX1_open_16 : decode cX1_open 16 = .ok (.iload_n 3, 1) := by decide +kernel
theorem dX1_open_17 : decode cX1_open 17 = .ok (.iload_n 2, 1) := by decide +kernel
theorem dX1_open_18 : decode cX1_open 18 = .ok (.iastore, 1) := by decide +kernel
theorem dX1_open_19 : decode cX1_open 19 = .ok (.aload_n 0, 1) := by decide +kernel
theorem dX1_open_20 : decode cX1_open 20 = .ok (.getfield 18, 3) := by decide +kernel
theorem dX1_open_23 : decode cX1_open 23 = .ok (.iload_n 3, 1) := by decide +kernel
theorem dX1_open_24 : decode cX1_open 24 = .ok (.iconst 0, 1) := by decide +kernel
theorem dX1_open_25 : decode cX1_open 25 = .ok (.iastore, 1) := by decide +kernel
theorem dX1_open_26 : decode cX1_open 26 = .ok (.aload_n 0, 1) := by decide +kernel
theorem dX1_open_27 : decode cX1_open 27 = .ok (.getfield 21, 3) := by decide +kernel
theorem dX1_open_30 : decode cX1_open 30 = .ok (.iload_n 3, 1) := by decide +kernel
theorem dX1_open_31 : decode cX1_open 31 = .ok (.bipush (-2), 2) := by decide +kernel
theorem dX1_open_33 : decode cX1_open 33 = .ok (.iastore, 1) := by decide +kernel
theorem dX1_open_34 : decode cX1_open 34 = .ok (.aload_n 0, 1) := by decide +kernel
theorem dX1_open_35 : decode cX1_open 35 = .ok (.dup, 1) := by decide +kernel
theorem dX1_open_36 : decode cX1_open 36 = .ok (.getfield 28, 3) := by decide +kernel
theorem dX1_open_39 : decode cX1_open 39 = .ok (.iconst 1, 1) := by decide +kernel
theorem dX1_open_40 : decode cX1_open 40 = .ok (.iadd, 1) := by decide +kernel
theorem dX1_open_41 : decode cX1_open 41 = .ok (.putfield 28, 3) := by decide +kernel
theorem dX1_open_44 : decode cX1_open 44 = .ok (.iload_n 3, 1) := by decide +kernel
theorem dX1_open_45 : decode cX1_open 45 = .ok (.ireturn, 1) := by decide +kernel
theorem dX1_settle_0 : decode cX1_settle 0 = .ok (.iconst 0, 1) := by decide +kernel
theorem dX1_settle_1 : decode cX1_settle 1 = .ok (.istore_n 2, 1) := by decide +kernel
theorem dX1_settle_2 : decode cX1_settle 2 = .ok (.iload_n 2, 1) := by decide +kernel
theorem dX1_settle_3 : decode cX1_settle 3 = .ok (.aload_n 0, 1) := by decide +kernel
theorem dX1_settle_4 : decode cX1_settle 4 = .ok (.getfield 28, 3) := by decide +kernel
theorem dX1_settle_7 : decode cX1_settle 7 = .ok (.if_icmp .ge 64, 3) := by decide +kernel
theorem dX1_settle_10 : decode cX1_settle 10 = .ok (.aload_n 0, 1) := by decide +kernel
theorem dX1_settle_11 : decode cX1_settle 11 = .ok (.getfield 18, 3) := by decide +kernel
theorem dX1_settle_14 : decode cX1_settle 14 = .ok (.iload_n 2, 1) := by decide +kernel
theorem dX1_settle_15 : decode cX1_settle 15 = .ok (.iaload, 1) := by decide +kernel
theorem dX1_settle_16 : decode cX1_settle 16 = .ok (.iconst 3, 1) := by decide +kernel
theorem dX1_settle_17 : decode cX1_settle 17 = .ok (.if_icmp .ne 31, 3) := by decide +kernel
theorem dX1_settle_20 : decode cX1_settle 20 = .ok (.aload_n 0, 1) := by decide +kernel
theorem dX1_settle_21 : decode cX1_settle 21 = .ok (.getfield 21, 3) := by decide +kernel
theorem dX1_settle_24 : decode cX1_settle 24 = .ok (.iload_n 2, 1) := by decide +kernel
theorem dX1_settle_25 : decode cX1_settle 25 = .ok (.iaload, 1) := by decide +kernel
theorem dX1_settle_26 : decode cX1_settle 26 = .ok (.iload_n 1, 1) := by decide +kernel
theorem dX1_settle_27 : decode cX1_settle 27 = .ok (.if_icmp .ne 21, 3) := by decide +kernel
theorem dX1_settle_30 : decode cX1_settle 30 = .ok (.aload_n 0, 1) := by decide +kernel
theorem dX1_settle_31 : decode cX1_settle 31 = .ok (.getfield 18, 3) := by decide +kernel
theorem dX1_settle_34 : decode cX1_settle 34 = .ok (.iload_n 2, 1) := by decide +kernel
theorem dX1_settle_35 : decode cX1_settle 35 = .ok (.iconst 0, 1) := by decide +kernel
theorem dX1_settle_36 : decode cX1_settle 36 = .ok (.iastore, 1) := by decide +kernel
theorem dX1_settle_37 : decode cX1_settle 37 = .ok (.aload_n 0, 1) := by decide +kernel
theorem dX1_settle_38 : decode cX1_settle 38 = .ok (.getfield 21, 3) := by decide +kernel
theorem dX1_settle_41 : decode cX1_settle 41 = .ok (.iload_n 2, 1) := by decide +kernel
theorem dX1_settle_42 : decode cX1_settle 42 = .ok (.bipush (-2), 2) := by decide +kernel
theorem dX1_settle_44 : decode cX1_settle 44 = .ok (.iastore, 1) := by decide +kernel
theorem dX1_settle_45 : decode cX1_settle 45 = .ok (.goto 20, 3) := by decide +kernel
theorem dX1_settle_48 : decode cX1_settle 48 = .ok (.aload_n 0, 1) := by decide +kernel
theorem dX1_settle_49 : decode cX1_settle 49 = .ok (.getfield 18, 3) := by decide +kernel
theorem dX1_settle_52 : decode cX1_settle 52 = .ok (.iload_n 2, 1) := by decide +kernel
theorem dX1_settle_53 : decode cX1_settle 53 = .ok (.iaload, 1) := by decide +kernel
theorem dX1_settle_54 : decode cX1_settle 54 = .ok (.iconst 1, 1) := by decide +kernel
theorem dX1_settle_55 : decode cX1_settle 55 = .ok (.if_icmp .ne 10, 3) := by decide +kernel
theorem dX1_settle_58 : decode cX1_settle 58 = .ok (.aload_n 0, 1) := by decide +kernel
theorem dX1_settle_59 : decode cX1_settle 59 = .ok (.getfield 18, 3) := by decide +kernel
theorem dX1_settle_62 : decode cX1_settle 62 = .ok (.iload_n 2, 1) := by decide +kernel
theorem dX1_settle_63 : decode cX1_settle 63 = .ok (.iconst 2, 1) := by decide +kernel
theorem dX1_settle_64 : decode cX1_settle 64 = .ok (.iastore, 1) := by decide +kernel
theorem dX1_settle_65 : decode cX1_settle 65 = .ok (.iinc 2 1, 3) := by decide +kernel
theorem dX1_settle_68 : decode cX1_settle 68 = .ok (.goto (-66), 3) := by decide +kernel
theorem dX1_settle_71 : decode cX1_settle 71 = .ok (.return_, 1) := by decide +kernel
theorem dX2_init_0 : decode cX2_init 0 = .ok (.aload_n 0, 1) := by decide +kernel
theorem dX2_init_1 : decode cX2_init 1 = .ok (.invokespecial 3, 3) := by decide +kernel
theorem dX2_init_4 : decode cX2_init 4 = .ok (.aload_n 0, 1) := by decide +kernel
theorem dX2_init_5 : decode cX2_init 5 = .ok (.sipush 808, 3) := by decide +kernel
theorem dX2_init_8 : decode cX2_init 8 = .ok (.newarray .int, 2) := by decide +kernel
theorem dX2_init_10 : decode cX2_init 10 = .ok (.putfield 9, 3) := by decide +kernel
theorem dX2_init_13 : decode cX2_init 13 = .ok (.aload_n 0, 1) := by decide +kernel
theorem dX2_init_14 : decode cX2_init 14 = .ok (.sipush 808, 3) := by decide +kernel
theorem dX2_init_17 : decode cX2_init 17 = .ok (.newarray .int, 2) := by decide +kernel
theorem dX2_init_19 : decode cX2_init 19 = .ok (.putfield 15, 3) := by decide +kernel
theorem dX2_init_22 : decode cX2_init 22 = .ok (.aload_n 0, 1) := by decide +kernel
theorem dX2_init_23 : decode cX2_init 23 = .ok (.bipush 101, 2) := by decide +kernel
theorem dX2_init_25 : decode cX2_init 25 = .ok (.newarray .int, 2) := by decide +kernel
theorem dX2_init_27 : decode cX2_init 27 = .ok (.putfield 18, 3) := by decide +kernel
theorem dX2_init_30 : decode cX2_init 30 = .ok (.aload_n 0, 1) := by decide +kernel
theorem dX2_init_31 : decode cX2_init 31 = .ok (.bipush 101, 2) := by decide +kernel
theorem dX2_init_33 : decode cX2_init 33 = .ok (.newarray .int, 2) := by decide +kernel
theorem dX2_init_35 : decode cX2_init 35 = .ok (.putfield 21, 3) := by decide +kernel
theorem dX2_init_38 : decode cX2_init 38 = .ok (.aload_n 0, 1) := by decide +kernel
theorem dX2_init_39 : decode cX2_init 39 = .ok (.bipush 80, 2) := by decide +kernel
theorem dX2_init_41 : decode cX2_init 41 = .ok (.newarray .int, 2) := by decide +kernel
theorem dX2_init_43 : decode cX2_init 43 = .ok (.putfield 24, 3) := by decide +kernel
theorem dX2_init_46 : decode cX2_init 46 = .ok (.return_, 1) := by decide +kernel
theorem dX2_enter_0 : decode cX2_enter 0 = .ok (.iload_n 3, 1) := by decide +kernel
theorem dX2_enter_1 : decode cX2_enter 1 = .ok (.ifCond .gt 4, 3) := by decide +kernel
theorem dX2_enter_4 : decode cX2_enter 4 = .ok (.return_, 1) := by decide +kernel
theorem dX2_enter_5 : decode cX2_enter 5 = .ok (.aload_n 0, 1) := by decide +kernel
theorem dX2_enter_6 : decode cX2_enter 6 = .ok (.getfield 9, 3) := by decide +kernel
theorem dX2_enter_9 : decode cX2_enter 9 = .ok (.iload_n 1, 1) := by decide +kernel
theorem dX2_enter_10 : decode cX2_enter 10 = .ok (.iload_n 2, 1) := by decide +kernel
theorem dX2_enter_11 : decode cX2_enter 11 = .ok (.invokestatic 27, 3) := by decide +kernel
theorem dX2_enter_14 : decode cX2_enter 14 = .ok (.iload_n 3, 1) := by decide +kernel
theorem dX2_enter_15 : decode cX2_enter 15 = .ok (.iastore, 1) := by decide +kernel
theorem dX2_enter_16 : decode cX2_enter 16 = .ok (.aload_n 0, 1) := by decide +kernel
theorem dX2_enter_17 : decode cX2_enter 17 = .ok (.getfield 18, 3) := by decide +kernel
theorem dX2_enter_20 : decode cX2_enter 20 = .ok (.iload_n 1, 1) := by decide +kernel
theorem dX2_enter_21 : decode cX2_enter 21 = .ok (.dup2, 1) := by decide +kernel
theorem dX2_enter_22 : decode cX2_enter 22 = .ok (.iaload, 1) := by decide +kernel
theorem dX2_enter_23 : decode cX2_enter 23 = .ok (.iload_n 3, 1) := by decide +kernel
theorem dX2_enter_24 : decode cX2_enter 24 = .ok (.iadd, 1) := by decide +kernel
theorem dX2_enter_25 : decode cX2_enter 25 = .ok (.iastore, 1) := by decide +kernel
theorem dX2_enter_26 : decode cX2_enter 26 = .ok (.aload_n 0, 1) := by decide +kernel
theorem dX2_enter_27 : decode cX2_enter 27 = .ok (.getfield 21, 3) := by decide +kernel
theorem dX2_enter_30 : decode cX2_enter 30 = .ok (.iload_n 1, 1) := by decide +kernel
theorem dX2_enter_31 : decode cX2_enter 31 = .ok (.dup2, 1) := by decide +kernel
theorem dX2_enter_32 : decode cX2_enter 32 = .ok (.iaload, 1) := by decide +kernel
theorem dX2_enter_33 : decode cX2_enter 33 = .ok (.iconst 1, 1) := by decide +kernel
theorem dX2_enter_34 : decode cX2_enter 34 = .ok (.iload_n 2, 1) := by decide +kernel
theorem dX2_enter_35 : decode cX2_enter 35 = .ok (.ishl, 1) := by decide +kernel
theorem dX2_enter_36 : decode cX2_enter 36 = .ok (.ior, 1) := by decide +kernel
theorem dX2_enter_37 : decode cX2_enter 37 = .ok (.iastore, 1) := by decide +kernel
theorem dX2_enter_38 : decode cX2_enter 38 = .ok (.return_, 1) := by decide +kernel
theorem dX2_rewardsOf_0 : decode cX2_rewardsOf 0 = .ok (.iconst 0, 1) := by decide +kernel
theorem dX2_rewardsOf_1 : decode cX2_rewardsOf 1 = .ok (.istore_n 2, 1) := by decide +kernel
theorem dX2_rewardsOf_2 : decode cX2_rewardsOf 2 = .ok (.iconst 0, 1) := by decide +kernel
theorem dX2_rewardsOf_3 : decode cX2_rewardsOf 3 = .ok (.istore_n 3, 1) := by decide +kernel
theorem dX2_rewardsOf_4 : decode cX2_rewardsOf 4 = .ok (.iload_n 3, 1) := by decide +kernel
theorem dX2_rewardsOf_5 : decode cX2_rewardsOf 5 = .ok (.bipush 8, 2) := by decide +kernel
theorem dX2_rewardsOf_7 : decode cX2_rewardsOf 7 = .ok (.if_icmp .ge 22, 3) := by decide +kernel
theorem dX2_rewardsOf_10 : decode cX2_rewardsOf 10 = .ok (.iload_n 2, 1) := by decide +kernel
theorem dX2_rewardsOf_11 : decode cX2_rewardsOf 11 = .ok (.aload_n 0, 1) := by decide +kernel
theorem dX2_rewardsOf_12 : decode cX2_rewardsOf 12 = .ok (.getfield 15, 3) := by decide +kernel
theorem dX2_rewardsOf_15 : decode cX2_rewardsOf 15 = .ok (.iload_n 1, 1) := by decide +kernel
theorem dX2_rewardsOf_16 : decode cX2_rewardsOf 16 = .ok (.iload_n 3, 1) := by decide +kernel
theorem dX2_rewardsOf_17 : decode cX2_rewardsOf 17 = .ok (.invokestatic 27, 3) := by decide +kernel
theorem dX2_rewardsOf_20 : decode cX2_rewardsOf 20 = .ok (.iaload, 1) := by decide +kernel
theorem dX2_rewardsOf_21 : decode cX2_rewardsOf 21 = .ok (.iadd, 1) := by decide +kernel
theorem dX2_rewardsOf_22 : decode cX2_rewardsOf 22 = .ok (.istore_n 2, 1) := by decide +kernel
theorem dX2_rewardsOf_23 : decode cX2_rewardsOf 23 = .ok (.iinc 3 1, 3) := by decide +kernel
theorem dX2_rewardsOf_26 : decode cX2_rewardsOf 26 = .ok (.goto (-22), 3) := by decide +kernel
theorem dX2_rewardsOf_29 : decode cX2_rewardsOf 29 = .ok (.iload_n 2, 1) := by decide +kernel
theorem dX2_rewardsOf_30 : decode cX2_rewardsOf 30 = .ok (.ireturn, 1) := by decide +kernel
theorem dX2_weightOf_0 : decode cX2_weightOf 0 = .ok (.iconst 0, 1) := by decide +kernel
theorem dX2_weightOf_1 : decode cX2_weightOf 1 = .ok (.istore_n 3, 1) := by decide +kernel
theorem dX2_weightOf_2 : decode cX2_weightOf 2 = .ok (.iconst 0, 1) := by decide +kernel
theorem dX2_weightOf_3 : decode cX2_weightOf 3 = .ok (.istore 4, 2) := by decide +kernel
theorem dX2_weightOf_5 : decode cX2_weightOf 5 = .ok (.iload 4, 2) := by decide +kernel
theorem dX2_weightOf_7 : decode cX2_weightOf 7 = .ok (.bipush 8, 2) := by decide +kernel
theorem dX2_weightOf_9 : decode cX2_weightOf 9 = .ok (.if_icmp .ge 32, 3) := by decide +kernel
theorem dX2_weightOf_12 : decode cX2_weightOf 12 = .ok (.iload_n 2, 1) := by decide +kernel
theorem dX2_weightOf_13 : decode cX2_weightOf 13 = .ok (.iload 4, 2) := by decide +kernel
theorem dX2_weightOf_15 : decode cX2_weightOf 15 = .ok (.iushr, 1) := by decide +kernel
theorem dX2_weightOf_16 : decode cX2_weightOf 16 = .ok (.iconst 1, 1) := by decide +kernel
theorem dX2_weightOf_17 : decode cX2_weightOf 17 = .ok (.iand, 1) := by decide +kernel
theorem dX2_weightOf_18 : decode cX2_weightOf 18 = .ok (.ifCond .eq 17, 3) := by decide +kernel
theorem dX2_weightOf_21 : decode cX2_weightOf 21 = .ok (.iload_n 3, 1) := by decide +kernel
theorem dX2_weightOf_22 : decode cX2_weightOf 22 = .ok (.aload_n 0, 1) := by decide +kernel
theorem dX2_weightOf_23 : decode cX2_weightOf 23 = .ok (.getfield 9, 3) := by decide +kernel
theorem dX2_weightOf_26 : decode cX2_weightOf 26 = .ok (.iload_n 1, 1) := by decide +kernel
theorem dX2_weightOf_27 : decode cX2_weightOf 27 = .ok (.iload 4, 2) := by decide +kernel
theorem dX2_weightOf_29 : decode cX2_weightOf 29 = .ok (.invokestatic 27, 3) := by decide +kernel
theorem dX2_weightOf_32 : decode cX2_weightOf 32 = .ok (.iaload, 1) := by decide +kernel
theorem dX2_weightOf_33 : decode cX2_weightOf 33 = .ok (.iadd, 1) := by decide +kernel
theorem dX2_weightOf_34 : decode cX2_weightOf 34 = .ok (.istore_n 3, 1) := by decide +kernel
theorem dX2_weightOf_35 : decode cX2_weightOf 35 = .ok (.iinc 4 1, 3) := by decide +kernel
theorem dX2_weightOf_38 : decode cX2_weightOf 38 = .ok (.goto (-33), 3) := by decide +kernel
theorem dX2_weightOf_41 : decode cX2_weightOf 41 = .ok (.iload_n 3, 1) := by decide +kernel
theorem dX2_weightOf_42 : decode cX2_weightOf 42 = .ok (.ireturn, 1) := by decide +kernel
theorem dX2_commonWeight_0 : decode cX2_commonWeight 0 = .ok (.iconst 0, 1) := by decide +kernel
theorem dX2_commonWeight_1 : decode cX2_commonWeight 1 = .ok (.istore_n 3, 1) := by decide +kernel
theorem dX2_commonWeight_2 : decode cX2_commonWeight 2 = .ok (.iconst 0, 1) := by decide +kernel
theorem dX2_commonWeight_3 : decode cX2_commonWeight 3 = .ok (.istore 4, 2) := by decide +kernel
theorem dX2_commonWeight_5 : decode cX2_commonWeight 5 = .ok (.iload 4, 2) := by decide +kernel
theorem dX2_commonWeight_7 : decode cX2_commonWeight 7 = .ok (.bipush 8, 2) := by decide +kernel
theorem dX2_commonWeight_9 : decode cX2_commonWeight 9 = .ok (.if_icmp .ge 37, 3) := by decide +kernel
theorem dX2_commonWeight_12 : decode cX2_commonWeight 12 = .ok (.iload_n 3, 1) := by decide +kernel
theorem dX2_commonWeight_13 : decode cX2_commonWeight 13 = .ok (.aload_n 0, 1) := by decide +kernel
theorem dX2_commonWeight_14 : decode cX2_commonWeight 14 = .ok (.getfield 9, 3) := by decide +kernel
theorem dX2_commonWeight_17 : decode cX2_commonWeight 17 = .ok (.iload_n 1, 1) := by decide +kernel
theorem dX2_commonWeight_18 : decode cX2_commonWeight 18 = .ok (.iload 4, 2) := by decide +kernel
theorem dX2_commonWeight_20 : decode cX2_commonWeight 20 = .ok (.invokestatic 27, 3) := by decide +kernel
theorem dX2_commonWeight_23 : decode cX2_commonWeight 23 = .ok (.iaload, 1) := by decide +kernel
theorem dX2_commonWeight_24 : decode cX2_commonWeight 24 = .ok (.aload_n 0, 1) := by decide +kernel
theorem dX2_commonWeight_25 : decode cX2_commonWeight 25 = .ok (.getfield 9, 3) := by decide +kernel
theorem dX2_commonWeight_28 : decode cX2_commonWeight 28 = .ok (.iload_n 2, 1) := by decide +kernel
theorem dX2_commonWeight_29 : decode cX2_commonWeight 29 = .ok (.iload 4, 2) := by decide +kernel
theorem dX2_commonWeight_31 : decode cX2_commonWeight 31 = .ok (.invokestatic 27, 3) := by decide +kernel
theorem dX2_commonWeight_34 : decode cX2_commonWeight 34 = .ok (.iaload, 1) := by decide +kernel
theorem dX2_commonWeight_35 : decode cX2_commonWeight 35 = .ok (.invokestatic 31, 3) := by decide +kernel
theorem dX2_commonWeight_38 : decode cX2_commonWeight 38 = .ok (.iadd, 1) := by decide +kernel
theorem dX2_commonWeight_39 : decode cX2_commonWeight 39 = .ok (.istore_n 3, 1) := by decide +kernel
theorem dX2_commonWeight_40 : decode cX2_commonWeight 40 = .ok (.iinc 4 1, 3) := by decide +kernel
theorem dX2_commonWeight_43 : decode cX2_commonWeight 43 = .ok (.goto (-38), 3) := by decide +kernel
theorem dX2_commonWeight_46 : decode cX2_commonWeight 46 = .ok (.iload_n 3, 1) := by decide +kernel
theorem dX2_commonWeight_47 : decode cX2_commonWeight 47 = .ok (.ireturn, 1) := by decide +kernel
theorem dX2_isGood_0 : decode cX2_isGood 0 = .ok (.iconst 3, 1) := by decide +kernel
theorem dX2_isGood_1 : decode cX2_isGood 1 = .ok (.aload_n 0, 1) := by decide +kernel
theorem dX2_isGood_2 : decode cX2_isGood 2 = .ok (.iload_n 1, 1) := by decide +kernel
theorem dX2_isGood_3 : decode cX2_isGood 3 = .ok (.iload_n 2, 1) := by decide +kernel
theorem dX2_isGood_4 : decode cX2_isGood 4 = .ok (.invokevirtual 36, 3) := by decide +kernel
theorem dX2_isGood_7 : decode cX2_isGood 7 = .ok (.imul, 1) := by decide +kernel
theorem dX2_isGood_8 : decode cX2_isGood 8 = .ok (.iconst 2, 1) := by decide +kernel
theorem dX2_isGood_9 : decode cX2_isGood 9 = .ok (.aload_n 0, 1) := by decide +kernel
theorem dX2_isGood_10 : decode cX2_isGood 10 = .ok (.getfield 18, 3) := by decide +kernel
theorem dX2_isGood_13 : decode cX2_isGood 13 = .ok (.iload_n 1, 1) := by decide +kernel
theorem dX2_isGood_14 : decode cX2_isGood 14 = .ok (.iaload, 1) := by decide +kernel
theorem dX2_isGood_15 : decode cX2_isGood 15 = .ok (.imul, 1) := by decide +kernel
theorem dX2_isGood_16 : decode cX2_isGood 16 = .ok (.if_icmp .le 7, 3) := by decide +kernel
theorem dX2_isGood_19 : decode cX2_isGood 19 = .ok (.iconst 1, 1) := by decide +kernel
theorem dX2_isGood_20 : decode cX2_isGood 20 = .ok (.goto 4, 3) := by decide +kernel
theorem dX2_isGood_23 : decode cX2_isGood 23 = .ok (.iconst 0, 1) := by decide +kernel
theorem dX2_isGood_24 : decode cX2_isGood 24 = .ok (.ireturn, 1) := by decide +kernel
theorem dX2_allowsJump_0 : decode cX2_allowsJump 0 = .ok (.aload_n 0, 1) := by decide +kernel
theorem dX2_allowsJump_1 : decode cX2_allowsJump 1 = .ok (.iload_n 2, 1) := by decide +kernel
theorem dX2_allowsJump_2 : decode cX2_allowsJump 2 = .ok (.iload_n 3, 1) := by decide +kernel
theorem dX2_allowsJump_3 : decode cX2_allowsJump 3 = .ok (.invokevirtual 39, 3) := by decide +kernel
theorem dX2_allowsJump_6 : decode cX2_allowsJump 6 = .ok (.ifCond .eq 24, 3) := by decide +kernel
theorem dX2_allowsJump_9 : decode cX2_allowsJump 9 = .ok (.iconst 3, 1) := by decide +kernel
theorem dX2_allowsJump_10 : decode cX2_allowsJump 10 = .ok (.aload_n 0, 1) := by decide +kernel
theorem dX2_allowsJump_11 : decode cX2_allowsJump 11 = .ok (.iload_n 1, 1) := by decide +kernel
theorem dX2_allowsJump_12 : decode cX2_allowsJump 12 = .ok (.iload_n 3, 1) := by decide +kernel
theorem dX2_allowsJump_13 : decode cX2_allowsJump 13 = .ok (.invokevirtual 36, 3) := by decide +kernel
theorem dX2_allowsJump_16 : decode cX2_allowsJump 16 = .ok (.imul, 1) := by decide +kernel
theorem dX2_allowsJump_17 : decode cX2_allowsJump 17 = .ok (.aload_n 0, 1) := by decide +kernel
theorem dX2_allowsJump_18 : decode cX2_allowsJump 18 = .ok (.getfield 18, 3) := by decide +kernel
theorem dX2_allowsJump_21 : decode cX2_allowsJump 21 = .ok (.iload_n 1, 1) := by decide +kernel
theorem dX2_allowsJump_22 : decode cX2_allowsJump 22 = .ok (.iaload, 1) := by decide +kernel
theorem dX2_allowsJump_23 : decode cX2_allowsJump 23 = .ok (.if_icmp .le 7, 3) := by decide +kernel
theorem dX2_allowsJump_26 : decode cX2_allowsJump 26 = .ok (.iconst 1, 1) := by decide +kernel
theorem dX2_allowsJump_27 : decode cX2_allowsJump 27 = .ok (.goto 4, 3) := by decide +kernel
theorem dX2_allowsJump_30 : decode cX2_allowsJump 30 = .ok (.iconst 0, 1) := by decide +kernel
theorem dX2_allowsJump_31 : decode cX2_allowsJump 31 = .ok (.ireturn, 1) := by decide +kernel
theorem dX3_init_0 : decode cX3_init 0 = .ok (.aload_n 0, 1) := by decide +kernel
theorem dX3_init_1 : decode cX3_init 1 = .ok (.invokespecial 3, 3) := by decide +kernel
theorem dX3_init_4 : decode cX3_init 4 = .ok (.aload_n 0, 1) := by decide +kernel
theorem dX3_init_5 : decode cX3_init 5 = .ok (.bipush 10, 2) := by decide +kernel
theorem dX3_init_7 : decode cX3_init 7 = .ok (.newarray .int, 2) := by decide +kernel
theorem dX3_init_9 : decode cX3_init 9 = .ok (.putfield 9, 3) := by decide +kernel
theorem dX3_init_12 : decode cX3_init 12 = .ok (.aload_n 0, 1) := by decide +kernel
theorem dX3_init_13 : decode cX3_init 13 = .ok (.bipush 10, 2) := by decide +kernel
theorem dX3_init_15 : decode cX3_init 15 = .ok (.newarray .long, 2) := by decide +kernel
theorem dX3_init_17 : decode cX3_init 17 = .ok (.putfield 15, 3) := by decide +kernel
theorem dX3_init_20 : decode cX3_init 20 = .ok (.return_, 1) := by decide +kernel
theorem dX3_split_0 : decode cX3_split 0 = .ok (.lconst 0, 1) := by decide +kernel
theorem dX3_split_1 : decode cX3_split 1 = .ok (.lstore 5, 2) := by decide +kernel
theorem dX3_split_3 : decode cX3_split 3 = .ok (.iconst 0, 1) := by decide +kernel
theorem dX3_split_4 : decode cX3_split 4 = .ok (.istore 7, 2) := by decide +kernel
theorem dX3_split_6 : decode cX3_split 6 = .ok (.iload 7, 2) := by decide +kernel
theorem dX3_split_8 : decode cX3_split 8 = .ok (.iload 4, 2) := by decide +kernel
theorem dX3_split_10 : decode cX3_split 10 = .ok (.if_icmp .ge 29, 3) := by decide +kernel
theorem dX3_split_13 : decode cX3_split 13 = .ok (.aload_n 0, 1) := by decide +kernel
theorem dX3_split_14 : decode cX3_split 14 = .ok (.getfield 9, 3) := by decide +kernel
theorem dX3_split_17 : decode cX3_split 17 = .ok (.iload 7, 2) := by decide +kernel
theorem dX3_split_19 : decode cX3_split 19 = .ok (.iconst 0, 1) := by decide +kernel
theorem dX3_split_20 : decode cX3_split 20 = .ok (.iastore, 1) := by decide +kernel
theorem dX3_split_21 : decode cX3_split 21 = .ok (.lload 5, 2) := by decide +kernel
theorem dX3_split_23 : decode cX3_split 23 = .ok (.aload_n 2, 1) := by decide +kernel
theorem dX3_split_24 : decode cX3_split 24 = .ok (.iload_n 3, 1) := by decide +kernel
theorem dX3_split_25 : decode cX3_split 25 = .ok (.iload 7, 2) := by decide +kernel
theorem dX3_split_27 : decode cX3_split 27 = .ok (.iadd, 1) := by decide +kernel
theorem dX3_split_28 : decode cX3_split 28 = .ok (.iaload, 1) := by decide +kernel
theorem dX3_split_29 : decode cX3_split 29 = .ok (.i2l, 1) := by decide +kernel
theorem dX3_split_30 : decode cX3_split 30 = .ok (.ladd, 1) := by decide +kernel
theorem dX3_split_31 : decode cX3_split 31 = .ok (.lstore 5, 2) := by decide +kernel
theorem dX3_split_33 : decode cX3_split 33 = .ok (.iinc 7 1, 3) := by decide +kernel
theorem dX3_split_36 : decode cX3_split 36 = .ok (.goto (-30), 3) := by decide +kernel
theorem dX3_split_39 : decode cX3_split 39 = .ok (.lload 5, 2) := by decide +kernel
theorem dX3_split_41 : decode cX3_split 41 = .ok (.lconst 0, 1) := by decide +kernel
theorem dX3_split_42 : decode cX3_split 42 = .ok (.lcmp, 1) := by decide +kernel
theorem dX3_split_43 : decode cX3_split 43 = .ok (.ifCond .gt 4, 3) := by decide +kernel
theorem dX3_split_46 : decode cX3_split 46 = .ok (.return_, 1) := by decide +kernel
theorem dX3_split_47 : decode cX3_split 47 = .ok (.iload_n 1, 1) := by decide +kernel
theorem dX3_split_48 : decode cX3_split 48 = .ok (.istore 7, 2) := by decide +kernel
theorem dX3_split_50 : decode cX3_split 50 = .ok (.iconst 0, 1) := by decide +kernel
theorem dX3_split_51 : decode cX3_split 51 = .ok (.istore 8, 2) := by decide +kernel
theorem dX3_split_53 : decode cX3_split 53 = .ok (.iload 8, 2) := by decide +kernel
theorem dX3_split_55 : decode cX3_split 55 = .ok (.iload 4, 2) := by decide +kernel
theorem dX3_split_57 : decode cX3_split 57 = .ok (.if_icmp .ge 58, 3) := by decide +kernel
theorem dX3_split_60 : decode cX3_split 60 = .ok (.iload_n 1, 1) := by decide +kernel
theorem dX3_split_61 : decode cX3_split 61 = .ok (.i2l, 1) := by decide +kernel
theorem dX3_split_62 : decode cX3_split 62 = .ok (.aload_n 2, 1) := by decide +kernel
theorem dX3_split_63 : decode cX3_split 63 = .ok (.iload_n 3, 1) := by decide +kernel
theorem dX3_split_64 : decode cX3_split 64 = .ok (.iload 8, 2) := by decide +kernel
theorem dX3_split_66 : decode cX3_split 66 = .ok (.iadd, 1) := by decide +kernel
theorem dX3_split_67 : decode cX3_split 67 = .ok (.iaload, 1) := by decide +kernel
theorem dX3_split_68 : decode cX3_split 68 = .ok (.i2l, 1) := by decide +kernel
theorem dX3_split_69 : decode cX3_split 69 = .ok (.lmul, 1) := by decide +kernel
theorem dX3_split_70 : decode cX3_split 70 = .ok (.lstore 9, 2) := by decide +kernel
theorem dX3_split_72 : decode cX3_split 72 = .ok (.aload_n 0, 1) := by decide +kernel
theorem dX3_split_73 : decode cX3_split 73 = .ok (.getfield 9, 3) := by decide +kernel
theorem dX3_split_76 : decode cX3_split 76 = .ok (.iload 8, 2) := by decide +kernel
theorem dX3_split_78 : decode cX3_split 78 = .ok (.lload 9, 2) := by decide +kernel
theorem dX3_split_80 : decode cX3_split 80 = .ok (.lload 5, 2) := by decide +kernel
theorem dX3_split_82 : decode cX3_split 82 = .ok (.ldiv, 1) := by decide +kernel
theorem dX3_split_83 : decode cX3_split 83 = .ok (.l2i, 1) := by decide +kernel
theorem dX3_split_84 : decode cX3_split 84 = .ok (.iastore, 1) := by decide +kernel
theorem dX3_split_85 : decode cX3_split 85 = .ok (.aload_n 0, 1) := by decide +kernel
theorem dX3_split_86 : decode cX3_split 86 = .ok (.getfield 15, 3) := by decide +kernel
theorem dX3_split_89 : decode cX3_split 89 = .ok (.iload 8, 2) := by decide +kernel
theorem dX3_split_91 : decode cX3_split 91 = .ok (.lload 9, 2) := by decide +kernel
theorem dX3_split_93 : decode cX3_split 93 = .ok (.lload 5, 2) := by decide +kernel
theorem dX3_split_95 : decode cX3_split 95 = .ok (.lrem, 1) := by decide +kernel
theorem dX3_split_96 : decode cX3_split 96 = .ok (.lastore, 1) := by decide +kernel
theorem dX3_split_97 : decode cX3_split 97 = .ok (.iload 7, 2) := by decide +kernel
theorem dX3_split_99 : decode cX3_split 99 = .ok (.aload_n 0, 1) := by decide +kernel
theorem dX3_split_100 : decode cX3_split 100 = .ok (.getfield 9, 3) := by decide +kernel
theorem dX3_split_103 : decode cX3_split 103 = .ok (.iload 8, 2) := by decide +kernel
theorem dX3_split_105 : decode cX3_split 105 = .ok (.iaload, 1) := by decide +kernel
theorem dX3_split_106 : decode cX3_split 106 = .ok (.isub, 1) := by decide +kernel
theorem dX3_split_107 : decode cX3_split 107 = .ok (.istore 7, 2) := by decide +kernel
theorem dX3_split_109 : decode cX3_split 109 = .ok (.iinc 8 1, 3) := by decide +kernel
theorem dX3_split_112 : decode cX3_split 112 = .ok (.goto (-59), 3) := by decide +kernel
theorem dX3_split_115 : decode cX3_split 115 = .ok (.iconst 0, 1) := by decide +kernel
theorem dX3_split_116 : decode cX3_split 116 = .ok (.istore 8, 2) := by decide +kernel
theorem dX3_split_118 : decode cX3_split 118 = .ok (.iload 8, 2) := by decide +kernel
theorem dX3_split_120 : decode cX3_split 120 = .ok (.iload 7, 2) := by decide +kernel
theorem dX3_split_122 : decode cX3_split 122 = .ok (.if_icmp .ge 22, 3) := by decide +kernel
theorem dX3_split_125 : decode cX3_split 125 = .ok (.iload 8, 2) := by decide +kernel
theorem dX3_split_127 : decode cX3_split 127 = .ok (.iload 4, 2) := by decide +kernel
theorem dX3_split_129 : decode cX3_split 129 = .ok (.if_icmp .ge 15, 3) := by decide +kernel
theorem dX3_split_132 : decode cX3_split 132 = .ok (.aload_n 0, 1) := by decide +kernel
theorem dX3_split_133 : decode cX3_split 133 = .ok (.iload 4, 2) := by decide +kernel
theorem dX3_split_135 : decode cX3_split 135 = .ok (.invokevirtual 19, 3) := by decide +kernel
theorem dX3_split_138 : decode cX3_split 138 = .ok (.iinc 8 1, 3) := by decide +kernel
theorem dX3_split_141 : decode cX3_split 141 = .ok (.goto (-23), 3) := by decide +kernel
theorem dX3_split_144 : decode cX3_split 144 = .ok (.return_, 1) := by decide +kernel
theorem dX3_giveOneByRest_0 : decode cX3_giveOneByRest 0 = .ok (.iconst 0, 1) := by decide +kernel
theorem dX3_giveOneByRest_1 : decode cX3_giveOneByRest 1 = .ok (.istore_n 2, 1) := by decide +kernel
theorem dX3_giveOneByRest_2 : decode cX3_giveOneByRest 2 = .ok (.iconst 1, 1) := by decide +kernel
theorem dX3_giveOneByRest_3 : decode cX3_giveOneByRest 3 = .ok (.istore_n 3, 1) := by decide +kernel
theorem dX3_giveOneByRest_4 : decode cX3_giveOneByRest 4 = .ok (.iload_n 3, 1) := by decide +kernel
theorem dX3_giveOneByRest_5 : decode cX3_giveOneByRest 5 = .ok (.iload_n 1, 1) := by decide +kernel
theorem dX3_giveOneByRest_6 : decode cX3_giveOneByRest 6 = .ok (.if_icmp .ge 27, 3) := by decide +kernel
theorem dX3_giveOneByRest_9 : decode cX3_giveOneByRest 9 = .ok (.aload_n 0, 1) := by decide +kernel
theorem dX3_giveOneByRest_10 : decode cX3_giveOneByRest 10 = .ok (.getfield 15, 3) := by decide +kernel
theorem dX3_giveOneByRest_13 : decode cX3_giveOneByRest 13 = .ok (.iload_n 3, 1) := by decide +kernel
theorem dX3_giveOneByRest_14 : decode cX3_giveOneByRest 14 = .ok (.laload, 1) := by decide +kernel
theorem dX3_giveOneByRest_15 : decode cX3_giveOneByRest 15 = .ok (.aload_n 0, 1) := by decide +kernel
theorem dX3_giveOneByRest_16 : decode cX3_giveOneByRest 16 = .ok (.getfield 15, 3) := by decide +kernel
theorem dX3_giveOneByRest_19 : decode cX3_giveOneByRest 19 = .ok (.iload_n 2, 1) := by decide +kernel
theorem dX3_giveOneByRest_20 : decode cX3_giveOneByRest 20 = .ok (.laload, 1) := by decide +kernel
theorem dX3_giveOneByRest_21 : decode cX3_giveOneByRest 21 = .ok (.lcmp, 1) := by decide +kernel
theorem dX3_giveOneByRest_22 : decode cX3_giveOneByRest 22 = .ok (.ifCond .le 5, 3) := by decide +kernel
theorem dX3_giveOneByRest_25 : decode cX3_giveOneByRest 25 = .ok (.iload_n 3, 1) := by decide +kernel
theorem dX3_giveOneByRest_26 : decode cX3_giveOneByRest 26 = .ok (.istore_n 2, 1) := by decide +kernel
theorem dX3_giveOneByRest_27 : decode cX3_giveOneByRest 27 = .ok (.iinc 3 1, 3) := by decide +kernel
theorem dX3_giveOneByRest_30 : decode cX3_giveOneByRest 30 = .ok (.goto (-26), 3) := by decide +kernel
theorem dX3_giveOneByRest_33 : decode cX3_giveOneByRest 33 = .ok (.aload_n 0, 1) := by decide +kernel
theorem dX3_giveOneByRest_34 : decode cX3_giveOneByRest 34 = .ok (.getfield 9, 3) := by decide +kernel
theorem dX3_giveOneByRest_37 : decode cX3_giveOneByRest 37 = .ok (.iload_n 2, 1) := by decide +kernel
theorem dX3_giveOneByRest_38 : decode cX3_giveOneByRest 38 = .ok (.dup2, 1) := by decide +kernel
theorem dX3_giveOneByRest_39 : decode cX3_giveOneByRest 39 = .ok (.iaload, 1) := by decide +kernel
theorem dX3_giveOneByRest_40 : decode cX3_giveOneByRest 40 = .ok (.iconst 1, 1) := by decide +kernel
theorem dX3_giveOneByRest_41 : decode cX3_giveOneByRest 41 = .ok (.iadd, 1) := by decide +kernel
theorem dX3_giveOneByRest_42 : decode cX3_giveOneByRest 42 = .ok (.iastore, 1) := by decide +kernel
theorem dX3_giveOneByRest_43 : decode cX3_giveOneByRest 43 = .ok (.aload_n 0, 1) := by decide +kernel
theorem dX3_giveOneByRest_44 : decode cX3_giveOneByRest 44 = .ok (.getfield 15, 3) := by decide +kernel
theorem dX3_giveOneByRest_47 : decode cX3_giveOneByRest 47 = .ok (.iload_n 2, 1) := by decide +kernel
theorem dX3_giveOneByRest_48 : decode cX3_giveOneByRest 48 = .ok (.ldc2_w 23, 3) := by decide +kernel
theorem dX3_giveOneByRest_51 : decode cX3_giveOneByRest 51 = .ok (.lastore, 1) := by decide +kernel
theorem dX3_giveOneByRest_52 : decode cX3_giveOneByRest 52 = .ok (.return_, 1) := by decide +kernel
theorem dX4_init_0 : decode cX4_init 0 = .ok (.aload_n 0, 1) := by decide +kernel
theorem dX4_init_1 : decode cX4_init 1 = .ok (.invokespecial 3, 3) := by decide +kernel
theorem dX4_init_4 : decode cX4_init 4 = .ok (.aload_n 0, 1) := by decide +kernel
theorem dX4_init_5 : decode cX4_init 5 = .ok (.bipush 101, 2) := by decide +kernel
theorem dX4_init_7 : decode cX4_init 7 = .ok (.newarray .int, 2) := by decide +kernel
theorem dX4_init_9 : decode cX4_init 9 = .ok (.putfield 9, 3) := by decide +kernel
theorem dX4_init_12 : decode cX4_init 12 = .ok (.aload_n 0, 1) := by decide +kernel
theorem dX4_init_13 : decode cX4_init 13 = .ok (.bipush 101, 2) := by decide +kernel
theorem dX4_init_15 : decode cX4_init 15 = .ok (.newarray .int, 2) := by decide +kernel
theorem dX4_init_17 : decode cX4_init 17 = .ok (.putfield 15, 3) := by decide +kernel
theorem dX4_init_20 : decode cX4_init 20 = .ok (.return_, 1) := by decide +kernel
theorem dX4_plan_0 : decode cX4_plan 0 = .ok (.aload_n 0, 1) := by decide +kernel
theorem dX4_plan_1 : decode cX4_plan 1 = .ok (.getfield 9, 3) := by decide +kernel
theorem dX4_plan_4 : decode cX4_plan 4 = .ok (.iload_n 3, 1) := by decide +kernel
theorem dX4_plan_5 : decode cX4_plan 5 = .ok (.iconst 0, 1) := by decide +kernel
theorem dX4_plan_6 : decode cX4_plan 6 = .ok (.iastore, 1) := by decide +kernel
theorem dX4_plan_7 : decode cX4_plan 7 = .ok (.aload_n 0, 1) := by decide +kernel
theorem dX4_plan_8 : decode cX4_plan 8 = .ok (.getfield 15, 3) := by decide +kernel
theorem dX4_plan_11 : decode cX4_plan 11 = .ok (.iload_n 3, 1) := by decide +kernel
theorem dX4_plan_12 : decode cX4_plan 12 = .ok (.iload_n 3, 1) := by decide +kernel
theorem dX4_plan_13 : decode cX4_plan 13 = .ok (.iastore, 1) := by decide +kernel
theorem dX4_plan_14 : decode cX4_plan 14 = .ok (.iload_n 3, 1) := by decide +kernel
theorem dX4_plan_15 : decode cX4_plan 15 = .ok (.iconst 1, 1) := by decide +kernel
theorem dX4_plan_16 : decode cX4_plan 16 = .ok (.isub, 1) := by decide +kernel
theorem dX4_plan_17 : decode cX4_plan 17 = .ok (.istore 4, 2) := by decide +kernel
theorem dX4_plan_19 : decode cX4_plan 19 = .ok (.iload 4, 2) := by decide +kernel
theorem dX4_plan_21 : decode cX4_plan 21 = .ok (.iload_n 2, 1) := by decide +kernel
theorem dX4_plan_22 : decode cX4_plan 22 = .ok (.if_icmp .lt 17, 3) := by decide +kernel
theorem dX4_plan_25 : decode cX4_plan 25 = .ok (.aload_n 0, 1) := by decide +kernel
theorem dX4_plan_26 : decode cX4_plan 26 = .ok (.aload_n 1, 1) := by decide +kernel
theorem dX4_plan_27 : decode cX4_plan 27 = .ok (.iload 4, 2) := by decide +kernel
theorem dX4_plan_29 : decode cX4_plan 29 = .ok (.iload_n 3, 1) := by decide +kernel
theorem dX4_plan_30 : decode cX4_plan 30 = .ok (.invokevirtual 18, 3) := by decide +kernel
theorem dX4_plan_33 : decode cX4_plan 33 = .ok (.iinc 4 (-1), 3) := by decide +kernel
theorem dX4_plan_36 : decode cX4_plan 36 = .ok (.goto (-17), 3) := by decide +kernel
theorem dX4_plan_39 : decode cX4_plan 39 = .ok (.return_, 1) := by decide +kernel
theorem dX4_planFrom_0 : decode cX4_planFrom 0 = .ok (.aload_n 0, 1) := by decide +kernel
theorem dX4_planFrom_1 : decode cX4_planFrom 1 = .ok (.getfield 9, 3) := by decide +kernel
theorem dX4_planFrom_4 : decode cX4_planFrom 4 = .ok (.iload_n 2, 1) := by decide +kernel
theorem dX4_planFrom_5 : decode cX4_planFrom 5 = .ok (.bipush (-2), 2) := by decide +kernel
theorem dX4_planFrom_7 : decode cX4_planFrom 7 = .ok (.iastore, 1) := by decide +kernel
theorem dX4_planFrom_8 : decode cX4_planFrom 8 = .ok (.aload_n 0, 1) := by decide +kernel
theorem dX4_planFrom_9 : decode cX4_planFrom 9 = .ok (.getfield 15, 3) := by decide +kernel
theorem dX4_planFrom_12 : decode cX4_planFrom 12 = .ok (.iload_n 2, 1) := by decide +kernel
theorem dX4_planFrom_13 : decode cX4_planFrom 13 = .ok (.iload_n 2, 1) := by decide +kernel
theorem dX4_planFrom_14 : decode cX4_planFrom 14 = .ok (.iastore, 1) := by decide +kernel
theorem dX4_planFrom_15 : decode cX4_planFrom 15 = .ok (.iload_n 3, 1) := by decide +kernel
theorem dX4_planFrom_16 : decode cX4_planFrom 16 = .ok (.istore 4, 2) := by decide +kernel
theorem dX4_planFrom_18 : decode cX4_planFrom 18 = .ok (.iload 4, 2) := by decide +kernel
theorem dX4_planFrom_20 : decode cX4_planFrom 20 = .ok (.iload_n 2, 1) := by decide +kernel
theorem dX4_planFrom_21 : decode cX4_planFrom 21 = .ok (.if_icmp .le 69, 3) := by decide +kernel
theorem dX4_planFrom_24 : decode cX4_planFrom 24 = .ok (.aload_n 0, 1) := by decide +kernel
theorem dX4_planFrom_25 : decode cX4_planFrom 25 = .ok (.getfield 9, 3) := by decide +kernel
theorem dX4_planFrom_28 : decode cX4_planFrom 28 = .ok (.iload_n 2, 1) := by decide +kernel
theorem dX4_planFrom_29 : decode cX4_planFrom 29 = .ok (.iaload, 1) := by decide +kernel
theorem dX4_planFrom_30 : decode cX4_planFrom 30 = .ok (.iconst 1, 1) := by decide +kernel
theorem dX4_planFrom_31 : decode cX4_planFrom 31 = .ok (.if_icmp .eq 59, 3) := by decide +kernel
theorem dX4_planFrom_34 : decode cX4_planFrom 34 = .ok (.aload_n 0, 1) := by decide +kernel
theorem dX4_planFrom_35 : decode cX4_planFrom 35 = .ok (.iload_n 2, 1) := by decide +kernel
theorem dX4_planFrom_36 : decode cX4_planFrom 36 = .ok (.iload 4, 2) := by decide +kernel
theorem dX4_planFrom_38 : decode cX4_planFrom 38 = .ok (.invokevirtual 22, 3) := by decide +kernel
theorem dX4_planFrom_41 : decode cX4_planFrom 41 = .ok (.ifCond .eq 43, 3) := by decide +kernel
theorem dX4_planFrom_44 : decode cX4_planFrom 44 = .ok (.aload_n 1, 1) := by decide +kernel
theorem dX4_planFrom_45 : decode cX4_planFrom 45 = .ok (.iload_n 2, 1) := by decide +kernel
theorem dX4_planFrom_46 : decode cX4_planFrom 46 = .ok (.iload 4, 2) := by decide +kernel
theorem dX4_planFrom_48 : decode cX4_planFrom 48 = .ok (.aload_n 1, 1) := by decide +kernel
theorem dX4_planFrom_49 : decode cX4_planFrom 49 = .ok (.getfield 26, 3) := by decide +kernel
theorem dX4_planFrom_52 : decode cX4_planFrom 52 = .ok (.iload 4, 2) := by decide +kernel
theorem dX4_planFrom_54 : decode cX4_planFrom 54 = .ok (.iaload, 1) := by decide +kernel
theorem dX4_planFrom_55 : decode cX4_planFrom 55 = .ok (.invokevirtual 31, 3) := by decide +kernel
theorem dX4_planFrom_58 : decode cX4_planFrom 58 = .ok (.ifCond .eq 26, 3) := by decide +kernel
theorem dX4_planFrom_61 : decode cX4_planFrom 61 = .ok (.aload_n 0, 1) := by decide +kernel
theorem dX4_planFrom_62 : decode cX4_planFrom 62 = .ok (.getfield 9, 3) := by decide +kernel
theorem dX4_planFrom_65 : decode cX4_planFrom 65 = .ok (.iload_n 2, 1) := by decide +kernel
theorem dX4_planFrom_66 : decode cX4_planFrom 66 = .ok (.aload_n 0, 1) := by decide +kernel
theorem dX4_planFrom_67 : decode cX4_planFrom 67 = .ok (.getfield 9, 3) := by decide +kernel
theorem dX4_planFrom_70 : decode cX4_planFrom 70 = .ok (.iload 4, 2) := by decide +kernel
theorem dX4_planFrom_72 : decode cX4_planFrom 72 = .ok (.iaload, 1) := by decide +kernel
theorem dX4_planFrom_73 : decode cX4_planFrom 73 = .ok (.iconst 1, 1) := by decide +kernel
theorem dX4_planFrom_74 : decode cX4_planFrom 74 = .ok (.iadd, 1) := by decide +kernel
theorem dX4_planFrom_75 : decode cX4_planFrom 75 = .ok (.iastore, 1) := by decide +kernel
theorem dX4_planFrom_76 : decode cX4_planFrom 76 = .ok (.aload_n 0, 1) := by decide +kernel
theorem dX4_planFrom_77 : decode cX4_planFrom 77 = .ok (.getfield 15, 3) := by decide +kernel
theorem dX4_planFrom_80 : decode cX4_planFrom 80 = .ok (.iload_n 2, 1) := by decide +kernel
theorem dX4_planFrom_81 : decode cX4_planFrom 81 = .ok (.iload 4, 2) := by decide +kernel
theorem dX4_planFrom_83 : decode cX4_planFrom 83 = .ok (.iastore, 1) := by decide +kernel
theorem dX4_planFrom_84 : decode cX4_planFrom 84 = .ok (.iinc 4 (-1), 3) := by decide +kernel
theorem dX4_planFrom_87 : decode cX4_planFrom 87 = .ok (.goto (-69), 3) := by decide +kernel
theorem dX4_planFrom_90 : decode cX4_planFrom 90 = .ok (.return_, 1) := by decide +kernel
theorem dX4_isShorter_0 : decode cX4_isShorter 0 = .ok (.aload_n 0, 1) := by decide +kernel
theorem dX4_isShorter_1 : decode cX4_isShorter 1 = .ok (.getfield 9, 3) := by decide +kernel
theorem dX4_isShorter_4 : decode cX4_isShorter 4 = .ok (.iload_n 2, 1) := by decide +kernel
theorem dX4_isShorter_5 : decode cX4_isShorter 5 = .ok (.iaload, 1) := by decide +kernel
theorem dX4_isShorter_6 : decode cX4_isShorter 6 = .ok (.bipush (-2), 2) := by decide +kernel
theorem dX4_isShorter_8 : decode cX4_isShorter 8 = .ok (.if_icmp .eq 35, 3) := by decide +kernel
theorem dX4_isShorter_11 : decode cX4_isShorter 11 = .ok (.aload_n 0, 1) := by decide +kernel
theorem dX4_isShorter_12 : decode cX4_isShorter 12 = .ok (.getfield 9, 3) := by decide +kernel
theorem dX4_isShorter_15 : decode cX4_isShorter 15 = .ok (.iload_n 1, 1) := by decide +kernel
theorem dX4_isShorter_16 : decode cX4_isShorter 16 = .ok (.iaload, 1) := by decide +kernel
theorem dX4_isShorter_17 : decode cX4_isShorter 17 = .ok (.bipush (-2), 2) := by decide +kernel
theorem dX4_isShorter_19 : decode cX4_isShorter 19 = .ok (.if_icmp .eq 20, 3) := by decide +kernel
theorem dX4_isShorter_22 : decode cX4_isShorter 22 = .ok (.aload_n 0, 1) := by decide +kernel
theorem dX4_isShorter_23 : decode cX4_isShorter 23 = .ok (.getfield 9, 3) := by decide +kernel
theorem dX4_isShorter_26 : decode cX4_isShorter 26 = .ok (.iload_n 2, 1) := by decide +kernel
theorem dX4_isShorter_27 : decode cX4_isShorter 27 = .ok (.iaload, 1) := by decide +kernel
theorem dX4_isShorter_28 : decode cX4_isShorter 28 = .ok (.iconst 1, 1) := by decide +kernel
theorem dX4_isShorter_29 : decode cX4_isShorter 29 = .ok (.iadd, 1) := by decide +kernel
theorem dX4_isShorter_30 : decode cX4_isShorter 30 = .ok (.aload_n 0, 1) := by decide +kernel
theorem dX4_isShorter_31 : decode cX4_isShorter 31 = .ok (.getfield 9, 3) := by decide +kernel
theorem dX4_isShorter_34 : decode cX4_isShorter 34 = .ok (.iload_n 1, 1) := by decide +kernel
theorem dX4_isShorter_35 : decode cX4_isShorter 35 = .ok (.iaload, 1) := by decide +kernel
theorem dX4_isShorter_36 : decode cX4_isShorter 36 = .ok (.if_icmp .ge 7, 3) := by decide +kernel
theorem dX4_isShorter_39 : decode cX4_isShorter 39 = .ok (.iconst 1, 1) := by decide +kernel
theorem dX4_isShorter_40 : decode cX4_isShorter 40 = .ok (.goto 4, 3) := by decide +kernel
theorem dX4_isShorter_43 : decode cX4_isShorter 43 = .ok (.iconst 0, 1) := by decide +kernel
theorem dX4_isShorter_44 : decode cX4_isShorter 44 = .ok (.ireturn, 1) := by decide +kernel
theorem dX4_heightAt_0 : decode cX4_heightAt 0 = .ok (.iload_n 1, 1) := by decide +kernel
theorem dX4_heightAt_1 : decode cX4_heightAt 1 = .ok (.istore 4, 2) := by decide +kernel
theorem dX4_heightAt_3 : decode cX4_heightAt 3 = .ok (.iconst 0, 1) := by decide +kernel
theorem dX4_heightAt_4 : decode cX4_heightAt 4 = .ok (.istore 5, 2) := by decide +kernel
theorem dX4_heightAt_6 : decode cX4_heightAt 6 = .ok (.iload 5, 2) := by decide +kernel
theorem dX4_heightAt_8 : decode cX4_heightAt 8 = .ok (.iload_n 3, 1) := by decide +kernel
theorem dX4_heightAt_9 : decode cX4_heightAt 9 = .ok (.if_icmp .ge 24, 3) := by decide +kernel
theorem dX4_heightAt_12 : decode cX4_heightAt 12 = .ok (.iload 4, 2) := by decide +kernel
theorem dX4_heightAt_14 : decode cX4_heightAt 14 = .ok (.iload_n 2, 1) := by decide +kernel
theorem dX4_heightAt_15 : decode cX4_heightAt 15 = .ok (.if_icmp .ge 18, 3) := by decide +kernel
theorem dX4_heightAt_18 : decode cX4_heightAt 18 = .ok (.aload_n 0, 1) := by decide +kernel
theorem dX4_heightAt_19 : decode cX4_heightAt 19 = .ok (.getfield 15, 3) := by decide +kernel
theorem dX4_heightAt_22 : decode cX4_heightAt 22 = .ok (.iload 4, 2) := by decide +kernel
theorem dX4_heightAt_24 : decode cX4_heightAt 24 = .ok (.iaload, 1) := by decide +kernel
theorem dX4_heightAt_25 : decode cX4_heightAt 25 = .ok (.istore 4, 2) := by decide +kernel
theorem dX4_heightAt_27 : decode cX4_heightAt 27 = .ok (.iinc 5 1, 3) := by decide +kernel
theorem dX4_heightAt_30 : decode cX4_heightAt 30 = .ok (.goto (-24), 3) := by decide +kernel
theorem dX4_heightAt_33 : decode cX4_heightAt 33 = .ok (.iload 4, 2) := by decide +kernel
theorem dX4_heightAt_35 : decode cX4_heightAt 35 = .ok (.ireturn, 1) := by decide +kernel
end
section
theorem dX5_init_0 : decode cX5_init 0 = .ok (.aload_n 0, 1) := by decide +kernel
theorem dX5_init_1 : decode cX5_init 1 = .ok (.invokespecial 1, 3) := by decide +kernel
theorem dX5_init_4 : decode cX5_init 4 = .ok (.aload_n 0, 1) := by decide +kernel
theorem dX5_init_5 : decode cX5_init 5 = .ok (.iconst 0, 1) := by decide +kernel
theorem dX5_init_6 : decode cX5_init 6 = .ok (.putfield 7, 3) := by decide +kernel
theorem dX5_init_9 : decode cX5_init 9 = .ok (.aload_n 0, 1) := by decide +kernel
theorem dX5_init_10 : decode cX5_init 10 = .ok (.iconst 4, 1) := by decide +kernel
theorem dX5_init_11 : decode cX5_init 11 = .ok (.newarray .int, 2) := by decide +kernel
theorem dX5_init_13 : decode cX5_init 13 = .ok (.dup, 1) := by decide +kernel
theorem dX5_init_14 : decode cX5_init 14 = .ok (.iconst 0, 1) := by decide +kernel
theorem dX5_init_15 : decode cX5_init 15 = .ok (.iconst 2, 1) := by decide +kernel
theorem dX5_init_16 : decode cX5_init 16 = .ok (.iastore, 1) := by decide +kernel
theorem dX5_init_17 : decode cX5_init 17 = .ok (.dup, 1) := by decide +kernel
theorem dX5_init_18 : decode cX5_init 18 = .ok (.iconst 1, 1) := by decide +kernel
theorem dX5_init_19 : decode cX5_init 19 = .ok (.bipush 100, 2) := by decide +kernel
theorem dX5_init_21 : decode cX5_init 21 = .ok (.iastore, 1) := by decide +kernel
theorem dX5_init_22 : decode cX5_init 22 = .ok (.dup, 1) := by decide +kernel
theorem dX5_init_23 : decode cX5_init 23 = .ok (.iconst 2, 1) := by decide +kernel
theorem dX5_init_24 : decode cX5_init 24 = .ok (.bipush 10, 2) := by decide +kernel
theorem dX5_init_26 : decode cX5_init 26 = .ok (.iastore, 1) := by decide +kernel
theorem dX5_init_27 : decode cX5_init 27 = .ok (.dup, 1) := by decide +kernel
theorem dX5_init_28 : decode cX5_init 28 = .ok (.iconst 3, 1) := by decide +kernel
theorem dX5_init_29 : decode cX5_init 29 = .ok (.ldc 13, 2) := by decide +kernel
theorem dX5_init_31 : decode cX5_init 31 = .ok (.iastore, 1) := by decide +kernel
theorem dX5_init_32 : decode cX5_init 32 = .ok (.putfield 14, 3) := by decide +kernel
theorem dX5_init_35 : decode cX5_init 35 = .ok (.aload_n 0, 1) := by decide +kernel
theorem dX5_init_36 : decode cX5_init 36 = .ok (.new 18, 3) := by decide +kernel
theorem dX5_init_39 : decode cX5_init 39 = .ok (.dup, 1) := by decide +kernel
theorem dX5_init_40 : decode cX5_init 40 = .ok (.invokespecial 20, 3) := by decide +kernel
theorem dX5_init_43 : decode cX5_init 43 = .ok (.putfield 21, 3) := by decide +kernel
theorem dX5_init_46 : decode cX5_init 46 = .ok (.aload_n 0, 1) := by decide +kernel
theorem dX5_init_47 : decode cX5_init 47 = .ok (.new 25, 3) := by decide +kernel
theorem dX5_init_50 : decode cX5_init 50 = .ok (.dup, 1) := by decide +kernel
theorem dX5_init_51 : decode cX5_init 51 = .ok (.invokespecial 27, 3) := by decide +kernel
theorem dX5_init_54 : decode cX5_init 54 = .ok (.putfield 28, 3) := by decide +kernel
theorem dX5_init_57 : decode cX5_init 57 = .ok (.aload_n 0, 1) := by decide +kernel
theorem dX5_init_58 : decode cX5_init 58 = .ok (.new 32, 3) := by decide +kernel
theorem dX5_init_61 : decode cX5_init 61 = .ok (.dup, 1) := by decide +kernel
theorem dX5_init_62 : decode cX5_init 62 = .ok (.invokespecial 34, 3) := by decide +kernel
theorem dX5_init_65 : decode cX5_init 65 = .ok (.putfield 35, 3) := by decide +kernel
theorem dX5_init_68 : decode cX5_init 68 = .ok (.aload_n 0, 1) := by decide +kernel
theorem dX5_init_69 : decode cX5_init 69 = .ok (.new 39, 3) := by decide +kernel
theorem dX5_init_72 : decode cX5_init 72 = .ok (.dup, 1) := by decide +kernel
theorem dX5_init_73 : decode cX5_init 73 = .ok (.invokespecial 41, 3) := by decide +kernel
theorem dX5_init_76 : decode cX5_init 76 = .ok (.putfield 42, 3) := by decide +kernel
theorem dX5_init_79 : decode cX5_init 79 = .ok (.aload_n 0, 1) := by decide +kernel
theorem dX5_init_80 : decode cX5_init 80 = .ok (.new 46, 3) := by decide +kernel
theorem dX5_init_83 : decode cX5_init 83 = .ok (.dup, 1) := by decide +kernel
theorem dX5_init_84 : decode cX5_init 84 = .ok (.invokespecial 48, 3) := by decide +kernel
theorem dX5_init_87 : decode cX5_init 87 = .ok (.putfield 49, 3) := by decide +kernel
theorem dX5_init_90 : decode cX5_init 90 = .ok (.return_, 1) := by decide +kernel
theorem dX5_rule_0 : decode cX5_rule 0 = .ok (.iload_n 1, 1) := by decide +kernel
theorem dX5_rule_1 : decode cX5_rule 1 = .ok (.ifCond .lt 8, 3) := by decide +kernel
theorem dX5_rule_4 : decode cX5_rule 4 = .ok (.iload_n 1, 1) := by decide +kernel
theorem dX5_rule_5 : decode cX5_rule 5 = .ok (.iconst 4, 1) := by decide +kernel
theorem dX5_rule_6 : decode cX5_rule 6 = .ok (.if_icmp .lt 5, 3) := by decide +kernel
theorem dX5_rule_9 : decode cX5_rule 9 = .ok (.iconst (-1), 1) := by decide +kernel
theorem dX5_rule_10 : decode cX5_rule 10 = .ok (.ireturn, 1) := by decide +kernel
theorem dX5_rule_11 : decode cX5_rule 11 = .ok (.iload_n 2, 1) := by decide +kernel
theorem dX5_rule_12 : decode cX5_rule 12 = .ok (.getstatic 53, 3) := by decide +kernel
theorem dX5_rule_15 : decode cX5_rule 15 = .ok (.iload_n 1, 1) := by decide +kernel
theorem dX5_rule_16 : decode cX5_rule 16 = .ok (.iaload, 1) := by decide +kernel
theorem dX5_rule_17 : decode cX5_rule 17 = .ok (.getstatic 56, 3) := by decide +kernel
theorem dX5_rule_20 : decode cX5_rule 20 = .ok (.iload_n 1, 1) := by decide +kernel
theorem dX5_rule_21 : decode cX5_rule 21 = .ok (.iaload, 1) := by decide +kernel
theorem dX5_rule_22 : decode cX5_rule 22 = .ok (.invokestatic 59, 3) := by decide +kernel
theorem dX5_rule_25 : decode cX5_rule 25 = .ok (.ifCond .ne 5, 3) := by decide +kernel
theorem dX5_rule_28 : decode cX5_rule 28 = .ok (.iconst (-1), 1) := by decide +kernel
theorem dX5_rule_29 : decode cX5_rule 29 = .ok (.ireturn, 1) := by decide +kernel
theorem dX5_rule_30 : decode cX5_rule 30 = .ok (.aload_n 0, 1) := by decide +kernel
theorem dX5_rule_31 : decode cX5_rule 31 = .ok (.getfield 7, 3) := by decide +kernel
theorem dX5_rule_34 : decode cX5_rule 34 = .ok (.ifCond .le 6, 3) := by decide +kernel
theorem dX5_rule_37 : decode cX5_rule 37 = .ok (.bipush (-4), 2) := by decide +kernel
theorem dX5_rule_39 : decode cX5_rule 39 = .ok (.ireturn, 1) := by decide +kernel
theorem dX5_rule_40 : decode cX5_rule 40 = .ok (.aload_n 0, 1) := by decide +kernel
theorem dX5_rule_41 : decode cX5_rule 41 = .ok (.getfield 14, 3) := by decide +kernel
theorem dX5_rule_44 : decode cX5_rule 44 = .ok (.iload_n 1, 1) := by decide +kernel
theorem dX5_rule_45 : decode cX5_rule 45 = .ok (.iaload, 1) := by decide +kernel
theorem dX5_rule_46 : decode cX5_rule 46 = .ok (.istore_n 3, 1) := by decide +kernel
theorem dX5_rule_47 : decode cX5_rule 47 = .ok (.aload_n 0, 1) := by decide +kernel
theorem dX5_rule_48 : decode cX5_rule 48 = .ok (.getfield 14, 3) := by decide +kernel
theorem dX5_rule_51 : decode cX5_rule 51 = .ok (.iload_n 1, 1) := by decide +kernel
theorem dX5_rule_52 : decode cX5_rule 52 = .ok (.iload_n 2, 1) := by decide +kernel
theorem dX5_rule_53 : decode cX5_rule 53 = .ok (.iastore, 1) := by decide +kernel
theorem dX5_rule_54 : decode cX5_rule 54 = .ok (.iload_n 3, 1) := by decide +kernel
theorem dX5_rule_55 : decode cX5_rule 55 = .ok (.ireturn, 1) := by decide +kernel
theorem dX5_fund_0 : decode cX5_fund 0 = .ok (.iload_n 1, 1) := by decide +kernel
theorem dX5_fund_1 : decode cX5_fund 1 = .ok (.invokestatic 63, 3) := by decide +kernel
theorem dX5_fund_4 : decode cX5_fund 4 = .ok (.ifCond .eq 13, 3) := by decide +kernel
theorem dX5_fund_7 : decode cX5_fund 7 = .ok (.iload_n 2, 1) := by decide +kernel
theorem dX5_fund_8 : decode cX5_fund 8 = .ok (.iconst 1, 1) := by decide +kernel
theorem dX5_fund_9 : decode cX5_fund 9 = .ok (.ldc 67, 2) := by decide +kernel
theorem dX5_fund_11 : decode cX5_fund 11 = .ok (.invokestatic 59, 3) := by decide +kernel
theorem dX5_fund_14 : decode cX5_fund 14 = .ok (.ifCond .ne 5, 3) := by decide +kernel
theorem dX5_fund_17 : decode cX5_fund 17 = .ok (.iconst (-1), 1) := by decide +kernel
theorem dX5_fund_18 : decode cX5_fund 18 = .ok (.ireturn, 1) := by decide +kernel
theorem dX5_fund_19 : decode cX5_fund 19 = .ok (.aload_n 0, 1) := by decide +kernel
theorem dX5_fund_20 : decode cX5_fund 20 = .ok (.getfield 21, 3) := by decide +kernel
theorem dX5_fund_23 : decode cX5_fund 23 = .ok (.getfield 68, 3) := by decide +kernel
theorem dX5_fund_26 : decode cX5_fund 26 = .ok (.iload_n 2, 1) := by decide +kernel
theorem dX5_fund_27 : decode cX5_fund 27 = .ok (.iadd, 1) := by decide +kernel
theorem dX5_fund_28 : decode cX5_fund 28 = .ok (.ldc 13, 2) := by decide +kernel
theorem dX5_fund_30 : decode cX5_fund 30 = .ok (.if_icmp .le 6, 3) := by decide +kernel
theorem dX5_fund_33 : decode cX5_fund 33 = .ok (.bipush (-3), 2) := by decide +kernel
theorem dX5_fund_35 : decode cX5_fund 35 = .ok (.ireturn, 1) := by decide +kernel
theorem dX5_fund_36 : decode cX5_fund 36 = .ok (.aload_n 0, 1) := by decide +kernel
theorem dX5_fund_37 : decode cX5_fund 37 = .ok (.getfield 21, 3) := by decide +kernel
theorem dX5_fund_40 : decode cX5_fund 40 = .ok (.dup, 1) := by decide +kernel
theorem dX5_fund_41 : decode cX5_fund 41 = .ok (.getfield 68, 3) := by decide +kernel
theorem dX5_fund_44 : decode cX5_fund 44 = .ok (.iload_n 2, 1) := by decide +kernel
theorem dX5_fund_45 : decode cX5_fund 45 = .ok (.iadd, 1) := by decide +kernel
theorem dX5_fund_46 : decode cX5_fund 46 = .ok (.putfield 68, 3) := by decide +kernel
theorem dX5_fund_49 : decode cX5_fund 49 = .ok (.aload_n 0, 1) := by decide +kernel
theorem dX5_fund_50 : decode cX5_fund 50 = .ok (.getfield 21, 3) := by decide +kernel
theorem dX5_fund_53 : decode cX5_fund 53 = .ok (.getfield 71, 3) := by decide +kernel
theorem dX5_fund_56 : decode cX5_fund 56 = .ok (.iload_n 1, 1) := by decide +kernel
theorem dX5_fund_57 : decode cX5_fund 57 = .ok (.dup2, 1) := by decide +kernel
theorem dX5_fund_58 : decode cX5_fund 58 = .ok (.iaload, 1) := by decide +kernel
theorem dX5_fund_59 : decode cX5_fund 59 = .ok (.iload_n 2, 1) := by decide +kernel
theorem dX5_fund_60 : decode cX5_fund 60 = .ok (.iadd, 1) := by decide +kernel
theorem dX5_fund_61 : decode cX5_fund 61 = .ok (.iastore, 1) := by decide +kernel
theorem dX5_fund_62 : decode cX5_fund 62 = .ok (.aload_n 0, 1) := by decide +kernel
theorem dX5_fund_63 : decode cX5_fund 63 = .ok (.getfield 21, 3) := by decide +kernel
theorem dX5_fund_66 : decode cX5_fund 66 = .ok (.getfield 71, 3) := by decide +kernel
theorem dX5_fund_69 : decode cX5_fund 69 = .ok (.iload_n 1, 1) := by decide +kernel
theorem dX5_fund_70 : decode cX5_fund 70 = .ok (.iaload, 1) := by decide +kernel
theorem dX5_fund_71 : decode cX5_fund 71 = .ok (.ireturn, 1) := by decide +kernel
theorem dX5_node_0 : decode cX5_node 0 = .ok (.iload_n 1, 1) := by decide +kernel
theorem dX5_node_1 : decode cX5_node 1 = .ok (.invokestatic 63, 3) := by decide +kernel
theorem dX5_node_4 : decode cX5_node 4 = .ok (.ifCond .eq 13, 3) := by decide +kernel
theorem dX5_node_7 : decode cX5_node 7 = .ok (.iload_n 2, 1) := by decide +kernel
theorem dX5_node_8 : decode cX5_node 8 = .ok (.iconst 0, 1) := by decide +kernel
theorem dX5_node_9 : decode cX5_node 9 = .ok (.bipush 100, 2) := by decide +kernel
theorem dX5_node_11 : decode cX5_node 11 = .ok (.invokestatic 59, 3) := by decide +kernel
theorem dX5_node_14 : decode cX5_node 14 = .ok (.ifCond .ne 5, 3) := by decide +kernel
theorem dX5_node_17 : decode cX5_node 17 = .ok (.iconst (-1), 1) := by decide +kernel
theorem dX5_node_18 : decode cX5_node 18 = .ok (.ireturn, 1) := by decide +kernel
theorem dX5_node_19 : decode cX5_node 19 = .ok (.aload_n 0, 1) := by decide +kernel
theorem dX5_node_20 : decode cX5_node 20 = .ok (.getfield 28, 3) := by decide +kernel
theorem dX5_node_23 : decode cX5_node 23 = .ok (.getfield 74, 3) := by decide +kernel
theorem dX5_node_26 : decode cX5_node 26 = .ok (.bipush 8, 2) := by decide +kernel
theorem dX5_node_28 : decode cX5_node 28 = .ok (.if_icmp .lt 6, 3) := by decide +kernel
theorem dX5_node_31 : decode cX5_node 31 = .ok (.bipush (-3), 2) := by decide +kernel
theorem dX5_node_33 : decode cX5_node 33 = .ok (.ireturn, 1) := by decide +kernel
theorem dX5_node_34 : decode cX5_node 34 = .ok (.aload_n 0, 1) := by decide +kernel
theorem dX5_node_35 : decode cX5_node 35 = .ok (.getfield 28, 3) := by decide +kernel
theorem dX5_node_38 : decode cX5_node 38 = .ok (.iload_n 1, 1) := by decide +kernel
theorem dX5_node_39 : decode cX5_node 39 = .ok (.iload_n 2, 1) := by decide +kernel
theorem dX5_node_40 : decode cX5_node 40 = .ok (.invokevirtual 77, 3) := by decide +kernel
theorem dX5_node_43 : decode cX5_node 43 = .ok (.ireturn, 1) := by decide +kernel
theorem dX5_stake_0 : decode cX5_stake 0 = .ok (.aload_n 0, 1) := by decide +kernel
theorem dX5_stake_1 : decode cX5_stake 1 = .ok (.iload_n 1, 1) := by decide +kernel
theorem dX5_stake_2 : decode cX5_stake 2 = .ok (.iload_n 2, 1) := by decide +kernel
theorem dX5_stake_3 : decode cX5_stake 3 = .ok (.iload_n 3, 1) := by decide +kernel
theorem dX5_stake_4 : decode cX5_stake 4 = .ok (.invokevirtual 81, 3) := by decide +kernel
theorem dX5_stake_7 : decode cX5_stake 7 = .ok (.ifCond .ne 5, 3) := by decide +kernel
theorem dX5_stake_10 : decode cX5_stake 10 = .ok (.iconst (-1), 1) := by decide +kernel
theorem dX5_stake_11 : decode cX5_stake 11 = .ok (.ireturn, 1) := by decide +kernel
theorem dX5_stake_12 : decode cX5_stake 12 = .ok (.aload_n 0, 1) := by decide +kernel
theorem dX5_stake_13 : decode cX5_stake 13 = .ok (.getfield 21, 3) := by decide +kernel
theorem dX5_stake_16 : decode cX5_stake 16 = .ok (.getfield 71, 3) := by decide +kernel
theorem dX5_stake_19 : decode cX5_stake 19 = .ok (.iload_n 1, 1) := by decide +kernel
theorem dX5_stake_20 : decode cX5_stake 20 = .ok (.iaload, 1) := by decide +kernel
theorem dX5_stake_21 : decode cX5_stake 21 = .ok (.iload_n 3, 1) := by decide +kernel
theorem dX5_stake_22 : decode cX5_stake 22 = .ok (.if_icmp .ge 6, 3) := by decide +kernel
theorem dX5_stake_25 : decode cX5_stake 25 = .ok (.bipush (-3), 2) := by decide +kernel
theorem dX5_stake_27 : decode cX5_stake 27 = .ok (.ireturn, 1) := by decide +kernel
theorem dX5_stake_28 : decode cX5_stake 28 = .ok (.aload_n 0, 1) := by decide +kernel
theorem dX5_stake_29 : decode cX5_stake 29 = .ok (.getfield 21, 3) := by decide +kernel
theorem dX5_stake_32 : decode cX5_stake 32 = .ok (.getfield 71, 3) := by decide +kernel
theorem dX5_stake_35 : decode cX5_stake 35 = .ok (.iload_n 1, 1) := by decide +kernel
theorem dX5_stake_36 : decode cX5_stake 36 = .ok (.dup2, 1) := by decide +kernel
theorem dX5_stake_37 : decode cX5_stake 37 = .ok (.iaload, 1) := by decide +kernel
theorem dX5_stake_38 : decode cX5_stake 38 = .ok (.iload_n 3, 1) := by decide +kernel
theorem dX5_stake_39 : decode cX5_stake 39 = .ok (.isub, 1) := by decide +kernel
theorem dX5_stake_40 : decode cX5_stake 40 = .ok (.iastore, 1) := by decide +kernel
theorem dX5_stake_41 : decode cX5_stake 41 = .ok (.iload_n 2, 1) := by decide +kernel
theorem dX5_stake_42 : decode cX5_stake 42 = .ok (.iload_n 1, 1) := by decide +kernel
theorem dX5_stake_43 : decode cX5_stake 43 = .ok (.invokestatic 84, 3) := by decide +kernel
theorem dX5_stake_46 : decode cX5_stake 46 = .ok (.istore 4, 2) := by decide +kernel
theorem dX5_stake_48 : decode cX5_stake 48 = .ok (.aload_n 0, 1) := by decide +kernel
theorem dX5_stake_49 : decode cX5_stake 49 = .ok (.getfield 21, 3) := by decide +kernel
theorem dX5_stake_52 : decode cX5_stake 52 = .ok (.getfield 87, 3) := by decide +kernel
theorem dX5_stake_55 : decode cX5_stake 55 = .ok (.iload 4, 2) := by decide +kernel
theorem dX5_stake_57 : decode cX5_stake 57 = .ok (.dup2, 1) := by decide +kernel
theorem dX5_stake_58 : decode cX5_stake 58 = .ok (.iaload, 1) := by decide +kernel
theorem dX5_stake_59 : decode cX5_stake 59 = .ok (.iload_n 3, 1) := by decide +kernel
theorem dX5_stake_60 : decode cX5_stake 60 = .ok (.iadd, 1) := by decide +kernel
theorem dX5_stake_61 : decode cX5_stake 61 = .ok (.iastore, 1) := by decide +kernel
theorem dX5_stake_62 : decode cX5_stake 62 = .ok (.aload_n 0, 1) := by decide +kernel
theorem dX5_stake_63 : decode cX5_stake 63 = .ok (.getfield 21, 3) := by decide +kernel
theorem dX5_stake_66 : decode cX5_stake 66 = .ok (.getfield 87, 3) := by decide +kernel
theorem dX5_stake_69 : decode cX5_stake 69 = .ok (.iload 4, 2) := by decide +kernel
theorem dX5_stake_71 : decode cX5_stake 71 = .ok (.iaload, 1) := by decide +kernel
theorem dX5_stake_72 : decode cX5_stake 72 = .ok (.ireturn, 1) := by decide +kernel
theorem dX5_draw_0 : decode cX5_draw 0 = .ok (.aload_n 0, 1) := by decide +kernel
theorem dX5_draw_1 : decode cX5_draw 1 = .ok (.iload_n 1, 1) := by decide +kernel
theorem dX5_draw_2 : decode cX5_draw 2 = .ok (.iload_n 2, 1) := by decide +kernel
theorem dX5_draw_3 : decode cX5_draw 3 = .ok (.iload_n 3, 1) := by decide +kernel
theorem dX5_draw_4 : decode cX5_draw 4 = .ok (.invokevirtual 81, 3) := by decide +kernel
theorem dX5_draw_7 : decode cX5_draw 7 = .ok (.ifCond .ne 5, 3) := by decide +kernel
theorem dX5_draw_10 : decode cX5_draw 10 = .ok (.iconst (-1), 1) := by decide +kernel
theorem dX5_draw_11 : decode cX5_draw 11 = .ok (.ireturn, 1) := by decide +kernel
theorem dX5_draw_12 : decode cX5_draw 12 = .ok (.iload_n 2, 1) := by decide +kernel
theorem dX5_draw_13 : decode cX5_draw 13 = .ok (.iload_n 1, 1) := by decide +kernel
theorem dX5_draw_14 : decode cX5_draw 14 = .ok (.invokestatic 84, 3) := by decide +kernel
theorem dX5_draw_17 : decode cX5_draw 17 = .ok (.istore 4, 2) := by decide +kernel
theorem dX5_draw_19 : decode cX5_draw 19 = .ok (.aload_n 0, 1) := by decide +kernel
theorem dX5_draw_20 : decode cX5_draw 20 = .ok (.getfield 21, 3) := by decide +kernel
theorem dX5_draw_23 : decode cX5_draw 23 = .ok (.getfield 87, 3) := by decide +kernel
theorem dX5_draw_26 : decode cX5_draw 26 = .ok (.iload 4, 2) := by decide +kernel
theorem dX5_draw_28 : decode cX5_draw 28 = .ok (.iaload, 1) := by decide +kernel
theorem dX5_draw_29 : decode cX5_draw 29 = .ok (.iload_n 3, 1) := by decide +kernel
theorem dX5_draw_30 : decode cX5_draw 30 = .ok (.if_icmp .ge 6, 3) := by decide +kernel
theorem dX5_draw_33 : decode cX5_draw 33 = .ok (.bipush (-3), 2) := by decide +kernel
theorem dX5_draw_35 : decode cX5_draw 35 = .ok (.ireturn, 1) := by decide +kernel
theorem dX5_draw_36 : decode cX5_draw 36 = .ok (.aload_n 0, 1) := by decide +kernel
theorem dX5_draw_37 : decode cX5_draw 37 = .ok (.getfield 28, 3) := by decide +kernel
theorem dX5_draw_40 : decode cX5_draw 40 = .ok (.getfield 90, 3) := by decide +kernel
theorem dX5_draw_43 : decode cX5_draw 43 = .ok (.iload_n 2, 1) := by decide +kernel
theorem dX5_draw_44 : decode cX5_draw 44 = .ok (.baload, 1) := by decide +kernel
theorem dX5_draw_45 : decode cX5_draw 45 = .ok (.ifCond .eq 6, 3) := by decide +kernel
theorem dX5_draw_48 : decode cX5_draw 48 = .ok (.bipush (-4), 2) := by decide +kernel
theorem dX5_draw_50 : decode cX5_draw 50 = .ok (.ireturn, 1) := by decide +kernel
theorem dX5_draw_51 : decode cX5_draw 51 = .ok (.aload_n 0, 1) := by decide +kernel
theorem dX5_draw_52 : decode cX5_draw 52 = .ok (.getfield 21, 3) := by decide +kernel
theorem dX5_draw_55 : decode cX5_draw 55 = .ok (.getfield 87, 3) := by decide +kernel
theorem dX5_draw_58 : decode cX5_draw 58 = .ok (.iload 4, 2) := by decide +kernel
theorem dX5_draw_60 : decode cX5_draw 60 = .ok (.dup2, 1) := by decide +kernel
theorem dX5_draw_61 : decode cX5_draw 61 = .ok (.iaload, 1) := by decide +kernel
theorem dX5_draw_62 : decode cX5_draw 62 = .ok (.iload_n 3, 1) := by decide +kernel
theorem dX5_draw_63 : decode cX5_draw 63 = .ok (.isub, 1) := by decide +kernel
theorem dX5_draw_64 : decode cX5_draw 64 = .ok (.iastore, 1) := by decide +kernel
theorem dX5_draw_65 : decode cX5_draw 65 = .ok (.aload_n 0, 1) := by decide +kernel
theorem dX5_draw_66 : decode cX5_draw 66 = .ok (.getfield 21, 3) := by decide +kernel
theorem dX5_draw_69 : decode cX5_draw 69 = .ok (.getfield 94, 3) := by decide +kernel
theorem dX5_draw_72 : decode cX5_draw 72 = .ok (.iload_n 1, 1) := by decide +kernel
theorem dX5_draw_73 : decode cX5_draw 73 = .ok (.aload_n 0, 1) := by decide +kernel
theorem dX5_draw_74 : decode cX5_draw 74 = .ok (.getfield 7, 3) := by decide +kernel
theorem dX5_draw_77 : decode cX5_draw 77 = .ok (.aload_n 0, 1) := by decide +kernel
theorem dX5_draw_78 : decode cX5_draw 78 = .ok (.getfield 14, 3) := by decide +kernel
theorem dX5_draw_81 : decode cX5_draw 81 = .ok (.iconst 0, 1) := by decide +kernel
theorem dX5_draw_82 : decode cX5_draw 82 = .ok (.iaload, 1) := by decide +kernel
theorem dX5_draw_83 : decode cX5_draw 83 = .ok (.iadd, 1) := by decide +kernel
theorem dX5_draw_84 : decode cX5_draw 84 = .ok (.invokestatic 97, 3) := by decide +kernel
theorem dX5_draw_87 : decode cX5_draw 87 = .ok (.dup2, 1) := by decide +kernel
theorem dX5_draw_88 : decode cX5_draw 88 = .ok (.iaload, 1) := by decide +kernel
theorem dX5_draw_89 : decode cX5_draw 89 = .ok (.iload_n 3, 1) := by decide +kernel
theorem dX5_draw_90 : decode cX5_draw 90 = .ok (.iadd, 1) := by decide +kernel
theorem dX5_draw_91 : decode cX5_draw 91 = .ok (.iastore, 1) := by decide +kernel
theorem dX5_draw_92 : decode cX5_draw 92 = .ok (.aload_n 0, 1) := by decide +kernel
theorem dX5_draw_93 : decode cX5_draw 93 = .ok (.getfield 21, 3) := by decide +kernel
theorem dX5_draw_96 : decode cX5_draw 96 = .ok (.getfield 87, 3) := by decide +kernel
theorem dX5_draw_99 : decode cX5_draw 99 = .ok (.iload 4, 2) := by decide +kernel
theorem dX5_draw_101 : decode cX5_draw 101 = .ok (.iaload, 1) := by decide +kernel
theorem dX5_draw_102 : decode cX5_draw 102 = .ok (.ireturn, 1) := by decide +kernel
theorem dX5_join_0 : decode cX5_join 0 = .ok (.aload_n 0, 1) := by decide +kernel
theorem dX5_join_1 : decode cX5_join 1 = .ok (.getfield 28, 3) := by decide +kernel
theorem dX5_join_4 : decode cX5_join 4 = .ok (.iload_n 1, 1) := by decide +kernel
theorem dX5_join_5 : decode cX5_join 5 = .ok (.invokevirtual 100, 3) := by decide +kernel
theorem dX5_join_8 : decode cX5_join 8 = .ok (.ifCond .ne 5, 3) := by decide +kernel
theorem dX5_join_11 : decode cX5_join 11 = .ok (.iconst (-1), 1) := by decide +kernel
theorem dX5_join_12 : decode cX5_join 12 = .ok (.ireturn, 1) := by decide +kernel
theorem dX5_join_13 : decode cX5_join 13 = .ok (.aload_n 0, 1) := by decide +kernel
theorem dX5_join_14 : decode cX5_join 14 = .ok (.getfield 28, 3) := by decide +kernel
theorem dX5_join_17 : decode cX5_join 17 = .ok (.getfield 103, 3) := by decide +kernel
theorem dX5_join_20 : decode cX5_join 20 = .ok (.iload_n 1, 1) := by decide +kernel
theorem dX5_join_21 : decode cX5_join 21 = .ok (.iaload, 1) := by decide +kernel
theorem dX5_join_22 : decode cX5_join 22 = .ok (.ifCond .eq 6, 3) := by decide +kernel
theorem dX5_join_25 : decode cX5_join 25 = .ok (.bipush (-4), 2) := by decide +kernel
theorem dX5_join_27 : decode cX5_join 27 = .ok (.ireturn, 1) := by decide +kernel
theorem dX5_join_28 : decode cX5_join 28 = .ok (.aload_n 0, 1) := by decide +kernel
theorem dX5_join_29 : decode cX5_join 29 = .ok (.getfield 28, 3) := by decide +kernel
theorem dX5_join_32 : decode cX5_join 32 = .ok (.getfield 103, 3) := by decide +kernel
theorem dX5_join_35 : decode cX5_join 35 = .ok (.iload_n 1, 1) := by decide +kernel
theorem dX5_join_36 : decode cX5_join 36 = .ok (.iconst 1, 1) := by decide +kernel
theorem dX5_join_37 : decode cX5_join 37 = .ok (.iastore, 1) := by decide +kernel
theorem dX5_join_38 : decode cX5_join 38 = .ok (.aload_n 0, 1) := by decide +kernel
theorem dX5_join_39 : decode cX5_join 39 = .ok (.getfield 7, 3) := by decide +kernel
theorem dX5_join_42 : decode cX5_join 42 = .ok (.iconst 1, 1) := by decide +kernel
theorem dX5_join_43 : decode cX5_join 43 = .ok (.iadd, 1) := by decide +kernel
theorem dX5_join_44 : decode cX5_join 44 = .ok (.ireturn, 1) := by decide +kernel
theorem dX5_leave_0 : decode cX5_leave 0 = .ok (.aload_n 0, 1) := by decide +kernel
theorem dX5_leave_1 : decode cX5_leave 1 = .ok (.getfield 28, 3) := by decide +kernel
theorem dX5_leave_4 : decode cX5_leave 4 = .ok (.iload_n 1, 1) := by decide +kernel
theorem dX5_leave_5 : decode cX5_leave 5 = .ok (.invokevirtual 100, 3) := by decide +kernel
theorem dX5_leave_8 : decode cX5_leave 8 = .ok (.ifCond .ne 5, 3) := by decide +kernel
theorem dX5_leave_11 : decode cX5_leave 11 = .ok (.iconst (-1), 1) := by decide +kernel
theorem dX5_leave_12 : decode cX5_leave 12 = .ok (.ireturn, 1) := by decide +kernel
theorem dX5_leave_13 : decode cX5_leave 13 = .ok (.aload_n 0, 1) := by decide +kernel
theorem dX5_leave_14 : decode cX5_leave 14 = .ok (.getfield 28, 3) := by decide +kernel
theorem dX5_leave_17 : decode cX5_leave 17 = .ok (.getfield 103, 3) := by decide +kernel
theorem dX5_leave_20 : decode cX5_leave 20 = .ok (.iload_n 1, 1) := by decide +kernel
theorem dX5_leave_21 : decode cX5_leave 21 = .ok (.iaload, 1) := by decide +kernel
theorem dX5_leave_22 : decode cX5_leave 22 = .ok (.iconst 2, 1) := by decide +kernel
theorem dX5_leave_23 : decode cX5_leave 23 = .ok (.if_icmp .ne 15, 3) := by decide +kernel
theorem dX5_leave_26 : decode cX5_leave 26 = .ok (.aload_n 0, 1) := by decide +kernel
theorem dX5_leave_27 : decode cX5_leave 27 = .ok (.getfield 28, 3) := by decide +kernel
theorem dX5_leave_30 : decode cX5_leave 30 = .ok (.getfield 90, 3) := by decide +kernel
theorem dX5_leave_33 : decode cX5_leave 33 = .ok (.iload_n 1, 1) := by decide +kernel
theorem dX5_leave_34 : decode cX5_leave 34 = .ok (.baload, 1) := by decide +kernel
theorem dX5_leave_35 : decode cX5_leave 35 = .ok (.ifCond .eq 6, 3) := by decide +kernel
theorem dX5_leave_38 : decode cX5_leave 38 = .ok (.bipush (-4), 2) := by decide +kernel
theorem dX5_leave_40 : decode cX5_leave 40 = .ok (.ireturn, 1) := by decide +kernel
theorem dX5_leave_41 : decode cX5_leave 41 = .ok (.aload_n 0, 1) := by decide +kernel
theorem dX5_leave_42 : decode cX5_leave 42 = .ok (.getfield 28, 3) := by decide +kernel
theorem dX5_leave_45 : decode cX5_leave 45 = .ok (.getfield 103, 3) := by decide +kernel
theorem dX5_leave_48 : decode cX5_leave 48 = .ok (.iload_n 1, 1) := by decide +kernel
theorem dX5_leave_49 : decode cX5_leave 49 = .ok (.iconst 3, 1) := by decide +kernel
theorem dX5_leave_50 : decode cX5_leave 50 = .ok (.iastore, 1) := by decide +kernel
theorem dX5_leave_51 : decode cX5_leave 51 = .ok (.aload_n 0, 1) := by decide +kernel
theorem dX5_leave_52 : decode cX5_leave 52 = .ok (.getfield 28, 3) := by decide +kernel
theorem dX5_leave_55 : decode cX5_leave 55 = .ok (.getfield 106, 3) := by decide +kernel
theorem dX5_leave_58 : decode cX5_leave 58 = .ok (.iload_n 1, 1) := by decide +kernel
theorem dX5_leave_59 : decode cX5_leave 59 = .ok (.aload_n 0, 1) := by decide +kernel
theorem dX5_leave_60 : decode cX5_leave 60 = .ok (.getfield 7, 3) := by decide +kernel
theorem dX5_leave_63 : decode cX5_leave 63 = .ok (.aload_n 0, 1) := by decide +kernel
theorem dX5_leave_64 : decode cX5_leave 64 = .ok (.getfield 14, 3) := by decide +kernel
theorem dX5_leave_67 : decode cX5_leave 67 = .ok (.iconst 0, 1) := by decide +kernel
theorem dX5_leave_68 : decode cX5_leave 68 = .ok (.iaload, 1) := by decide +kernel
theorem dX5_leave_69 : decode cX5_leave 69 = .ok (.iadd, 1) := by decide +kernel
theorem dX5_leave_70 : decode cX5_leave 70 = .ok (.iastore, 1) := by decide +kernel
theorem dX5_leave_71 : decode cX5_leave 71 = .ok (.aload_n 0, 1) := by decide +kernel
theorem dX5_leave_72 : decode cX5_leave 72 = .ok (.getfield 28, 3) := by decide +kernel
theorem dX5_leave_75 : decode cX5_leave 75 = .ok (.getfield 106, 3) := by decide +kernel
theorem dX5_leave_78 : decode cX5_leave 78 = .ok (.iload_n 1, 1) := by decide +kernel
theorem dX5_leave_79 : decode cX5_leave 79 = .ok (.iaload, 1) := by decide +kernel
theorem dX5_leave_80 : decode cX5_leave 80 = .ok (.ireturn, 1) := by decide +kernel
theorem dX5_freeze_0 : decode cX5_freeze 0 = .ok (.aload_n 0, 1) := by decide +kernel
theorem dX5_freeze_1 : decode cX5_freeze 1 = .ok (.getfield 28, 3) := by decide +kernel
theorem dX5_freeze_4 : decode cX5_freeze 4 = .ok (.iload_n 1, 1) := by decide +kernel
theorem dX5_freeze_5 : decode cX5_freeze 5 = .ok (.invokevirtual 100, 3) := by decide +kernel
theorem dX5_freeze_8 : decode cX5_freeze 8 = .ok (.ifCond .ne 5, 3) := by decide +kernel
theorem dX5_freeze_11 : decode cX5_freeze 11 = .ok (.iconst (-1), 1) := by decide +kernel
theorem dX5_freeze_12 : decode cX5_freeze 12 = .ok (.ireturn, 1) := by decide +kernel
theorem dX5_freeze_13 : decode cX5_freeze 13 = .ok (.aload_n 0, 1) := by decide +kernel
theorem dX5_freeze_14 : decode cX5_freeze 14 = .ok (.getfield 28, 3) := by decide +kernel
theorem dX5_freeze_17 : decode cX5_freeze 17 = .ok (.getfield 90, 3) := by decide +kernel
theorem dX5_freeze_20 : decode cX5_freeze 20 = .ok (.iload_n 1, 1) := by decide +kernel
theorem dX5_freeze_21 : decode cX5_freeze 21 = .ok (.baload, 1) := by decide +kernel
theorem dX5_freeze_22 : decode cX5_freeze 22 = .ok (.ifCond .eq 7, 3) := by decide +kernel
theorem dX5_freeze_25 : decode cX5_freeze 25 = .ok (.iconst 1, 1) := by decide +kernel
theorem dX5_freeze_26 : decode cX5_freeze 26 = .ok (.goto 4, 3) := by decide +kernel
theorem dX5_freeze_29 : decode cX5_freeze 29 = .ok (.iconst 0, 1) := by decide +kernel
theorem dX5_freeze_30 : decode cX5_freeze 30 = .ok (.istore_n 3, 1) := by decide +kernel
theorem dX5_freeze_31 : decode cX5_freeze 31 = .ok (.aload_n 0, 1) := by decide +kernel
theorem dX5_freeze_32 : decode cX5_freeze 32 = .ok (.getfield 28, 3) := by decide +kernel
theorem dX5_freeze_35 : decode cX5_freeze 35 = .ok (.getfield 90, 3) := by decide +kernel
theorem dX5_freeze_38 : decode cX5_freeze 38 = .ok (.iload_n 1, 1) := by decide +kernel
theorem dX5_freeze_39 : decode cX5_freeze 39 = .ok (.iload_n 2, 1) := by decide +kernel
theorem dX5_freeze_40 : decode cX5_freeze 40 = .ok (.bastore, 1) := by decide +kernel
theorem dX5_freeze_41 : decode cX5_freeze 41 = .ok (.iload_n 3, 1) := by decide +kernel
theorem dX5_freeze_42 : decode cX5_freeze 42 = .ok (.ireturn, 1) := by decide +kernel
theorem dX5_advance_0 : decode cX5_advance 0 = .ok (.iload_n 1, 1) := by decide +kernel
theorem dX5_advance_1 : decode cX5_advance 1 = .ok (.iconst 1, 1) := by decide +kernel
theorem dX5_advance_2 : decode cX5_advance 2 = .ok (.bipush 100, 2) := by decide +kernel
theorem dX5_advance_4 : decode cX5_advance 4 = .ok (.invokestatic 59, 3) := by decide +kernel
theorem dX5_advance_7 : decode cX5_advance 7 = .ok (.ifCond .ne 5, 3) := by decide +kernel
theorem dX5_advance_10 : decode cX5_advance 10 = .ok (.iconst (-1), 1) := by decide +kernel
theorem dX5_advance_11 : decode cX5_advance 11 = .ok (.ireturn, 1) := by decide +kernel
theorem dX5_advance_12 : decode cX5_advance 12 = .ok (.aload_n 0, 1) := by decide +kernel
theorem dX5_advance_13 : decode cX5_advance 13 = .ok (.getfield 7, 3) := by decide +kernel
theorem dX5_advance_16 : decode cX5_advance 16 = .ok (.iload_n 1, 1) := by decide +kernel
theorem dX5_advance_17 : decode cX5_advance 17 = .ok (.iadd, 1) := by decide +kernel
theorem dX5_advance_18 : decode cX5_advance 18 = .ok (.bipush 100, 2) := by decide +kernel
theorem dX5_advance_20 : decode cX5_advance 20 = .ok (.if_icmp .le 6, 3) := by decide +kernel
theorem dX5_advance_23 : decode cX5_advance 23 = .ok (.bipush (-3), 2) := by decide +kernel
theorem dX5_advance_25 : decode cX5_advance 25 = .ok (.ireturn, 1) := by decide +kernel
theorem dX5_advance_26 : decode cX5_advance 26 = .ok (.iconst 0, 1) := by decide +kernel
theorem dX5_advance_27 : decode cX5_advance 27 = .ok (.istore_n 2, 1) := by decide +kernel
theorem dX5_advance_28 : decode cX5_advance 28 = .ok (.iload_n 2, 1) := by decide +kernel
theorem dX5_advance_29 : decode cX5_advance 29 = .ok (.iload_n 1, 1) := by decide +kernel
theorem dX5_advance_30 : decode cX5_advance 30 = .ok (.if_icmp .ge 13, 3) := by decide +kernel
theorem dX5_advance_33 : decode cX5_advance 33 = .ok (.aload_n 0, 1) := by decide +kernel
theorem dX5_advance_34 : decode cX5_advance 34 = .ok (.invokevirtual 109, 3) := by decide +kernel
theorem dX5_advance_37 : decode cX5_advance 37 = .ok (.iinc 2 1, 3) := by decide +kernel
theorem dX5_advance_40 : decode cX5_advance 40 = .ok (.goto (-12), 3) := by decide +kernel
theorem dX5_advance_43 : decode cX5_advance 43 = .ok (.aload_n 0, 1) := by decide +kernel
theorem dX5_advance_44 : decode cX5_advance 44 = .ok (.getfield 7, 3) := by decide +kernel
theorem dX5_advance_47 : decode cX5_advance 47 = .ok (.ireturn, 1) := by decide +kernel
theorem dX5_balance_0 : decode cX5_balance 0 = .ok (.iload_n 1, 1) := by decide +kernel
theorem dX5_balance_1 : decode cX5_balance 1 = .ok (.invokestatic 63, 3) := by decide +kernel
theorem dX5_balance_4 : decode cX5_balance 4 = .ok (.ifCond .eq 15, 3) := by decide +kernel
theorem dX5_balance_7 : decode cX5_balance 7 = .ok (.aload_n 0, 1) := by decide +kernel
theorem dX5_balance_8 : decode cX5_balance 8 = .ok (.getfield 21, 3) := by decide +kernel
theorem dX5_balance_11 : decode cX5_balance 11 = .ok (.getfield 71, 3) := by decide +kernel
theorem dX5_balance_14 : decode cX5_balance 14 = .ok (.iload_n 1, 1) := by decide +kernel
theorem dX5_balance_15 : decode cX5_balance 15 = .ok (.iaload, 1) := by decide +kernel
theorem dX5_balance_16 : decode cX5_balance 16 = .ok (.goto 4, 3) := by decide +kernel
theorem dX5_balance_19 : decode cX5_balance 19 = .ok (.iconst (-1), 1) := by decide +kernel
theorem dX5_balance_20 : decode cX5_balance 20 = .ok (.ireturn, 1) := by decide +kernel
theorem dX5_staked_0 : decode cX5_staked 0 = .ok (.iload_n 1, 1) := by decide +kernel
theorem dX5_staked_1 : decode cX5_staked 1 = .ok (.invokestatic 63, 3) := by decide +kernel
theorem dX5_staked_4 : decode cX5_staked 4 = .ok (.ifCond .ne 5, 3) := by decide +kernel
theorem dX5_staked_7 : decode cX5_staked 7 = .ok (.iconst (-1), 1) := by decide +kernel
theorem dX5_staked_8 : decode cX5_staked 8 = .ok (.ireturn, 1) := by decide +kernel
theorem dX5_staked_9 : decode cX5_staked 9 = .ok (.iload_n 2, 1) := by decide +kernel
theorem dX5_staked_10 : decode cX5_staked 10 = .ok (.iconst (-1), 1) := by decide +kernel
theorem dX5_staked_11 : decode cX5_staked 11 = .ok (.if_icmp .ne 12, 3) := by decide +kernel
theorem dX5_staked_14 : decode cX5_staked 14 = .ok (.aload_n 0, 1) := by decide +kernel
theorem dX5_staked_15 : decode cX5_staked 15 = .ok (.getfield 21, 3) := by decide +kernel
theorem dX5_staked_18 : decode cX5_staked 18 = .ok (.iload_n 1, 1) := by decide +kernel
theorem dX5_staked_19 : decode cX5_staked 19 = .ok (.invokevirtual 112, 3) := by decide +kernel
theorem dX5_staked_22 : decode cX5_staked 22 = .ok (.ireturn, 1) := by decide +kernel
theorem dX5_staked_23 : decode cX5_staked 23 = .ok (.aload_n 0, 1) := by decide +kernel
theorem dX5_staked_24 : decode cX5_staked 24 = .ok (.getfield 28, 3) := by decide +kernel
theorem dX5_staked_27 : decode cX5_staked 27 = .ok (.iload_n 2, 1) := by decide +kernel
theorem dX5_staked_28 : decode cX5_staked 28 = .ok (.invokevirtual 100, 3) := by decide +kernel
theorem dX5_staked_31 : decode cX5_staked 31 = .ok (.ifCond .eq 19, 3) := by decide +kernel
theorem dX5_staked_34 : decode cX5_staked 34 = .ok (.aload_n 0, 1) := by decide +kernel
theorem dX5_staked_35 : decode cX5_staked 35 = .ok (.getfield 21, 3) := by decide +kernel
theorem dX5_staked_38 : decode cX5_staked 38 = .ok (.getfield 87, 3) := by decide +kernel
theorem dX5_staked_41 : decode cX5_staked 41 = .ok (.iload_n 2, 1) := by decide +kernel
theorem dX5_staked_42 : decode cX5_staked 42 = .ok (.iload_n 1, 1) := by decide +kernel
theorem dX5_staked_43 : decode cX5_staked 43 = .ok (.invokestatic 84, 3) := by decide +kernel
theorem dX5_staked_46 : decode cX5_staked 46 = .ok (.iaload, 1) := by decide +kernel
theorem dX5_staked_47 : decode cX5_staked 47 = .ok (.goto 4, 3) := by decide +kernel
theorem dX5_staked_50 : decode cX5_staked 50 = .ok (.iconst (-1), 1) := by decide +kernel
theorem dX5_staked_51 : decode cX5_staked 51 = .ok (.ireturn, 1) := by decide +kernel
theorem dX5_drawn_0 : decode cX5_drawn 0 = .ok (.iload_n 1, 1) := by decide +kernel
theorem dX5_drawn_1 : decode cX5_drawn 1 = .ok (.invokestatic 63, 3) := by decide +kernel
theorem dX5_drawn_4 : decode cX5_drawn 4 = .ok (.ifCond .ne 5, 3) := by decide +kernel
theorem dX5_drawn_7 : decode cX5_drawn 7 = .ok (.iconst (-1), 1) := by decide +kernel
theorem dX5_drawn_8 : decode cX5_drawn 8 = .ok (.ireturn, 1) := by decide +kernel
theorem dX5_drawn_9 : decode cX5_drawn 9 = .ok (.iload_n 2, 1) := by decide +kernel
theorem dX5_drawn_10 : decode cX5_drawn 10 = .ok (.iconst (-1), 1) := by decide +kernel
theorem dX5_drawn_11 : decode cX5_drawn 11 = .ok (.if_icmp .ne 12, 3) := by decide +kernel
theorem dX5_drawn_14 : decode cX5_drawn 14 = .ok (.aload_n 0, 1) := by decide +kernel
theorem dX5_drawn_15 : decode cX5_drawn 15 = .ok (.getfield 21, 3) := by decide +kernel
theorem dX5_drawn_18 : decode cX5_drawn 18 = .ok (.iload_n 1, 1) := by decide +kernel
theorem dX5_drawn_19 : decode cX5_drawn 19 = .ok (.invokevirtual 116, 3) := by decide +kernel
theorem dX5_drawn_22 : decode cX5_drawn 22 = .ok (.ireturn, 1) := by decide +kernel
theorem dX5_drawn_23 : decode cX5_drawn 23 = .ok (.iload_n 2, 1) := by decide +kernel
theorem dX5_drawn_24 : decode cX5_drawn 24 = .ok (.iconst 1, 1) := by decide +kernel
theorem dX5_drawn_25 : decode cX5_drawn 25 = .ok (.bipush 109, 2) := by decide +kernel
theorem dX5_drawn_27 : decode cX5_drawn 27 = .ok (.invokestatic 59, 3) := by decide +kernel
theorem dX5_drawn_30 : decode cX5_drawn 30 = .ok (.ifCond .eq 19, 3) := by decide +kernel
theorem dX5_drawn_33 : decode cX5_drawn 33 = .ok (.aload_n 0, 1) := by decide +kernel
theorem dX5_drawn_34 : decode cX5_drawn 34 = .ok (.getfield 21, 3) := by decide +kernel
theorem dX5_drawn_37 : decode cX5_drawn 37 = .ok (.getfield 94, 3) := by decide +kernel
theorem dX5_drawn_40 : decode cX5_drawn 40 = .ok (.iload_n 1, 1) := by decide +kernel
theorem dX5_drawn_41 : decode cX5_drawn 41 = .ok (.iload_n 2, 1) := by decide +kernel
theorem dX5_drawn_42 : decode cX5_drawn 42 = .ok (.invokestatic 97, 3) := by decide +kernel
theorem dX5_drawn_45 : decode cX5_drawn 45 = .ok (.iaload, 1) := by decide +kernel
theorem dX5_drawn_46 : decode cX5_drawn 46 = .ok (.goto 4, 3) := by decide +kernel
theorem dX5_drawn_49 : decode cX5_drawn 49 = .ok (.iconst (-1), 1) := by decide +kernel
theorem dX5_drawn_50 : decode cX5_drawn 50 = .ok (.ireturn, 1) := by decide +kernel
theorem dX5_about_0 : decode cX5_about 0 = .ok (.aload_n 0, 1) := by decide +kernel
theorem dX5_about_1 : decode cX5_about 1 = .ok (.getfield 28, 3) := by decide +kernel
theorem dX5_about_4 : decode cX5_about 4 = .ok (.iload_n 1, 1) := by decide +kernel
theorem dX5_about_5 : decode cX5_about 5 = .ok (.invokevirtual 100, 3) := by decide +kernel
theorem dX5_about_8 : decode cX5_about 8 = .ok (.ifCond .ne 5, 3) := by decide +kernel
theorem dX5_about_11 : decode cX5_about 11 = .ok (.iconst (-1), 1) := by decide +kernel
theorem dX5_about_12 : decode cX5_about 12 = .ok (.ireturn, 1) := by decide +kernel
theorem dX5_about_13 : decode cX5_about 13 = .ok (.iload_n 2, 1) := by decide +kernel
theorem dX5_about_14 : decode cX5_about 14 = .ok (.tableswitch 105 0 5 #[38, 48, 66, 76, 86, 96], 38) := by decide +kernel
theorem dX5_about_52 : decode cX5_about 52 = .ok (.aload_n 0, 1) := by decide +kernel
theorem dX5_about_53 : decode cX5_about 53 = .ok (.getfield 28, 3) := by decide +kernel
theorem dX5_about_56 : decode cX5_about 56 = .ok (.getfield 103, 3) := by decide +kernel
theorem dX5_about_59 : decode cX5_about 59 = .ok (.iload_n 1, 1) := by decide +kernel
theorem dX5_about_60 : decode cX5_about 60 = .ok (.iaload, 1) := by decide +kernel
theorem dX5_about_61 : decode cX5_about 61 = .ok (.ireturn, 1) := by decide +kernel
theorem dX5_about_62 : decode cX5_about 62 = .ok (.aload_n 0, 1) := by decide +kernel
theorem dX5_about_63 : decode cX5_about 63 = .ok (.getfield 28, 3) := by decide +kernel
theorem dX5_about_66 : decode cX5_about 66 = .ok (.getfield 90, 3) := by decide +kernel
theorem dX5_about_69 : decode cX5_about 69 = .ok (.iload_n 1, 1) := by decide +kernel
theorem dX5_about_70 : decode cX5_about 70 = .ok (.baload, 1) := by decide +kernel
theorem dX5_about_71 : decode cX5_about 71 = .ok (.ifCond .eq 7, 3) := by decide +kernel
theorem dX5_about_74 : decode cX5_about 74 = .ok (.iconst 1, 1) := by decide +kernel
theorem dX5_about_75 : decode cX5_about 75 = .ok (.goto 4, 3) := by decide +kernel
theorem dX5_about_78 : decode cX5_about 78 = .ok (.iconst 0, 1) := by decide +kernel
theorem dX5_about_79 : decode cX5_about 79 = .ok (.ireturn, 1) := by decide +kernel
theorem dX5_about_80 : decode cX5_about 80 = .ok (.aload_n 0, 1) := by decide +kernel
theorem dX5_about_81 : decode cX5_about 81 = .ok (.getfield 28, 3) := by decide +kernel
theorem dX5_about_84 : decode cX5_about 84 = .ok (.getfield 106, 3) := by decide +kernel
theorem dX5_about_87 : decode cX5_about 87 = .ok (.iload_n 1, 1) := by decide +kernel
theorem dX5_about_88 : decode cX5_about 88 = .ok (.iaload, 1) := by decide +kernel
theorem dX5_about_89 : decode cX5_about 89 = .ok (.ireturn, 1) := by decide +kernel
theorem dX5_about_90 : decode cX5_about 90 = .ok (.aload_n 0, 1) := by decide +kernel
theorem dX5_about_91 : decode cX5_about 91 = .ok (.getfield 28, 3) := by decide +kernel
theorem dX5_about_94 : decode cX5_about 94 = .ok (.getfield 119, 3) := by decide +kernel
theorem dX5_about_97 : decode cX5_about 97 = .ok (.iload_n 1, 1) := by decide +kernel
theorem dX5_about_98 : decode cX5_about 98 = .ok (.iaload, 1) := by decide +kernel
theorem dX5_about_99 : decode cX5_about 99 = .ok (.ireturn, 1) := by decide +kernel
theorem dX5_about_100 : decode cX5_about 100 = .ok (.aload_n 0, 1) := by decide +kernel
theorem dX5_about_101 : decode cX5_about 101 = .ok (.getfield 28, 3) := by decide +kernel
theorem dX5_about_104 : decode cX5_about 104 = .ok (.getfield 122, 3) := by decide +kernel
theorem dX5_about_107 : decode cX5_about 107 = .ok (.iload_n 1, 1) := by decide +kernel
theorem dX5_about_108 : decode cX5_about 108 = .ok (.iaload, 1) := by decide +kernel
theorem dX5_about_109 : decode cX5_about 109 = .ok (.ireturn, 1) := by decide +kernel
theorem dX5_about_110 : decode cX5_about 110 = .ok (.aload_n 0, 1) := by decide +kernel
theorem dX5_about_111 : decode cX5_about 111 = .ok (.getfield 21, 3) := by decide +kernel
theorem dX5_about_114 : decode cX5_about 114 = .ok (.iload_n 1, 1) := by decide +kernel
theorem dX5_about_115 : decode cX5_about 115 = .ok (.invokevirtual 125, 3) := by decide +kernel
theorem dX5_about_118 : decode cX5_about 118 = .ok (.ireturn, 1) := by decide +kernel
theorem dX5_about_119 : decode cX5_about 119 = .ok (.iconst (-1), 1) := by decide +kernel
theorem dX5_about_120 : decode cX5_about 120 = .ok (.ireturn, 1) := by decide +kernel
theorem dX5_weight_0 : decode cX5_weight 0 = .ok (.aload_n 0, 1) := by decide +kernel
theorem dX5_weight_1 : decode cX5_weight 1 = .ok (.iload_n 2, 1) := by decide +kernel
theorem dX5_weight_2 : decode cX5_weight 2 = .ok (.invokevirtual 128, 3) := by decide +kernel
theorem dX5_weight_5 : decode cX5_weight 5 = .ok (.ifCond .ne 5, 3) := by decide +kernel
theorem dX5_weight_8 : decode cX5_weight 8 = .ok (.iconst (-1), 1) := by decide +kernel
theorem dX5_weight_9 : decode cX5_weight 9 = .ok (.ireturn, 1) := by decide +kernel
theorem dX5_weight_10 : decode cX5_weight 10 = .ok (.iload_n 1, 1) := by decide +kernel
theorem dX5_weight_11 : decode cX5_weight 11 = .ok (.iconst (-1), 1) := by decide +kernel
theorem dX5_weight_12 : decode cX5_weight 12 = .ok (.if_icmp .ne 13, 3) := by decide +kernel
theorem dX5_weight_15 : decode cX5_weight 15 = .ok (.aload_n 0, 1) := by decide +kernel
theorem dX5_weight_16 : decode cX5_weight 16 = .ok (.getfield 35, 3) := by decide +kernel
theorem dX5_weight_19 : decode cX5_weight 19 = .ok (.getfield 131, 3) := by decide +kernel
theorem dX5_weight_22 : decode cX5_weight 22 = .ok (.iload_n 2, 1) := by decide +kernel
theorem dX5_weight_23 : decode cX5_weight 23 = .ok (.iaload, 1) := by decide +kernel
theorem dX5_weight_24 : decode cX5_weight 24 = .ok (.ireturn, 1) := by decide +kernel
theorem dX5_weight_25 : decode cX5_weight 25 = .ok (.aload_n 0, 1) := by decide +kernel
theorem dX5_weight_26 : decode cX5_weight 26 = .ok (.getfield 28, 3) := by decide +kernel
theorem dX5_weight_29 : decode cX5_weight 29 = .ok (.iload_n 1, 1) := by decide +kernel
theorem dX5_weight_30 : decode cX5_weight 30 = .ok (.invokevirtual 100, 3) := by decide +kernel
theorem dX5_weight_33 : decode cX5_weight 33 = .ok (.ifCond .eq 19, 3) := by decide +kernel
theorem dX5_weight_36 : decode cX5_weight 36 = .ok (.aload_n 0, 1) := by decide +kernel
theorem dX5_weight_37 : decode cX5_weight 37 = .ok (.getfield 35, 3) := by decide +kernel
theorem dX5_weight_40 : decode cX5_weight 40 = .ok (.getfield 134, 3) := by decide +kernel
theorem dX5_weight_43 : decode cX5_weight 43 = .ok (.iload_n 2, 1) := by decide +kernel
theorem dX5_weight_44 : decode cX5_weight 44 = .ok (.iload_n 1, 1) := by decide +kernel
theorem dX5_weight_45 : decode cX5_weight 45 = .ok (.invokestatic 137, 3) := by decide +kernel
theorem dX5_weight_48 : decode cX5_weight 48 = .ok (.iaload, 1) := by decide +kernel
theorem dX5_weight_49 : decode cX5_weight 49 = .ok (.goto 4, 3) := by decide +kernel
theorem dX5_weight_52 : decode cX5_weight 52 = .ok (.iconst (-1), 1) := by decide +kernel
theorem dX5_weight_53 : decode cX5_weight 53 = .ok (.ireturn, 1) := by decide +kernel
theorem dX5_reward_0 : decode cX5_reward 0 = .ok (.iload_n 2, 1) := by decide +kernel
theorem dX5_reward_1 : decode cX5_reward 1 = .ok (.iconst 0, 1) := by decide +kernel
theorem dX5_reward_2 : decode cX5_reward 2 = .ok (.aload_n 0, 1) := by decide +kernel
theorem dX5_reward_3 : decode cX5_reward 3 = .ok (.getfield 7, 3) := by decide +kernel
theorem dX5_reward_6 : decode cX5_reward 6 = .ok (.iconst 1, 1) := by decide +kernel
theorem dX5_reward_7 : decode cX5_reward 7 = .ok (.isub, 1) := by decide +kernel
theorem dX5_reward_8 : decode cX5_reward 8 = .ok (.invokestatic 59, 3) := by decide +kernel
theorem dX5_reward_11 : decode cX5_reward 11 = .ok (.ifCond .ne 5, 3) := by decide +kernel
theorem dX5_reward_14 : decode cX5_reward 14 = .ok (.iconst (-1), 1) := by decide +kernel
theorem dX5_reward_15 : decode cX5_reward 15 = .ok (.ireturn, 1) := by decide +kernel
theorem dX5_reward_16 : decode cX5_reward 16 = .ok (.iload_n 1, 1) := by decide +kernel
theorem dX5_reward_17 : decode cX5_reward 17 = .ok (.iconst (-1), 1) := by decide +kernel
theorem dX5_reward_18 : decode cX5_reward 18 = .ok (.if_icmp .ne 12, 3) := by decide +kernel
theorem dX5_reward_21 : decode cX5_reward 21 = .ok (.aload_n 0, 1) := by decide +kernel
theorem dX5_reward_22 : decode cX5_reward 22 = .ok (.getfield 35, 3) := by decide +kernel
theorem dX5_reward_25 : decode cX5_reward 25 = .ok (.iload_n 2, 1) := by decide +kernel
theorem dX5_reward_26 : decode cX5_reward 26 = .ok (.invokevirtual 140, 3) := by decide +kernel
theorem dX5_reward_29 : decode cX5_reward 29 = .ok (.ireturn, 1) := by decide +kernel
theorem dX5_reward_30 : decode cX5_reward 30 = .ok (.aload_n 0, 1) := by decide +kernel
theorem dX5_reward_31 : decode cX5_reward 31 = .ok (.getfield 28, 3) := by decide +kernel
theorem dX5_reward_34 : decode cX5_reward 34 = .ok (.iload_n 1, 1) := by decide +kernel
theorem dX5_reward_35 : decode cX5_reward 35 = .ok (.invokevirtual 100, 3) := by decide +kernel
theorem dX5_reward_38 : decode cX5_reward 38 = .ok (.ifCond .eq 19, 3) := by decide +kernel
theorem dX5_reward_41 : decode cX5_reward 41 = .ok (.aload_n 0, 1) := by decide +kernel
theorem dX5_reward_42 : decode cX5_reward 42 = .ok (.getfield 35, 3) := by decide +kernel
theorem dX5_reward_45 : decode cX5_reward 45 = .ok (.getfield 143, 3) := by decide +kernel
theorem dX5_reward_48 : decode cX5_reward 48 = .ok (.iload_n 2, 1) := by decide +kernel
theorem dX5_reward_49 : decode cX5_reward 49 = .ok (.iload_n 1, 1) := by decide +kernel
theorem dX5_reward_50 : decode cX5_reward 50 = .ok (.invokestatic 137, 3) := by decide +kernel
theorem dX5_reward_53 : decode cX5_reward 53 = .ok (.iaload, 1) := by decide +kernel
theorem dX5_reward_54 : decode cX5_reward 54 = .ok (.goto 4, 3) := by decide +kernel
theorem dX5_reward_57 : decode cX5_reward 57 = .ok (.iconst (-1), 1) := by decide +kernel
theorem dX5_reward_58 : decode cX5_reward 58 = .ok (.ireturn, 1) := by decide +kernel
theorem dX5_judge_0 : decode cX5_judge 0 = .ok (.aload_n 0, 1) := by decide +kernel
theorem dX5_judge_1 : decode cX5_judge 1 = .ok (.iload_n 1, 1) := by decide +kernel
theorem dX5_judge_2 : decode cX5_judge 2 = .ok (.invokevirtual 128, 3) := by decide +kernel
theorem dX5_judge_5 : decode cX5_judge 5 = .ok (.ifCond .eq 14, 3) := by decide +kernel
theorem dX5_judge_8 : decode cX5_judge 8 = .ok (.aload_n 0, 1) := by decide +kernel
theorem dX5_judge_9 : decode cX5_judge 9 = .ok (.getfield 28, 3) := by decide +kernel
theorem dX5_judge_12 : decode cX5_judge 12 = .ok (.iload_n 2, 1) := by decide +kernel
theorem dX5_judge_13 : decode cX5_judge 13 = .ok (.invokevirtual 146, 3) := by decide +kernel
theorem dX5_judge_16 : decode cX5_judge 16 = .ok (.ifCond .ne 5, 3) := by decide +kernel
theorem dX5_judge_19 : decode cX5_judge 19 = .ok (.iconst (-1), 1) := by decide +kernel
theorem dX5_judge_20 : decode cX5_judge 20 = .ok (.ireturn, 1) := by decide +kernel
theorem dX5_judge_21 : decode cX5_judge 21 = .ok (.aload_n 0, 1) := by decide +kernel
theorem dX5_judge_22 : decode cX5_judge 22 = .ok (.getfield 35, 3) := by decide +kernel
theorem dX5_judge_25 : decode cX5_judge 25 = .ok (.iload_n 1, 1) := by decide +kernel
theorem dX5_judge_26 : decode cX5_judge 26 = .ok (.iload_n 2, 1) := by decide +kernel
theorem dX5_judge_27 : decode cX5_judge 27 = .ok (.invokevirtual 149, 3) := by decide +kernel
theorem dX5_judge_30 : decode cX5_judge 30 = .ok (.ifCond .eq 7, 3) := by decide +kernel
theorem dX5_judge_33 : decode cX5_judge 33 = .ok (.iconst 1, 1) := by decide +kernel
theorem dX5_judge_34 : decode cX5_judge 34 = .ok (.goto 4, 3) := by decide +kernel
theorem dX5_judge_37 : decode cX5_judge 37 = .ok (.iconst 0, 1) := by decide +kernel
theorem dX5_judge_38 : decode cX5_judge 38 = .ok (.ireturn, 1) := by decide +kernel
theorem dX5_jump_0 : decode cX5_jump 0 = .ok (.aload_n 0, 1) := by decide +kernel
theorem dX5_jump_1 : decode cX5_jump 1 = .ok (.iload_n 1, 1) := by decide +kernel
theorem dX5_jump_2 : decode cX5_jump 2 = .ok (.iload_n 2, 1) := by decide +kernel
theorem dX5_jump_3 : decode cX5_jump 3 = .ok (.invokevirtual 153, 3) := by decide +kernel
theorem dX5_jump_6 : decode cX5_jump 6 = .ok (.ifCond .eq 14, 3) := by decide +kernel
theorem dX5_jump_9 : decode cX5_jump 9 = .ok (.aload_n 0, 1) := by decide +kernel
theorem dX5_jump_10 : decode cX5_jump 10 = .ok (.getfield 28, 3) := by decide +kernel
theorem dX5_jump_13 : decode cX5_jump 13 = .ok (.iload_n 3, 1) := by decide +kernel
theorem dX5_jump_14 : decode cX5_jump 14 = .ok (.invokevirtual 146, 3) := by decide +kernel
theorem dX5_jump_17 : decode cX5_jump 17 = .ok (.ifCond .ne 5, 3) := by decide +kernel
theorem dX5_jump_20 : decode cX5_jump 20 = .ok (.iconst (-1), 1) := by decide +kernel
theorem dX5_jump_21 : decode cX5_jump 21 = .ok (.ireturn, 1) := by decide +kernel
theorem dX5_jump_22 : decode cX5_jump 22 = .ok (.aload_n 0, 1) := by decide +kernel
theorem dX5_jump_23 : decode cX5_jump 23 = .ok (.getfield 35, 3) := by decide +kernel
theorem dX5_jump_26 : decode cX5_jump 26 = .ok (.iload_n 1, 1) := by decide +kernel
theorem dX5_jump_27 : decode cX5_jump 27 = .ok (.iload_n 2, 1) := by decide +kernel
theorem dX5_jump_28 : decode cX5_jump 28 = .ok (.iload_n 3, 1) := by decide +kernel
theorem dX5_jump_29 : decode cX5_jump 29 = .ok (.invokevirtual 156, 3) := by decide +kernel
theorem dX5_jump_32 : decode cX5_jump 32 = .ok (.ifCond .eq 7, 3) := by decide +kernel
theorem dX5_jump_35 : decode cX5_jump 35 = .ok (.iconst 1, 1) := by decide +kernel
theorem dX5_jump_36 : decode cX5_jump 36 = .ok (.goto 4, 3) := by decide +kernel
theorem dX5_jump_39 : decode cX5_jump 39 = .ok (.iconst 0, 1) := by decide +kernel
theorem dX5_jump_40 : decode cX5_jump 40 = .ok (.ireturn, 1) := by decide +kernel
theorem dX5_overlap_0 : decode cX5_overlap 0 = .ok (.aload_n 0, 1) := by decide +kernel
theorem dX5_overlap_1 : decode cX5_overlap 1 = .ok (.iload_n 1, 1) := by decide +kernel
theorem dX5_overlap_2 : decode cX5_overlap 2 = .ok (.invokevirtual 128, 3) := by decide +kernel
theorem dX5_overlap_5 : decode cX5_overlap 5 = .ok (.ifCond .eq 11, 3) := by decide +kernel
theorem dX5_overlap_8 : decode cX5_overlap 8 = .ok (.aload_n 0, 1) := by decide +kernel
theorem dX5_overlap_9 : decode cX5_overlap 9 = .ok (.iload_n 2, 1) := by decide +kernel
theorem dX5_overlap_10 : decode cX5_overlap 10 = .ok (.invokevirtual 128, 3) := by decide +kernel
theorem dX5_overlap_13 : decode cX5_overlap 13 = .ok (.ifCond .ne 5, 3) := by decide +kernel
theorem dX5_overlap_16 : decode cX5_overlap 16 = .ok (.iconst (-1), 1) := by decide +kernel
theorem dX5_overlap_17 : decode cX5_overlap 17 = .ok (.ireturn, 1) := by decide +kernel
theorem dX5_overlap_18 : decode cX5_overlap 18 = .ok (.aload_n 0, 1) := by decide +kernel
theorem dX5_overlap_19 : decode cX5_overlap 19 = .ok (.getfield 35, 3) := by decide +kernel
theorem dX5_overlap_22 : decode cX5_overlap 22 = .ok (.iload_n 1, 1) := by decide +kernel
theorem dX5_overlap_23 : decode cX5_overlap 23 = .ok (.iload_n 2, 1) := by decide +kernel
theorem dX5_overlap_24 : decode cX5_overlap 24 = .ok (.invokevirtual 159, 3) := by decide +kernel
theorem dX5_overlap_27 : decode cX5_overlap 27 = .ok (.ireturn, 1) := by decide +kernel
theorem dX5_way_0 : decode cX5_way 0 = .ok (.aload_n 0, 1) := by decide +kernel
theorem dX5_way_1 : decode cX5_way 1 = .ok (.iload_n 1, 1) := by decide +kernel
theorem dX5_way_2 : decode cX5_way 2 = .ok (.iload_n 2, 1) := by decide +kernel
theorem dX5_way_3 : decode cX5_way 3 = .ok (.invokevirtual 153, 3) := by decide +kernel
theorem dX5_way_6 : decode cX5_way 6 = .ok (.ifCond .ne 5, 3) := by decide +kernel
theorem dX5_way_9 : decode cX5_way 9 = .ok (.iconst (-1), 1) := by decide +kernel
theorem dX5_way_10 : decode cX5_way 10 = .ok (.ireturn, 1) := by decide +kernel
theorem dX5_way_11 : decode cX5_way 11 = .ok (.aload_n 0, 1) := by decide +kernel
theorem dX5_way_12 : decode cX5_way 12 = .ok (.getfield 49, 3) := by decide +kernel
theorem dX5_way_15 : decode cX5_way 15 = .ok (.aload_n 0, 1) := by decide +kernel
theorem dX5_way_16 : decode cX5_way 16 = .ok (.getfield 35, 3) := by decide +kernel
theorem dX5_way_19 : decode cX5_way 19 = .ok (.iload_n 1, 1) := by decide +kernel
theorem dX5_way_20 : decode cX5_way 20 = .ok (.iload_n 2, 1) := by decide +kernel
theorem dX5_way_21 : decode cX5_way 21 = .ok (.invokevirtual 162, 3) := by decide +kernel
theorem dX5_way_24 : decode cX5_way 24 = .ok (.aload_n 0, 1) := by decide +kernel
theorem dX5_way_25 : decode cX5_way 25 = .ok (.getfield 49, 3) := by decide +kernel
theorem dX5_way_28 : decode cX5_way 28 = .ok (.getfield 166, 3) := by decide +kernel
theorem dX5_way_31 : decode cX5_way 31 = .ok (.iload_n 1, 1) := by decide +kernel
theorem dX5_way_32 : decode cX5_way 32 = .ok (.iaload, 1) := by decide +kernel
theorem dX5_way_33 : decode cX5_way 33 = .ok (.istore 4, 2) := by decide +kernel
theorem dX5_way_35 : decode cX5_way 35 = .ok (.iload 4, 2) := by decide +kernel
theorem dX5_way_37 : decode cX5_way 37 = .ok (.bipush (-2), 2) := by decide +kernel
theorem dX5_way_39 : decode cX5_way 39 = .ok (.if_icmp .ne 6, 3) := by decide +kernel
theorem dX5_way_42 : decode cX5_way 42 = .ok (.bipush (-2), 2) := by decide +kernel
theorem dX5_way_44 : decode cX5_way 44 = .ok (.ireturn, 1) := by decide +kernel
theorem dX5_way_45 : decode cX5_way 45 = .ok (.iload_n 3, 1) := by decide +kernel
theorem dX5_way_46 : decode cX5_way 46 = .ok (.iconst (-1), 1) := by decide +kernel
theorem dX5_way_47 : decode cX5_way 47 = .ok (.if_icmp .ne 6, 3) := by decide +kernel
theorem dX5_way_50 : decode cX5_way 50 = .ok (.iload 4, 2) := by decide +kernel
theorem dX5_way_52 : decode cX5_way 52 = .ok (.ireturn, 1) := by decide +kernel
theorem dX5_way_53 : decode cX5_way 53 = .ok (.iload_n 3, 1) := by decide +kernel
theorem dX5_way_54 : decode cX5_way 54 = .ok (.iconst 0, 1) := by decide +kernel
theorem dX5_way_55 : decode cX5_way 55 = .ok (.iload 4, 2) := by decide +kernel
theorem dX5_way_57 : decode cX5_way 57 = .ok (.invokestatic 59, 3) := by decide +kernel
theorem dX5_way_60 : decode cX5_way 60 = .ok (.ifCond .eq 16, 3) := by decide +kernel
theorem dX5_way_63 : decode cX5_way 63 = .ok (.aload_n 0, 1) := by decide +kernel
theorem dX5_way_64 : decode cX5_way 64 = .ok (.getfield 49, 3) := by decide +kernel
theorem dX5_way_67 : decode cX5_way 67 = .ok (.iload_n 1, 1) := by decide +kernel
theorem dX5_way_68 : decode cX5_way 68 = .ok (.iload_n 2, 1) := by decide +kernel
theorem dX5_way_69 : decode cX5_way 69 = .ok (.iload_n 3, 1) := by decide +kernel
theorem dX5_way_70 : decode cX5_way 70 = .ok (.invokevirtual 169, 3) := by decide +kernel
theorem dX5_way_73 : decode cX5_way 73 = .ok (.goto 4, 3) := by decide +kernel
theorem dX5_way_76 : decode cX5_way 76 = .ok (.iconst (-1), 1) := by decide +kernel
theorem dX5_way_77 : decode cX5_way 77 = .ok (.ireturn, 1) := by decide +kernel
theorem dX5_count_0 : decode cX5_count 0 = .ok (.iload_n 1, 1) := by decide +kernel
theorem dX5_count_1 : decode cX5_count 1 = .ok (.tableswitch 140 0 10 #[59, 64, 72, 80, 88, 96, 104, 112, 119, 126, 133], 59) := by decide +kernel
theorem dX5_count_60 : decode cX5_count 60 = .ok (.aload_n 0, 1) := by decide +kernel
theorem dX5_count_61 : decode cX5_count 61 = .ok (.getfield 7, 3) := by decide +kernel
theorem dX5_count_64 : decode cX5_count 64 = .ok (.ireturn, 1) := by decide +kernel
theorem dX5_count_65 : decode cX5_count 65 = .ok (.aload_n 0, 1) := by decide +kernel
theorem dX5_count_66 : decode cX5_count 66 = .ok (.getfield 28, 3) := by decide +kernel
theorem dX5_count_69 : decode cX5_count 69 = .ok (.getfield 74, 3) := by decide +kernel
theorem dX5_count_72 : decode cX5_count 72 = .ok (.ireturn, 1) := by decide +kernel
theorem dX5_count_73 : decode cX5_count 73 = .ok (.aload_n 0, 1) := by decide +kernel
theorem dX5_count_74 : decode cX5_count 74 = .ok (.getfield 21, 3) := by decide +kernel
theorem dX5_count_77 : decode cX5_count 77 = .ok (.getfield 68, 3) := by decide +kernel
theorem dX5_count_80 : decode cX5_count 80 = .ok (.ireturn, 1) := by decide +kernel
theorem dX5_count_81 : decode cX5_count 81 = .ok (.aload_n 0, 1) := by decide +kernel
theorem dX5_count_82 : decode cX5_count 82 = .ok (.getfield 21, 3) := by decide +kernel
theorem dX5_count_85 : decode cX5_count 85 = .ok (.getfield 173, 3) := by decide +kernel
theorem dX5_count_88 : decode cX5_count 88 = .ok (.ireturn, 1) := by decide +kernel
theorem dX5_count_89 : decode cX5_count 89 = .ok (.aload_n 0, 1) := by decide +kernel
theorem dX5_count_90 : decode cX5_count 90 = .ok (.getfield 21, 3) := by decide +kernel
theorem dX5_count_93 : decode cX5_count 93 = .ok (.invokevirtual 176, 3) := by decide +kernel
theorem dX5_count_96 : decode cX5_count 96 = .ok (.ireturn, 1) := by decide +kernel
theorem dX5_count_97 : decode cX5_count 97 = .ok (.aload_n 0, 1) := by decide +kernel
theorem dX5_count_98 : decode cX5_count 98 = .ok (.getfield 21, 3) := by decide +kernel
theorem dX5_count_101 : decode cX5_count 101 = .ok (.invokevirtual 180, 3) := by decide +kernel
theorem dX5_count_104 : decode cX5_count 104 = .ok (.ireturn, 1) := by decide +kernel
theorem dX5_count_105 : decode cX5_count 105 = .ok (.aload_n 0, 1) := by decide +kernel
theorem dX5_count_106 : decode cX5_count 106 = .ok (.getfield 21, 3) := by decide +kernel
theorem dX5_count_109 : decode cX5_count 109 = .ok (.invokevirtual 183, 3) := by decide +kernel
theorem dX5_count_112 : decode cX5_count 112 = .ok (.ireturn, 1) := by decide +kernel
theorem dX5_count_113 : decode cX5_count 113 = .ok (.aload_n 0, 1) := by decide +kernel
theorem dX5_count_114 : decode cX5_count 114 = .ok (.getfield 14, 3) := by decide +kernel
theorem dX5_count_117 : decode cX5_count 117 = .ok (.iconst 0, 1) := by decide +kernel
theorem dX5_count_118 : decode cX5_count 118 = .ok (.iaload, 1) := by decide +kernel
theorem dX5_count_119 : decode cX5_count 119 = .ok (.ireturn, 1) := by decide +kernel
theorem dX5_count_120 : decode cX5_count 120 = .ok (.aload_n 0, 1) := by decide +kernel
theorem dX5_count_121 : decode cX5_count 121 = .ok (.getfield 14, 3) := by decide +kernel
theorem dX5_count_124 : decode cX5_count 124 = .ok (.iconst 1, 1) := by decide +kernel
theorem dX5_count_125 : decode cX5_count 125 = .ok (.iaload, 1) := by decide +kernel
theorem dX5_count_126 : decode cX5_count 126 = .ok (.ireturn, 1) := by decide +kernel
theorem dX5_count_127 : decode cX5_count 127 = .ok (.aload_n 0, 1) := by decide +kernel
theorem dX5_count_128 : decode cX5_count 128 = .ok (.getfield 14, 3) := by decide +kernel
theorem dX5_count_131 : decode cX5_count 131 = .ok (.iconst 2, 1) := by decide +kernel
theorem dX5_count_132 : decode cX5_count 132 = .ok (.iaload, 1) := by decide +kernel
theorem dX5_count_133 : decode cX5_count 133 = .ok (.ireturn, 1) := by decide +kernel
theorem dX5_count_134 : decode cX5_count 134 = .ok (.aload_n 0, 1) := by decide +kernel
theorem dX5_count_135 : decode cX5_count 135 = .ok (.getfield 14, 3) := by decide +kernel
theorem dX5_count_138 : decode cX5_count 138 = .ok (.iconst 3, 1) := by decide +kernel
theorem dX5_count_139 : decode cX5_count 139 = .ok (.iaload, 1) := by decide +kernel
theorem dX5_count_140 : decode cX5_count 140 = .ok (.ireturn, 1) := by decide +kernel
theorem dX5_count_141 : decode cX5_count 141 = .ok (.iconst (-1), 1) := by decide +kernel
theorem dX5_count_142 : decode cX5_count 142 = .ok (.ireturn, 1) := by decide +kernel
theorem dX5_isWithin_0 : decode cX5_isWithin 0 = .ok (.iload_n 0, 1) := by decide +kernel
theorem dX5_isWithin_1 : decode cX5_isWithin 1 = .ok (.iload_n 1, 1) := by decide +kernel
theorem dX5_isWithin_2 : decode cX5_isWithin 2 = .ok (.if_icmp .lt 12, 3) := by decide +kernel
theorem dX5_isWithin_5 : decode cX5_isWithin 5 = .ok (.iload_n 0, 1) := by decide +kernel
theorem dX5_isWithin_6 : decode cX5_isWithin 6 = .ok (.iload_n 2, 1) := by decide +kernel
theorem dX5_isWithin_7 : decode cX5_isWithin 7 = .ok (.if_icmp .gt 7, 3) := by decide +kernel
theorem dX5_isWithin_10 : decode cX5_isWithin 10 = .ok (.iconst 1, 1) := by decide +kernel
theorem dX5_isWithin_11 : decode cX5_isWithin 11 = .ok (.goto 4, 3) := by decide +kernel
theorem dX5_isWithin_14 : decode cX5_isWithin 14 = .ok (.iconst 0, 1) := by decide +kernel
theorem dX5_isWithin_15 : decode cX5_isWithin 15 = .ok (.ireturn, 1) := by decide +kernel
theorem dX5_isAccount_0 : decode cX5_isAccount 0 = .ok (.iload_n 0, 1) := by decide +kernel
theorem dX5_isAccount_1 : decode cX5_isAccount 1 = .ok (.iconst 0, 1) := by decide +kernel
theorem dX5_isAccount_2 : decode cX5_isAccount 2 = .ok (.bipush 9, 2) := by decide +kernel
theorem dX5_isAccount_4 : decode cX5_isAccount 4 = .ok (.invokestatic 59, 3) := by decide +kernel
theorem dX5_isAccount_7 : decode cX5_isAccount 7 = .ok (.ireturn, 1) := by decide +kernel
theorem dX5_isMove_0 : decode cX5_isMove 0 = .ok (.iload_n 1, 1) := by decide +kernel
theorem dX5_isMove_1 : decode cX5_isMove 1 = .ok (.invokestatic 63, 3) := by decide +kernel
theorem dX5_isMove_4 : decode cX5_isMove 4 = .ok (.ifCond .eq 28, 3) := by decide +kernel
theorem dX5_isMove_7 : decode cX5_isMove 7 = .ok (.aload_n 0, 1) := by decide +kernel
theorem dX5_isMove_8 : decode cX5_isMove 8 = .ok (.getfield 28, 3) := by decide +kernel
theorem dX5_isMove_11 : decode cX5_isMove 11 = .ok (.iload_n 2, 1) := by decide +kernel
theorem dX5_isMove_12 : decode cX5_isMove 12 = .ok (.invokevirtual 100, 3) := by decide +kernel
theorem dX5_isMove_15 : decode cX5_isMove 15 = .ok (.ifCond .eq 17, 3) := by decide +kernel
theorem dX5_isMove_18 : decode cX5_isMove 18 = .ok (.iload_n 3, 1) := by decide +kernel
theorem dX5_isMove_19 : decode cX5_isMove 19 = .ok (.iconst 1, 1) := by decide +kernel
theorem dX5_isMove_20 : decode cX5_isMove 20 = .ok (.ldc 13, 2) := by decide +kernel
theorem dX5_isMove_22 : decode cX5_isMove 22 = .ok (.invokestatic 59, 3) := by decide +kernel
theorem dX5_isMove_25 : decode cX5_isMove 25 = .ok (.ifCond .eq 7, 3) := by decide +kernel
theorem dX5_isMove_28 : decode cX5_isMove 28 = .ok (.iconst 1, 1) := by decide +kernel
theorem dX5_isMove_29 : decode cX5_isMove 29 = .ok (.goto 4, 3) := by decide +kernel
theorem dX5_isMove_32 : decode cX5_isMove 32 = .ok (.iconst 0, 1) := by decide +kernel
theorem dX5_isMove_33 : decode cX5_isMove 33 = .ok (.ireturn, 1) := by decide +kernel
theorem dX5_hasSet_0 : decode cX5_hasSet 0 = .ok (.iload_n 1, 1) := by decide +kernel
theorem dX5_hasSet_1 : decode cX5_hasSet 1 = .ok (.iconst 0, 1) := by decide +kernel
theorem dX5_hasSet_2 : decode cX5_hasSet 2 = .ok (.aload_n 0, 1) := by decide +kernel
theorem dX5_hasSet_3 : decode cX5_hasSet 3 = .ok (.getfield 7, 3) := by decide +kernel
theorem dX5_hasSet_6 : decode cX5_hasSet 6 = .ok (.invokestatic 59, 3) := by decide +kernel
theorem dX5_hasSet_9 : decode cX5_hasSet 9 = .ok (.ireturn, 1) := by decide +kernel
theorem dX5_isUpward_0 : decode cX5_isUpward 0 = .ok (.aload_n 0, 1) := by decide +kernel
theorem dX5_isUpward_1 : decode cX5_isUpward 1 = .ok (.iload_n 1, 1) := by decide +kernel
theorem dX5_isUpward_2 : decode cX5_isUpward 2 = .ok (.invokevirtual 128, 3) := by decide +kernel
theorem dX5_isUpward_5 : decode cX5_isUpward 5 = .ok (.ifCond .eq 20, 3) := by decide +kernel
theorem dX5_isUpward_8 : decode cX5_isUpward 8 = .ok (.aload_n 0, 1) := by decide +kernel
theorem dX5_isUpward_9 : decode cX5_isUpward 9 = .ok (.iload_n 2, 1) := by decide +kernel
theorem dX5_isUpward_10 : decode cX5_isUpward 10 = .ok (.invokevirtual 128, 3) := by decide +kernel
theorem dX5_isUpward_13 : decode cX5_isUpward 13 = .ok (.ifCond .eq 12, 3) := by decide +kernel
theorem dX5_isUpward_16 : decode cX5_isUpward 16 = .ok (.iload_n 1, 1) := by decide +kernel
theorem dX5_isUpward_17 : decode cX5_isUpward 17 = .ok (.iload_n 2, 1) := by decide +kernel
theorem dX5_isUpward_18 : decode cX5_isUpward 18 = .ok (.if_icmp .ge 7, 3) := by decide +kernel
theorem dX5_isUpward_21 : decode cX5_isUpward 21 = .ok (.iconst 1, 1) := by decide +kernel
theorem dX5_isUpward_22 : decode cX5_isUpward 22 = .ok (.goto 4, 3) := by decide +kernel
theorem dX5_isUpward_25 : decode cX5_isUpward 25 = .ok (.iconst 0, 1) := by decide +kernel
theorem dX5_isUpward_26 : decode cX5_isUpward 26 = .ok (.ireturn, 1) := by decide +kernel
theorem dX5_stakePlace_0 : decode cX5_stakePlace 0 = .ok (.iload_n 0, 1) := by decide +kernel
theorem dX5_stakePlace_1 : decode cX5_stakePlace 1 = .ok (.bipush 10, 2) := by decide +kernel
theorem dX5_stakePlace_3 : decode cX5_stakePlace 3 = .ok (.imul, 1) := by decide +kernel
theorem dX5_stakePlace_4 : decode cX5_stakePlace 4 = .ok (.iload_n 1, 1) := by decide +kernel
theorem dX5_stakePlace_5 : decode cX5_stakePlace 5 = .ok (.iadd, 1) := by decide +kernel
theorem dX5_stakePlace_6 : decode cX5_stakePlace 6 = .ok (.ireturn, 1) := by decide +kernel
theorem dX5_duePlace_0 : decode cX5_duePlace 0 = .ok (.iload_n 0, 1) := by decide +kernel
theorem dX5_duePlace_1 : decode cX5_duePlace 1 = .ok (.bipush 110, 2) := by decide +kernel
theorem dX5_duePlace_3 : decode cX5_duePlace 3 = .ok (.imul, 1) := by decide +kernel
theorem dX5_duePlace_4 : decode cX5_duePlace 4 = .ok (.iload_n 1, 1) := by decide +kernel
theorem dX5_duePlace_5 : decode cX5_duePlace 5 = .ok (.iadd, 1) := by decide +kernel
theorem dX5_duePlace_6 : decode cX5_duePlace 6 = .ok (.ireturn, 1) := by decide +kernel
theorem dX5_setPlace_0 : decode cX5_setPlace 0 = .ok (.iload_n 0, 1) := by decide +kernel
theorem dX5_setPlace_1 : decode cX5_setPlace 1 = .ok (.bipush 8, 2) := by decide +kernel
theorem dX5_setPlace_3 : decode cX5_setPlace 3 = .ok (.imul, 1) := by decide +kernel
theorem dX5_setPlace_4 : decode cX5_setPlace 4 = .ok (.iload_n 1, 1) := by decide +kernel
theorem dX5_setPlace_5 : decode cX5_setPlace 5 = .ok (.iadd, 1) := by decide +kernel
theorem dX5_setPlace_6 : decode cX5_setPlace 6 = .ok (.ireturn, 1) := by decide +kernel
theorem dX5_beginNextHeight_0 : decode cX5_beginNextHeight 0 = .ok (.aload_n 0, 1) := by decide +kernel
theorem dX5_beginNextHeight_1 : decode cX5_beginNextHeight 1 = .ok (.invokevirtual 186, 3) := by decide +kernel
theorem dX5_beginNextHeight_4 : decode cX5_beginNextHeight 4 = .ok (.aload_n 0, 1) := by decide +kernel
theorem dX5_beginNextHeight_5 : decode cX5_beginNextHeight 5 = .ok (.dup, 1) := by decide +kernel
theorem dX5_beginNextHeight_6 : decode cX5_beginNextHeight 6 = .ok (.getfield 7, 3) := by decide +kernel
theorem dX5_beginNextHeight_9 : decode cX5_beginNextHeight 9 = .ok (.iconst 1, 1) := by decide +kernel
theorem dX5_beginNextHeight_10 : decode cX5_beginNextHeight 10 = .ok (.iadd, 1) := by decide +kernel
theorem dX5_beginNextHeight_11 : decode cX5_beginNextHeight 11 = .ok (.putfield 7, 3) := by decide +kernel
theorem dX5_beginNextHeight_14 : decode cX5_beginNextHeight 14 = .ok (.aload_n 0, 1) := by decide +kernel
theorem dX5_beginNextHeight_15 : decode cX5_beginNextHeight 15 = .ok (.getfield 21, 3) := by decide +kernel
theorem dX5_beginNextHeight_18 : decode cX5_beginNextHeight 18 = .ok (.aload_n 0, 1) := by decide +kernel
theorem dX5_beginNextHeight_19 : decode cX5_beginNextHeight 19 = .ok (.getfield 7, 3) := by decide +kernel
theorem dX5_beginNextHeight_22 : decode cX5_beginNextHeight 22 = .ok (.invokevirtual 189, 3) := by decide +kernel
theorem dX5_beginNextHeight_25 : decode cX5_beginNextHeight 25 = .ok (.aload_n 0, 1) := by decide +kernel
theorem dX5_beginNextHeight_26 : decode cX5_beginNextHeight 26 = .ok (.getfield 28, 3) := by decide +kernel
theorem dX5_beginNextHeight_29 : decode cX5_beginNextHeight 29 = .ok (.aload_n 0, 1) := by decide +kernel
theorem dX5_beginNextHeight_30 : decode cX5_beginNextHeight 30 = .ok (.getfield 7, 3) := by decide +kernel
theorem dX5_beginNextHeight_33 : decode cX5_beginNextHeight 33 = .ok (.invokevirtual 193, 3) := by decide +kernel
theorem dX5_beginNextHeight_36 : decode cX5_beginNextHeight 36 = .ok (.aload_n 0, 1) := by decide +kernel
theorem dX5_beginNextHeight_37 : decode cX5_beginNextHeight 37 = .ok (.invokevirtual 196, 3) := by decide +kernel
theorem dX5_beginNextHeight_40 : decode cX5_beginNextHeight 40 = .ok (.return_, 1) := by decide +kernel
theorem dX5_giveRewards_0 : decode cX5_giveRewards 0 = .ok (.aload_n 0, 1) := by decide +kernel
theorem dX5_giveRewards_1 : decode cX5_giveRewards 1 = .ok (.getfield 35, 3) := by decide +kernel
theorem dX5_giveRewards_4 : decode cX5_giveRewards 4 = .ok (.getfield 131, 3) := by decide +kernel
theorem dX5_giveRewards_7 : decode cX5_giveRewards 7 = .ok (.aload_n 0, 1) := by decide +kernel
theorem dX5_giveRewards_8 : decode cX5_giveRewards 8 = .ok (.getfield 7, 3) := by decide +kernel
theorem dX5_giveRewards_11 : decode cX5_giveRewards 11 = .ok (.iaload, 1) := by decide +kernel
theorem dX5_giveRewards_12 : decode cX5_giveRewards 12 = .ok (.ifCond .gt 4, 3) := by decide +kernel
theorem dX5_giveRewards_15 : decode cX5_giveRewards 15 = .ok (.return_, 1) := by decide +kernel
theorem dX5_giveRewards_16 : decode cX5_giveRewards 16 = .ok (.aload_n 0, 1) := by decide +kernel
theorem dX5_giveRewards_17 : decode cX5_giveRewards 17 = .ok (.getfield 7, 3) := by decide +kernel
theorem dX5_giveRewards_20 : decode cX5_giveRewards 20 = .ok (.iconst 0, 1) := by decide +kernel
theorem dX5_giveRewards_21 : decode cX5_giveRewards 21 = .ok (.invokestatic 137, 3) := by decide +kernel
theorem dX5_giveRewards_24 : decode cX5_giveRewards 24 = .ok (.istore_n 1, 1) := by decide +kernel
theorem dX5_giveRewards_25 : decode cX5_giveRewards 25 = .ok (.aload_n 0, 1) := by decide +kernel
theorem dX5_giveRewards_26 : decode cX5_giveRewards 26 = .ok (.getfield 42, 3) := by decide +kernel
theorem dX5_giveRewards_29 : decode cX5_giveRewards 29 = .ok (.aload_n 0, 1) := by decide +kernel
theorem dX5_giveRewards_30 : decode cX5_giveRewards 30 = .ok (.invokevirtual 199, 3) := by decide +kernel
theorem dX5_giveRewards_33 : decode cX5_giveRewards 33 = .ok (.aload_n 0, 1) := by decide +kernel
theorem dX5_giveRewards_34 : decode cX5_giveRewards 34 = .ok (.getfield 35, 3) := by decide +kernel
theorem dX5_giveRewards_37 : decode cX5_giveRewards 37 = .ok (.getfield 134, 3) := by decide +kernel
theorem dX5_giveRewards_40 : decode cX5_giveRewards 40 = .ok (.iload_n 1, 1) := by decide +kernel
theorem dX5_giveRewards_41 : decode cX5_giveRewards 41 = .ok (.bipush 8, 2) := by decide +kernel
theorem dX5_giveRewards_43 : decode cX5_giveRewards 43 = .ok (.invokevirtual 202, 3) := by decide +kernel
theorem dX5_giveRewards_46 : decode cX5_giveRewards 46 = .ok (.aload_n 0, 1) := by decide +kernel
theorem dX5_giveRewards_47 : decode cX5_giveRewards 47 = .ok (.getfield 42, 3) := by decide +kernel
theorem dX5_giveRewards_50 : decode cX5_giveRewards 50 = .ok (.getfield 206, 3) := by decide +kernel
theorem dX5_giveRewards_53 : decode cX5_giveRewards 53 = .ok (.iconst 0, 1) := by decide +kernel
theorem dX5_giveRewards_54 : decode cX5_giveRewards 54 = .ok (.aload_n 0, 1) := by decide +kernel
theorem dX5_giveRewards_55 : decode cX5_giveRewards 55 = .ok (.getfield 35, 3) := by decide +kernel
theorem dX5_giveRewards_58 : decode cX5_giveRewards 58 = .ok (.getfield 143, 3) := by decide +kernel
theorem dX5_giveRewards_61 : decode cX5_giveRewards 61 = .ok (.iload_n 1, 1) := by decide +kernel
theorem dX5_giveRewards_62 : decode cX5_giveRewards 62 = .ok (.bipush 8, 2) := by decide +kernel
theorem dX5_giveRewards_64 : decode cX5_giveRewards 64 = .ok (.invokestatic 209, 3) := by decide +kernel
theorem dX5_giveRewards_67 : decode cX5_giveRewards 67 = .ok (.iconst 0, 1) := by decide +kernel
theorem dX5_giveRewards_68 : decode cX5_giveRewards 68 = .ok (.istore_n 2, 1) := by decide +kernel
theorem dX5_giveRewards_69 : decode cX5_giveRewards 69 = .ok (.iload_n 2, 1) := by decide +kernel
theorem dX5_giveRewards_70 : decode cX5_giveRewards 70 = .ok (.aload_n 0, 1) := by decide +kernel
theorem dX5_giveRewards_71 : decode cX5_giveRewards 71 = .ok (.getfield 28, 3) := by decide +kernel
theorem dX5_giveRewards_74 : decode cX5_giveRewards 74 = .ok (.getfield 74, 3) := by decide +kernel
theorem dX5_giveRewards_77 : decode cX5_giveRewards 77 = .ok (.if_icmp .ge 25, 3) := by decide +kernel
theorem dX5_giveRewards_80 : decode cX5_giveRewards 80 = .ok (.aload_n 0, 1) := by decide +kernel
theorem dX5_giveRewards_81 : decode cX5_giveRewards 81 = .ok (.iload_n 2, 1) := by decide +kernel
theorem dX5_giveRewards_82 : decode cX5_giveRewards 82 = .ok (.aload_n 0, 1) := by decide +kernel
theorem dX5_giveRewards_83 : decode cX5_giveRewards 83 = .ok (.getfield 35, 3) := by decide +kernel
theorem dX5_giveRewards_86 : decode cX5_giveRewards 86 = .ok (.getfield 143, 3) := by decide +kernel
theorem dX5_giveRewards_89 : decode cX5_giveRewards 89 = .ok (.iload_n 1, 1) := by decide +kernel
theorem dX5_giveRewards_90 : decode cX5_giveRewards 90 = .ok (.iload_n 2, 1) := by decide +kernel
theorem dX5_giveRewards_91 : decode cX5_giveRewards 91 = .ok (.iadd, 1) := by decide +kernel
theorem dX5_giveRewards_92 : decode cX5_giveRewards 92 = .ok (.iaload, 1) := by decide +kernel
theorem dX5_giveRewards_93 : decode cX5_giveRewards 93 = .ok (.invokevirtual 215, 3) := by decide +kernel
theorem dX5_giveRewards_96 : decode cX5_giveRewards 96 = .ok (.iinc 2 1, 3) := by decide +kernel
theorem dX5_giveRewards_99 : decode cX5_giveRewards 99 = .ok (.goto (-30), 3) := by decide +kernel
theorem dX5_giveRewards_102 : decode cX5_giveRewards 102 = .ok (.return_, 1) := by decide +kernel
theorem dX5_pot_0 : decode cX5_pot 0 = .ok (.aload_n 0, 1) := by decide +kernel
theorem dX5_pot_1 : decode cX5_pot 1 = .ok (.getfield 14, 3) := by decide +kernel
theorem dX5_pot_4 : decode cX5_pot 4 = .ok (.iconst 2, 1) := by decide +kernel
theorem dX5_pot_5 : decode cX5_pot 5 = .ok (.iaload, 1) := by decide +kernel
theorem dX5_pot_6 : decode cX5_pot 6 = .ok (.istore_n 1, 1) := by decide +kernel
theorem dX5_pot_7 : decode cX5_pot 7 = .ok (.iload_n 1, 1) := by decide +kernel
theorem dX5_pot_8 : decode cX5_pot 8 = .ok (.iconst 1, 1) := by decide +kernel
theorem dX5_pot_9 : decode cX5_pot 9 = .ok (.if_icmp .ge 5, 3) := by decide +kernel
theorem dX5_pot_12 : decode cX5_pot 12 = .ok (.iconst 0, 1) := by decide +kernel
theorem dX5_pot_13 : decode cX5_pot 13 = .ok (.ireturn, 1) := by decide +kernel
theorem dX5_pot_14 : decode cX5_pot 14 = .ok (.aload_n 0, 1) := by decide +kernel
theorem dX5_pot_15 : decode cX5_pot 15 = .ok (.getfield 7, 3) := by decide +kernel
theorem dX5_pot_18 : decode cX5_pot 18 = .ok (.iload_n 1, 1) := by decide +kernel
theorem dX5_pot_19 : decode cX5_pot 19 = .ok (.idiv, 1) := by decide +kernel
theorem dX5_pot_20 : decode cX5_pot 20 = .ok (.istore_n 2, 1) := by decide +kernel
theorem dX5_pot_21 : decode cX5_pot 21 = .ok (.iload_n 2, 1) := by decide +kernel
theorem dX5_pot_22 : decode cX5_pot 22 = .ok (.bipush 30, 2) := by decide +kernel
theorem dX5_pot_24 : decode cX5_pot 24 = .ok (.if_icmp .le 7, 3) := by decide +kernel
theorem dX5_pot_27 : decode cX5_pot 27 = .ok (.iconst 0, 1) := by decide +kernel
theorem dX5_pot_28 : decode cX5_pot 28 = .ok (.goto 11, 3) := by decide +kernel
theorem dX5_pot_31 : decode cX5_pot 31 = .ok (.aload_n 0, 1) := by decide +kernel
theorem dX5_pot_32 : decode cX5_pot 32 = .ok (.getfield 14, 3) := by decide +kernel
theorem dX5_pot_35 : decode cX5_pot 35 = .ok (.iconst 1, 1) := by decide +kernel
theorem dX5_pot_36 : decode cX5_pot 36 = .ok (.iaload, 1) := by decide +kernel
theorem dX5_pot_37 : decode cX5_pot 37 = .ok (.iload_n 2, 1) := by decide +kernel
theorem dX5_pot_38 : decode cX5_pot 38 = .ok (.ishr, 1) := by decide +kernel
theorem dX5_pot_39 : decode cX5_pot 39 = .ok (.ireturn, 1) := by decide +kernel
theorem dX5_payNode_0 : decode cX5_payNode 0 = .ok (.iload_n 2, 1) := by decide +kernel
theorem dX5_payNode_1 : decode cX5_payNode 1 = .ok (.aload_n 0, 1) := by decide +kernel
theorem dX5_payNode_2 : decode cX5_payNode 2 = .ok (.getfield 28, 3) := by decide +kernel
theorem dX5_payNode_5 : decode cX5_payNode 5 = .ok (.getfield 122, 3) := by decide +kernel
theorem dX5_payNode_8 : decode cX5_payNode 8 = .ok (.iload_n 1, 1) := by decide +kernel
theorem dX5_payNode_9 : decode cX5_payNode 9 = .ok (.iaload, 1) := by decide +kernel
theorem dX5_payNode_10 : decode cX5_payNode 10 = .ok (.imul, 1) := by decide +kernel
theorem dX5_payNode_11 : decode cX5_payNode 11 = .ok (.bipush 100, 2) := by decide +kernel
theorem dX5_payNode_13 : decode cX5_payNode 13 = .ok (.idiv, 1) := by decide +kernel
theorem dX5_payNode_14 : decode cX5_payNode 14 = .ok (.istore_n 3, 1) := by decide +kernel
theorem dX5_payNode_15 : decode cX5_payNode 15 = .ok (.aload_n 0, 1) := by decide +kernel
theorem dX5_payNode_16 : decode cX5_payNode 16 = .ok (.getfield 21, 3) := by decide +kernel
theorem dX5_payNode_19 : decode cX5_payNode 19 = .ok (.getfield 71, 3) := by decide +kernel
theorem dX5_payNode_22 : decode cX5_payNode 22 = .ok (.aload_n 0, 1) := by decide +kernel
theorem dX5_payNode_23 : decode cX5_payNode 23 = .ok (.getfield 28, 3) := by decide +kernel
theorem dX5_payNode_26 : decode cX5_payNode 26 = .ok (.getfield 119, 3) := by decide +kernel
theorem dX5_payNode_29 : decode cX5_payNode 29 = .ok (.iload_n 1, 1) := by decide +kernel
theorem dX5_payNode_30 : decode cX5_payNode 30 = .ok (.iaload, 1) := by decide +kernel
theorem dX5_payNode_31 : decode cX5_payNode 31 = .ok (.dup2, 1) := by decide +kernel
theorem dX5_payNode_32 : decode cX5_payNode 32 = .ok (.iaload, 1) := by decide +kernel
theorem dX5_payNode_33 : decode cX5_payNode 33 = .ok (.iload_n 3, 1) := by decide +kernel
theorem dX5_payNode_34 : decode cX5_payNode 34 = .ok (.iadd, 1) := by decide +kernel
theorem dX5_payNode_35 : decode cX5_payNode 35 = .ok (.iastore, 1) := by decide +kernel
theorem dX5_payNode_36 : decode cX5_payNode 36 = .ok (.aload_n 0, 1) := by decide +kernel
theorem dX5_payNode_37 : decode cX5_payNode 37 = .ok (.getfield 42, 3) := by decide +kernel
theorem dX5_payNode_40 : decode cX5_payNode 40 = .ok (.iload_n 2, 1) := by decide +kernel
theorem dX5_payNode_41 : decode cX5_payNode 41 = .ok (.iload_n 3, 1) := by decide +kernel
theorem dX5_payNode_42 : decode cX5_payNode 42 = .ok (.isub, 1) := by decide +kernel
theorem dX5_payNode_43 : decode cX5_payNode 43 = .ok (.aload_n 0, 1) := by decide +kernel
theorem dX5_payNode_44 : decode cX5_payNode 44 = .ok (.getfield 35, 3) := by decide +kernel
theorem dX5_payNode_47 : decode cX5_payNode 47 = .ok (.getfield 219, 3) := by decide +kernel
theorem dX5_payNode_50 : decode cX5_payNode 50 = .ok (.iload_n 1, 1) := by decide +kernel
theorem dX5_payNode_51 : decode cX5_payNode 51 = .ok (.iconst 0, 1) := by decide +kernel
theorem dX5_payNode_52 : decode cX5_payNode 52 = .ok (.invokestatic 84, 3) := by decide +kernel
theorem dX5_payNode_55 : decode cX5_payNode 55 = .ok (.bipush 10, 2) := by decide +kernel
theorem dX5_payNode_57 : decode cX5_payNode 57 = .ok (.invokevirtual 202, 3) := by decide +kernel
theorem dX5_payNode_60 : decode cX5_payNode 60 = .ok (.iconst 0, 1) := by decide +kernel
theorem dX5_payNode_61 : decode cX5_payNode 61 = .ok (.istore 4, 2) := by decide +kernel
theorem dX5_payNode_63 : decode cX5_payNode 63 = .ok (.iload 4, 2) := by decide +kernel
theorem dX5_payNode_65 : decode cX5_payNode 65 = .ok (.bipush 10, 2) := by decide +kernel
theorem dX5_payNode_67 : decode cX5_payNode 67 = .ok (.if_icmp .ge 32, 3) := by decide +kernel
theorem dX5_payNode_70 : decode cX5_payNode 70 = .ok (.aload_n 0, 1) := by decide +kernel
theorem dX5_payNode_71 : decode cX5_payNode 71 = .ok (.getfield 21, 3) := by decide +kernel
theorem dX5_payNode_74 : decode cX5_payNode 74 = .ok (.getfield 71, 3) := by decide +kernel
theorem dX5_payNode_77 : decode cX5_payNode 77 = .ok (.iload 4, 2) := by decide +kernel
theorem dX5_payNode_79 : decode cX5_payNode 79 = .ok (.dup2, 1) := by decide +kernel
theorem dX5_payNode_80 : decode cX5_payNode 80 = .ok (.iaload, 1) := by decide +kernel
theorem dX5_payNode_81 : decode cX5_payNode 81 = .ok (.aload_n 0, 1) := by decide +kernel
theorem dX5_payNode_82 : decode cX5_payNode 82 = .ok (.getfield 42, 3) := by decide +kernel
theorem dX5_payNode_85 : decode cX5_payNode 85 = .ok (.getfield 206, 3) := by decide +kernel
theorem dX5_payNode_88 : decode cX5_payNode 88 = .ok (.iload 4, 2) := by decide +kernel
theorem dX5_payNode_90 : decode cX5_payNode 90 = .ok (.iaload, 1) := by decide +kernel
theorem dX5_payNode_91 : decode cX5_payNode 91 = .ok (.iadd, 1) := by decide +kernel
theorem dX5_payNode_92 : decode cX5_payNode 92 = .ok (.iastore, 1) := by decide +kernel
theorem dX5_payNode_93 : decode cX5_payNode 93 = .ok (.iinc 4 1, 3) := by decide +kernel
theorem dX5_payNode_96 : decode cX5_payNode 96 = .ok (.goto (-33), 3) := by decide +kernel
theorem dX5_payNode_99 : decode cX5_payNode 99 = .ok (.aload_n 0, 1) := by decide +kernel
theorem dX5_payNode_100 : decode cX5_payNode 100 = .ok (.getfield 21, 3) := by decide +kernel
theorem dX5_payNode_103 : decode cX5_payNode 103 = .ok (.dup, 1) := by decide +kernel
theorem dX5_payNode_104 : decode cX5_payNode 104 = .ok (.getfield 173, 3) := by decide +kernel
theorem dX5_payNode_107 : decode cX5_payNode 107 = .ok (.iload_n 2, 1) := by decide +kernel
theorem dX5_payNode_108 : decode cX5_payNode 108 = .ok (.iadd, 1) := by decide +kernel
theorem dX5_payNode_109 : decode cX5_payNode 109 = .ok (.putfield 173, 3) := by decide +kernel
theorem dX5_payNode_112 : decode cX5_payNode 112 = .ok (.return_, 1) := by decide +kernel
theorem dX5_fixSet_0 : decode cX5_fixSet 0 = .ok (.iconst 0, 1) := by decide +kernel
theorem dX5_fixSet_1 : decode cX5_fixSet 1 = .ok (.istore_n 1, 1) := by decide +kernel
theorem dX5_fixSet_2 : decode cX5_fixSet 2 = .ok (.iload_n 1, 1) := by decide +kernel
theorem dX5_fixSet_3 : decode cX5_fixSet 3 = .ok (.aload_n 0, 1) := by decide +kernel
theorem dX5_fixSet_4 : decode cX5_fixSet 4 = .ok (.getfield 28, 3) := by decide +kernel
theorem dX5_fixSet_7 : decode cX5_fixSet 7 = .ok (.getfield 74, 3) := by decide +kernel
theorem dX5_fixSet_10 : decode cX5_fixSet 10 = .ok (.if_icmp .ge 49, 3) := by decide +kernel
theorem dX5_fixSet_13 : decode cX5_fixSet 13 = .ok (.aload_n 0, 1) := by decide +kernel
theorem dX5_fixSet_14 : decode cX5_fixSet 14 = .ok (.getfield 28, 3) := by decide +kernel
theorem dX5_fixSet_17 : decode cX5_fixSet 17 = .ok (.iload_n 1, 1) := by decide +kernel
theorem dX5_fixSet_18 : decode cX5_fixSet 18 = .ok (.invokevirtual 222, 3) := by decide +kernel
theorem dX5_fixSet_21 : decode cX5_fixSet 21 = .ok (.ifCond .eq 32, 3) := by decide +kernel
theorem dX5_fixSet_24 : decode cX5_fixSet 24 = .ok (.aload_n 0, 1) := by decide +kernel
theorem dX5_fixSet_25 : decode cX5_fixSet 25 = .ok (.getfield 35, 3) := by decide +kernel
theorem dX5_fixSet_28 : decode cX5_fixSet 28 = .ok (.aload_n 0, 1) := by decide +kernel
theorem dX5_fixSet_29 : decode cX5_fixSet 29 = .ok (.getfield 7, 3) := by decide +kernel
theorem dX5_fixSet_32 : decode cX5_fixSet 32 = .ok (.iload_n 1, 1) := by decide +kernel
theorem dX5_fixSet_33 : decode cX5_fixSet 33 = .ok (.aload_n 0, 1) := by decide +kernel
theorem dX5_fixSet_34 : decode cX5_fixSet 34 = .ok (.getfield 21, 3) := by decide +kernel
theorem dX5_fixSet_37 : decode cX5_fixSet 37 = .ok (.iload_n 1, 1) := by decide +kernel
theorem dX5_fixSet_38 : decode cX5_fixSet 38 = .ok (.invokevirtual 125, 3) := by decide +kernel
theorem dX5_fixSet_41 : decode cX5_fixSet 41 = .ok (.aload_n 0, 1) := by decide +kernel
theorem dX5_fixSet_42 : decode cX5_fixSet 42 = .ok (.getfield 14, 3) := by decide +kernel
theorem dX5_fixSet_45 : decode cX5_fixSet 45 = .ok (.iconst 3, 1) := by decide +kernel
theorem dX5_fixSet_46 : decode cX5_fixSet 46 = .ok (.iaload, 1) := by decide +kernel
theorem dX5_fixSet_47 : decode cX5_fixSet 47 = .ok (.invokestatic 225, 3) := by decide +kernel
theorem dX5_fixSet_50 : decode cX5_fixSet 50 = .ok (.invokevirtual 230, 3) := by decide +kernel
theorem dX5_fixSet_53 : decode cX5_fixSet 53 = .ok (.iinc 1 1, 3) := by decide +kernel
theorem dX5_fixSet_56 : decode cX5_fixSet 56 = .ok (.goto (-54), 3) := by decide +kernel
theorem dX5_fixSet_59 : decode cX5_fixSet 59 = .ok (.aload_n 0, 1) := by decide +kernel
theorem dX5_fixSet_60 : decode cX5_fixSet 60 = .ok (.getfield 21, 3) := by decide +kernel
theorem dX5_fixSet_63 : decode cX5_fixSet 63 = .ok (.getfield 87, 3) := by decide +kernel
theorem dX5_fixSet_66 : decode cX5_fixSet 66 = .ok (.iconst 0, 1) := by decide +kernel
theorem dX5_fixSet_67 : decode cX5_fixSet 67 = .ok (.aload_n 0, 1) := by decide +kernel
theorem dX5_fixSet_68 : decode cX5_fixSet 68 = .ok (.getfield 35, 3) := by decide +kernel
theorem dX5_fixSet_71 : decode cX5_fixSet 71 = .ok (.getfield 219, 3) := by decide +kernel
theorem dX5_fixSet_74 : decode cX5_fixSet 74 = .ok (.iconst 0, 1) := by decide +kernel
theorem dX5_fixSet_75 : decode cX5_fixSet 75 = .ok (.bipush 80, 2) := by decide +kernel
theorem dX5_fixSet_77 : decode cX5_fixSet 77 = .ok (.invokestatic 209, 3) := by decide +kernel
theorem dX5_fixSet_80 : decode cX5_fixSet 80 = .ok (.return_, 1) := by decide +kernel
end
section
theorem dX6_in_0 : decode cX6_in 0 = .ok (.lload_n 0, 1) := by decide +kernel
theorem dX6_in_1 : decode cX6_in 1 = .ok (.lload_n 2, 1) := by decide +kernel
theorem dX6_in_2 : decode cX6_in 2 = .ok (.lcmp, 1) := by decide +kernel
theorem dX6_in_3 : decode cX6_in 3 = .ok (.ifCond .lt 14, 3) := by decide +kernel
theorem dX6_in_6 : decode cX6_in 6 = .ok (.lload_n 0, 1) := by decide +kernel
theorem dX6_in_7 : decode cX6_in 7 = .ok (.lload 4, 2) := by decide +kernel
theorem dX6_in_9 : decode cX6_in 9 = .ok (.lcmp, 1) := by decide +kernel
theorem dX6_in_10 : decode cX6_in 10 = .ok (.ifCond .gt 7, 3) := by decide +kernel
theorem dX6_in_13 : decode cX6_in 13 = .ok (.iconst 1, 1) := by decide +kernel
theorem dX6_in_14 : decode cX6_in 14 = .ok (.goto 4, 3) := by decide +kernel
theorem dX6_in_17 : decode cX6_in 17 = .ok (.iconst 0, 1) := by decide +kernel
theorem dX6_in_18 : decode cX6_in 18 = .ok (.ireturn, 1) := by decide +kernel
theorem dX6_init_0 : decode cX6_init 0 = .ok (.aload_n 0, 1) := by decide +kernel
theorem dX6_init_1 : decode cX6_init 1 = .ok (.invokespecial 7, 3) := by decide +kernel
theorem dX6_init_4 : decode cX6_init 4 = .ok (.aload_n 0, 1) := by decide +kernel
theorem dX6_init_5 : decode cX6_init 5 = .ok (.iconst 2, 1) := by decide +kernel
theorem dX6_init_6 : decode cX6_init 6 = .ok (.putfield 13, 3) := by decide +kernel
theorem dX6_init_9 : decode cX6_init 9 = .ok (.aload_n 0, 1) := by decide +kernel
theorem dX6_init_10 : decode cX6_init 10 = .ok (.bipush 100, 2) := by decide +kernel
theorem dX6_init_12 : decode cX6_init 12 = .ok (.putfield 16, 3) := by decide +kernel
theorem dX6_init_15 : decode cX6_init 15 = .ok (.aload_n 0, 1) := by decide +kernel
theorem dX6_init_16 : decode cX6_init 16 = .ok (.bipush 10, 2) := by decide +kernel
theorem dX6_init_18 : decode cX6_init 18 = .ok (.putfield 19, 3) := by decide +kernel
theorem dX6_init_21 : decode cX6_init 21 = .ok (.aload_n 0, 1) := by decide +kernel
theorem dX6_init_22 : decode cX6_init 22 = .ok (.ldc 22, 2) := by decide +kernel
theorem dX6_init_24 : decode cX6_init 24 = .ok (.putfield 23, 3) := by decide +kernel
theorem dX6_init_27 : decode cX6_init 27 = .ok (.aload_n 0, 1) := by decide +kernel
theorem dX6_init_28 : decode cX6_init 28 = .ok (.bipush 10, 2) := by decide +kernel
theorem dX6_init_30 : decode cX6_init 30 = .ok (.newarray .int, 2) := by decide +kernel
theorem dX6_init_32 : decode cX6_init 32 = .ok (.putfield 26, 3) := by decide +kernel
theorem dX6_init_35 : decode cX6_init 35 = .ok (.aload_n 0, 1) := by decide +kernel
theorem dX6_init_36 : decode cX6_init 36 = .ok (.bipush 8, 2) := by decide +kernel
theorem dX6_init_38 : decode cX6_init 38 = .ok (.newarray .int, 2) := by decide +kernel
theorem dX6_init_40 : decode cX6_init 40 = .ok (.putfield 30, 3) := by decide +kernel
theorem dX6_init_43 : decode cX6_init 43 = .ok (.aload_n 0, 1) := by decide +kernel
theorem dX6_init_44 : decode cX6_init 44 = .ok (.bipush 8, 2) := by decide +kernel
theorem dX6_init_46 : decode cX6_init 46 = .ok (.newarray .int, 2) := by decide +kernel
theorem dX6_init_48 : decode cX6_init 48 = .ok (.putfield 33, 3) := by decide +kernel
theorem dX6_init_51 : decode cX6_init 51 = .ok (.aload_n 0, 1) := by decide +kernel
theorem dX6_init_52 : decode cX6_init 52 = .ok (.bipush 8, 2) := by decide +kernel
theorem dX6_init_54 : decode cX6_init 54 = .ok (.newarray .int, 2) := by decide +kernel
theorem dX6_init_56 : decode cX6_init 56 = .ok (.putfield 36, 3) := by decide +kernel
theorem dX6_init_59 : decode cX6_init 59 = .ok (.aload_n 0, 1) := by decide +kernel
theorem dX6_init_60 : decode cX6_init 60 = .ok (.bipush 8, 2) := by decide +kernel
theorem dX6_init_62 : decode cX6_init 62 = .ok (.newarray .int, 2) := by decide +kernel
theorem dX6_init_64 : decode cX6_init 64 = .ok (.putfield 39, 3) := by decide +kernel
theorem dX6_init_67 : decode cX6_init 67 = .ok (.aload_n 0, 1) := by decide +kernel
theorem dX6_init_68 : decode cX6_init 68 = .ok (.bipush 8, 2) := by decide +kernel
theorem dX6_init_70 : decode cX6_init 70 = .ok (.newarray .boolean, 2) := by decide +kernel
theorem dX6_init_72 : decode cX6_init 72 = .ok (.putfield 42, 3) := by decide +kernel
theorem dX6_init_75 : decode cX6_init 75 = .ok (.aload_n 0, 1) := by decide +kernel
theorem dX6_init_76 : decode cX6_init 76 = .ok (.bipush 80, 2) := by decide +kernel
theorem dX6_init_78 : decode cX6_init 78 = .ok (.newarray .int, 2) := by decide +kernel
theorem dX6_init_80 : decode cX6_init 80 = .ok (.putfield 46, 3) := by decide +kernel
theorem dX6_init_83 : decode cX6_init 83 = .ok (.aload_n 0, 1) := by decide +kernel
theorem dX6_init_84 : decode cX6_init 84 = .ok (.bipush 80, 2) := by decide +kernel
theorem dX6_init_86 : decode cX6_init 86 = .ok (.newarray .int, 2) := by decide +kernel
theorem dX6_init_88 : decode cX6_init 88 = .ok (.putfield 49, 3) := by decide +kernel
theorem dX6_init_91 : decode cX6_init 91 = .ok (.aload_n 0, 1) := by decide +kernel
theorem dX6_init_92 : decode cX6_init 92 = .ok (.sipush 1100, 3) := by decide +kernel
theorem dX6_init_95 : decode cX6_init 95 = .ok (.newarray .int, 2) := by decide +kernel
theorem dX6_init_97 : decode cX6_init 97 = .ok (.putfield 52, 3) := by decide +kernel
theorem dX6_init_100 : decode cX6_init 100 = .ok (.aload_n 0, 1) := by decide +kernel
theorem dX6_init_101 : decode cX6_init 101 = .ok (.sipush 808, 3) := by decide +kernel
theorem dX6_init_104 : decode cX6_init 104 = .ok (.newarray .int, 2) := by decide +kernel
theorem dX6_init_106 : decode cX6_init 106 = .ok (.putfield 55, 3) := by decide +kernel
theorem dX6_init_109 : decode cX6_init 109 = .ok (.aload_n 0, 1) := by decide +kernel
theorem dX6_init_110 : decode cX6_init 110 = .ok (.sipush 808, 3) := by decide +kernel
theorem dX6_init_113 : decode cX6_init 113 = .ok (.newarray .int, 2) := by decide +kernel
theorem dX6_init_115 : decode cX6_init 115 = .ok (.putfield 58, 3) := by decide +kernel
theorem dX6_init_118 : decode cX6_init 118 = .ok (.aload_n 0, 1) := by decide +kernel
theorem dX6_init_119 : decode cX6_init 119 = .ok (.bipush 101, 2) := by decide +kernel
theorem dX6_init_121 : decode cX6_init 121 = .ok (.newarray .int, 2) := by decide +kernel
theorem dX6_init_123 : decode cX6_init 123 = .ok (.putfield 61, 3) := by decide +kernel
theorem dX6_init_126 : decode cX6_init 126 = .ok (.aload_n 0, 1) := by decide +kernel
theorem dX6_init_127 : decode cX6_init 127 = .ok (.bipush 10, 2) := by decide +kernel
theorem dX6_init_129 : decode cX6_init 129 = .ok (.newarray .long, 2) := by decide +kernel
theorem dX6_init_131 : decode cX6_init 131 = .ok (.putfield 64, 3) := by decide +kernel
theorem dX6_init_134 : decode cX6_init 134 = .ok (.aload_n 0, 1) := by decide +kernel
theorem dX6_init_135 : decode cX6_init 135 = .ok (.bipush 10, 2) := by decide +kernel
theorem dX6_init_137 : decode cX6_init 137 = .ok (.newarray .int, 2) := by decide +kernel
theorem dX6_init_139 : decode cX6_init 139 = .ok (.putfield 68, 3) := by decide +kernel
theorem dX6_init_142 : decode cX6_init 142 = .ok (.aload_n 0, 1) := by decide +kernel
theorem dX6_init_143 : decode cX6_init 143 = .ok (.bipush 101, 2) := by decide +kernel
theorem dX6_init_145 : decode cX6_init 145 = .ok (.newarray .int, 2) := by decide +kernel
theorem dX6_init_147 : decode cX6_init 147 = .ok (.putfield 71, 3) := by decide +kernel
theorem dX6_init_150 : decode cX6_init 150 = .ok (.aload_n 0, 1) := by decide +kernel
theorem dX6_init_151 : decode cX6_init 151 = .ok (.iconst 0, 1) := by decide +kernel
theorem dX6_init_152 : decode cX6_init 152 = .ok (.putfield 1, 3) := by decide +kernel
theorem dX6_init_155 : decode cX6_init 155 = .ok (.return_, 1) := by decide +kernel
theorem dX6_noAccount_0 : decode cX6_noAccount 0 = .ok (.iload_n 0, 1) := by decide +kernel
theorem dX6_noAccount_1 : decode cX6_noAccount 1 = .ok (.i2l, 1) := by decide +kernel
theorem dX6_noAccount_2 : decode cX6_noAccount 2 = .ok (.lconst 0, 1) := by decide +kernel
theorem dX6_noAccount_3 : decode cX6_noAccount 3 = .ok (.ldc2_w 74, 3) := by decide +kernel
theorem dX6_noAccount_6 : decode cX6_noAccount 6 = .ok (.invokestatic 76, 3) := by decide +kernel
theorem dX6_noAccount_9 : decode cX6_noAccount 9 = .ok (.ifCond .ne 7, 3) := by decide +kernel
theorem dX6_noAccount_12 : decode cX6_noAccount 12 = .ok (.iconst 1, 1) := by decide +kernel
theorem dX6_noAccount_13 : decode cX6_noAccount 13 = .ok (.goto 4, 3) := by decide +kernel
theorem dX6_noAccount_16 : decode cX6_noAccount 16 = .ok (.iconst 0, 1) := by decide +kernel
theorem dX6_noAccount_17 : decode cX6_noAccount 17 = .ok (.ireturn, 1) := by decide +kernel
theorem dX6_noNode_0 : decode cX6_noNode 0 = .ok (.iload_n 1, 1) := by decide +kernel
theorem dX6_noNode_1 : decode cX6_noNode 1 = .ok (.i2l, 1) := by decide +kernel
theorem dX6_noNode_2 : decode cX6_noNode 2 = .ok (.lconst 0, 1) := by decide +kernel
theorem dX6_noNode_3 : decode cX6_noNode 3 = .ok (.aload_n 0, 1) := by decide +kernel
theorem dX6_noNode_4 : decode cX6_noNode 4 = .ok (.getfield 80, 3) := by decide +kernel
theorem dX6_noNode_7 : decode cX6_noNode 7 = .ok (.iconst 1, 1) := by decide +kernel
theorem dX6_noNode_8 : decode cX6_noNode 8 = .ok (.isub, 1) := by decide +kernel
theorem dX6_noNode_9 : decode cX6_noNode 9 = .ok (.i2l, 1) := by decide +kernel
theorem dX6_noNode_10 : decode cX6_noNode 10 = .ok (.invokestatic 76, 3) := by decide +kernel
theorem dX6_noNode_13 : decode cX6_noNode 13 = .ok (.ifCond .ne 7, 3) := by decide +kernel
theorem dX6_noNode_16 : decode cX6_noNode 16 = .ok (.iconst 1, 1) := by decide +kernel
theorem dX6_noNode_17 : decode cX6_noNode 17 = .ok (.goto 4, 3) := by decide +kernel
theorem dX6_noNode_20 : decode cX6_noNode 20 = .ok (.iconst 0, 1) := by decide +kernel
theorem dX6_noNode_21 : decode cX6_noNode 21 = .ok (.ireturn, 1) := by decide +kernel
theorem dX6_noHeight_0 : decode cX6_noHeight 0 = .ok (.iload_n 1, 1) := by decide +kernel
theorem dX6_noHeight_1 : decode cX6_noHeight 1 = .ok (.i2l, 1) := by decide +kernel
theorem dX6_noHeight_2 : decode cX6_noHeight 2 = .ok (.lconst 0, 1) := by decide +kernel
theorem dX6_noHeight_3 : decode cX6_noHeight 3 = .ok (.aload_n 0, 1) := by decide +kernel
theorem dX6_noHeight_4 : decode cX6_noHeight 4 = .ok (.getfield 83, 3) := by decide +kernel
theorem dX6_noHeight_7 : decode cX6_noHeight 7 = .ok (.i2l, 1) := by decide +kernel
theorem dX6_noHeight_8 : decode cX6_noHeight 8 = .ok (.invokestatic 76, 3) := by decide +kernel
theorem dX6_noHeight_11 : decode cX6_noHeight 11 = .ok (.ifCond .ne 7, 3) := by decide +kernel
theorem dX6_noHeight_14 : decode cX6_noHeight 14 = .ok (.iconst 1, 1) := by decide +kernel
theorem dX6_noHeight_15 : decode cX6_noHeight 15 = .ok (.goto 4, 3) := by decide +kernel
theorem dX6_noHeight_18 : decode cX6_noHeight 18 = .ok (.iconst 0, 1) := by decide +kernel
theorem dX6_noHeight_19 : decode cX6_noHeight 19 = .ok (.ireturn, 1) := by decide +kernel
theorem dX6_rule_0 : decode cX6_rule 0 = .ok (.aload_n 0, 1) := by decide +kernel
theorem dX6_rule_1 : decode cX6_rule 1 = .ok (.iconst 0, 1) := by decide +kernel
theorem dX6_rule_2 : decode cX6_rule 2 = .ok (.putfield 1, 3) := by decide +kernel
theorem dX6_rule_5 : decode cX6_rule 5 = .ok (.iload_n 1, 1) := by decide +kernel
theorem dX6_rule_6 : decode cX6_rule 6 = .ok (.ifCond .ne 15, 3) := by decide +kernel
theorem dX6_rule_9 : decode cX6_rule 9 = .ok (.iload_n 2, 1) := by decide +kernel
theorem dX6_rule_10 : decode cX6_rule 10 = .ok (.i2l, 1) := by decide +kernel
theorem dX6_rule_11 : decode cX6_rule 11 = .ok (.lconst 1, 1) := by decide +kernel
theorem dX6_rule_12 : decode cX6_rule 12 = .ok (.ldc2_w 74, 3) := by decide +kernel
theorem dX6_rule_15 : decode cX6_rule 15 = .ok (.invokestatic 76, 3) := by decide +kernel
theorem dX6_rule_18 : decode cX6_rule 18 = .ok (.goto 59, 3) := by decide +kernel
theorem dX6_rule_21 : decode cX6_rule 21 = .ok (.iload_n 1, 1) := by decide +kernel
theorem dX6_rule_22 : decode cX6_rule 22 = .ok (.iconst 1, 1) := by decide +kernel
theorem dX6_rule_23 : decode cX6_rule 23 = .ok (.if_icmp .ne 15, 3) := by decide +kernel
theorem dX6_rule_26 : decode cX6_rule 26 = .ok (.iload_n 2, 1) := by decide +kernel
theorem dX6_rule_27 : decode cX6_rule 27 = .ok (.i2l, 1) := by decide +kernel
theorem dX6_rule_28 : decode cX6_rule 28 = .ok (.lconst 0, 1) := by decide +kernel
theorem dX6_rule_29 : decode cX6_rule 29 = .ok (.ldc2_w 86, 3) := by decide +kernel
theorem dX6_rule_32 : decode cX6_rule 32 = .ok (.invokestatic 76, 3) := by decide +kernel
theorem dX6_rule_35 : decode cX6_rule 35 = .ok (.goto 42, 3) := by decide +kernel
theorem dX6_rule_38 : decode cX6_rule 38 = .ok (.iload_n 1, 1) := by decide +kernel
theorem dX6_rule_39 : decode cX6_rule 39 = .ok (.iconst 2, 1) := by decide +kernel
theorem dX6_rule_40 : decode cX6_rule 40 = .ok (.if_icmp .ne 15, 3) := by decide +kernel
theorem dX6_rule_43 : decode cX6_rule 43 = .ok (.iload_n 2, 1) := by decide +kernel
theorem dX6_rule_44 : decode cX6_rule 44 = .ok (.i2l, 1) := by decide +kernel
theorem dX6_rule_45 : decode cX6_rule 45 = .ok (.lconst 1, 1) := by decide +kernel
theorem dX6_rule_46 : decode cX6_rule 46 = .ok (.ldc2_w 88, 3) := by decide +kernel
theorem dX6_rule_49 : decode cX6_rule 49 = .ok (.invokestatic 76, 3) := by decide +kernel
theorem dX6_rule_52 : decode cX6_rule 52 = .ok (.goto 25, 3) := by decide +kernel
theorem dX6_rule_55 : decode cX6_rule 55 = .ok (.iload_n 1, 1) := by decide +kernel
theorem dX6_rule_56 : decode cX6_rule 56 = .ok (.iconst 3, 1) := by decide +kernel
theorem dX6_rule_57 : decode cX6_rule 57 = .ok (.if_icmp .ne 19, 3) := by decide +kernel
theorem dX6_rule_60 : decode cX6_rule 60 = .ok (.iload_n 2, 1) := by decide +kernel
theorem dX6_rule_61 : decode cX6_rule 61 = .ok (.i2l, 1) := by decide +kernel
theorem dX6_rule_62 : decode cX6_rule 62 = .ok (.lconst 1, 1) := by decide +kernel
theorem dX6_rule_63 : decode cX6_rule 63 = .ok (.ldc2_w 90, 3) := by decide +kernel
theorem dX6_rule_66 : decode cX6_rule 66 = .ok (.invokestatic 76, 3) := by decide +kernel
theorem dX6_rule_69 : decode cX6_rule 69 = .ok (.ifCond .eq 7, 3) := by decide +kernel
theorem dX6_rule_72 : decode cX6_rule 72 = .ok (.iconst 1, 1) := by decide +kernel
theorem dX6_rule_73 : decode cX6_rule 73 = .ok (.goto 4, 3) := by decide +kernel
theorem dX6_rule_76 : decode cX6_rule 76 = .ok (.iconst 0, 1) := by decide +kernel
theorem dX6_rule_77 : decode cX6_rule 77 = .ok (.istore_n 3, 1) := by decide +kernel
theorem dX6_rule_78 : decode cX6_rule 78 = .ok (.iload_n 3, 1) := by decide +kernel
theorem dX6_rule_79 : decode cX6_rule 79 = .ok (.ifCond .ne 5, 3) := by decide +kernel
theorem dX6_rule_82 : decode cX6_rule 82 = .ok (.iconst (-1), 1) := by decide +kernel
theorem dX6_rule_83 : decode cX6_rule 83 = .ok (.ireturn, 1) := by decide +kernel
theorem dX6_rule_84 : decode cX6_rule 84 = .ok (.aload_n 0, 1) := by decide +kernel
theorem dX6_rule_85 : decode cX6_rule 85 = .ok (.getfield 83, 3) := by decide +kernel
theorem dX6_rule_88 : decode cX6_rule 88 = .ok (.ifCond .le 6, 3) := by decide +kernel
theorem dX6_rule_91 : decode cX6_rule 91 = .ok (.bipush (-4), 2) := by decide +kernel
theorem dX6_rule_93 : decode cX6_rule 93 = .ok (.ireturn, 1) := by decide +kernel
theorem dX6_rule_94 : decode cX6_rule 94 = .ok (.iload_n 1, 1) := by decide +kernel
theorem dX6_rule_95 : decode cX6_rule 95 = .ok (.ifCond .ne 10, 3) := by decide +kernel
theorem dX6_rule_98 : decode cX6_rule 98 = .ok (.aload_n 0, 1) := by decide +kernel
theorem dX6_rule_99 : decode cX6_rule 99 = .ok (.getfield 13, 3) := by decide +kernel
theorem dX6_rule_102 : decode cX6_rule 102 = .ok (.goto 31, 3) := by decide +kernel
theorem dX6_rule_105 : decode cX6_rule 105 = .ok (.iload_n 1, 1) := by decide +kernel
theorem dX6_rule_106 : decode cX6_rule 106 = .ok (.iconst 1, 1) := by decide +kernel
theorem dX6_rule_107 : decode cX6_rule 107 = .ok (.if_icmp .ne 10, 3) := by decide +kernel
theorem dX6_rule_110 : decode cX6_rule 110 = .ok (.aload_n 0, 1) := by decide +kernel
theorem dX6_rule_111 : decode cX6_rule 111 = .ok (.getfield 16, 3) := by decide +kernel
theorem dX6_rule_114 : decode cX6_rule 114 = .ok (.goto 19, 3) := by decide +kernel
theorem dX6_rule_117 : decode cX6_rule 117 = .ok (.iload_n 1, 1) := by decide +kernel
theorem dX6_rule_118 : decode cX6_rule 118 = .ok (.iconst 2, 1) := by decide +kernel
theorem dX6_rule_119 : decode cX6_rule 119 = .ok (.if_icmp .ne 10, 3) := by decide +kernel
theorem dX6_rule_122 : decode cX6_rule 122 = .ok (.aload_n 0, 1) := by decide +kernel
theorem dX6_rule_123 : decode cX6_rule 123 = .ok (.getfield 19, 3) := by decide +kernel
theorem dX6_rule_126 : decode cX6_rule 126 = .ok (.goto 7, 3) := by decide +kernel
theorem dX6_rule_129 : decode cX6_rule 129 = .ok (.aload_n 0, 1) := by decide +kernel
theorem dX6_rule_130 : decode cX6_rule 130 = .ok (.getfield 23, 3) := by decide +kernel
theorem dX6_rule_133 : decode cX6_rule 133 = .ok (.istore 4, 2) := by decide +kernel
theorem dX6_rule_135 : decode cX6_rule 135 = .ok (.aload_n 0, 1) := by decide +kernel
theorem dX6_rule_136 : decode cX6_rule 136 = .ok (.iload_n 1, 1) := by decide +kernel
theorem dX6_rule_137 : decode cX6_rule 137 = .ok (.ifCond .ne 7, 3) := by decide +kernel
theorem dX6_rule_140 : decode cX6_rule 140 = .ok (.iload_n 2, 1) := by decide +kernel
theorem dX6_rule_141 : decode cX6_rule 141 = .ok (.goto 7, 3) := by decide +kernel
theorem dX6_rule_144 : decode cX6_rule 144 = .ok (.aload_n 0, 1) := by decide +kernel
theorem dX6_rule_145 : decode cX6_rule 145 = .ok (.getfield 13, 3) := by decide +kernel
theorem dX6_rule_148 : decode cX6_rule 148 = .ok (.putfield 13, 3) := by decide +kernel
theorem dX6_rule_151 : decode cX6_rule 151 = .ok (.aload_n 0, 1) := by decide +kernel
theorem dX6_rule_152 : decode cX6_rule 152 = .ok (.iload_n 1, 1) := by decide +kernel
theorem dX6_rule_153 : decode cX6_rule 153 = .ok (.iconst 1, 1) := by decide +kernel
theorem dX6_rule_154 : decode cX6_rule 154 = .ok (.if_icmp .ne 7, 3) := by decide +kernel
theorem dX6_rule_157 : decode cX6_rule 157 = .ok (.iload_n 2, 1) := by decide +kernel
theorem dX6_rule_158 : decode cX6_rule 158 = .ok (.goto 7, 3) := by decide +kernel
theorem dX6_rule_161 : decode cX6_rule 161 = .ok (.aload_n 0, 1) := by decide +kernel
theorem dX6_rule_162 : decode cX6_rule 162 = .ok (.getfield 16, 3) := by decide +kernel
theorem dX6_rule_165 : decode cX6_rule 165 = .ok (.putfield 16, 3) := by decide +kernel
theorem dX6_rule_168 : decode cX6_rule 168 = .ok (.aload_n 0, 1) := by decide +kernel
theorem dX6_rule_169 : decode cX6_rule 169 = .ok (.iload_n 1, 1) := by decide +kernel
theorem dX6_rule_170 : decode cX6_rule 170 = .ok (.iconst 2, 1) := by decide +kernel
theorem dX6_rule_171 : decode cX6_rule 171 = .ok (.if_icmp .ne 7, 3) := by decide +kernel
theorem dX6_rule_174 : decode cX6_rule 174 = .ok (.iload_n 2, 1) := by decide +kernel
theorem dX6_rule_175 : decode cX6_rule 175 = .ok (.goto 7, 3) := by decide +kernel
theorem dX6_rule_178 : decode cX6_rule 178 = .ok (.aload_n 0, 1) := by decide +kernel
theorem dX6_rule_179 : decode cX6_rule 179 = .ok (.getfield 19, 3) := by decide +kernel
theorem dX6_rule_182 : decode cX6_rule 182 = .ok (.putfield 19, 3) := by decide +kernel
theorem dX6_rule_185 : decode cX6_rule 185 = .ok (.aload_n 0, 1) := by decide +kernel
theorem dX6_rule_186 : decode cX6_rule 186 = .ok (.iload_n 1, 1) := by decide +kernel
theorem dX6_rule_187 : decode cX6_rule 187 = .ok (.iconst 3, 1) := by decide +kernel
theorem dX6_rule_188 : decode cX6_rule 188 = .ok (.if_icmp .ne 7, 3) := by decide +kernel
theorem dX6_rule_191 : decode cX6_rule 191 = .ok (.iload_n 2, 1) := by decide +kernel
theorem dX6_rule_192 : decode cX6_rule 192 = .ok (.goto 7, 3) := by decide +kernel
theorem dX6_rule_195 : decode cX6_rule 195 = .ok (.aload_n 0, 1) := by decide +kernel
theorem dX6_rule_196 : decode cX6_rule 196 = .ok (.getfield 23, 3) := by decide +kernel
theorem dX6_rule_199 : decode cX6_rule 199 = .ok (.putfield 23, 3) := by decide +kernel
theorem dX6_rule_202 : decode cX6_rule 202 = .ok (.iload 4, 2) := by decide +kernel
theorem dX6_rule_204 : decode cX6_rule 204 = .ok (.ireturn, 1) := by decide +kernel
theorem dX6_fund_0 : decode cX6_fund 0 = .ok (.aload_n 0, 1) := by decide +kernel
theorem dX6_fund_1 : decode cX6_fund 1 = .ok (.iconst 0, 1) := by decide +kernel
theorem dX6_fund_2 : decode cX6_fund 2 = .ok (.putfield 1, 3) := by decide +kernel
theorem dX6_fund_5 : decode cX6_fund 5 = .ok (.iload_n 1, 1) := by decide +kernel
theorem dX6_fund_6 : decode cX6_fund 6 = .ok (.invokestatic 92, 3) := by decide +kernel
theorem dX6_fund_9 : decode cX6_fund 9 = .ok (.ifCond .ne 15, 3) := by decide +kernel
theorem dX6_fund_12 : decode cX6_fund 12 = .ok (.iload_n 2, 1) := by decide +kernel
theorem dX6_fund_13 : decode cX6_fund 13 = .ok (.i2l, 1) := by decide +kernel
theorem dX6_fund_14 : decode cX6_fund 14 = .ok (.lconst 1, 1) := by decide +kernel
theorem dX6_fund_15 : decode cX6_fund 15 = .ok (.ldc2_w 96, 3) := by decide +kernel
theorem dX6_fund_18 : decode cX6_fund 18 = .ok (.invokestatic 76, 3) := by decide +kernel
theorem dX6_fund_21 : decode cX6_fund 21 = .ok (.ifCond .ne 5, 3) := by decide +kernel
theorem dX6_fund_24 : decode cX6_fund 24 = .ok (.iconst (-1), 1) := by decide +kernel
theorem dX6_fund_25 : decode cX6_fund 25 = .ok (.ireturn, 1) := by decide +kernel
theorem dX6_fund_26 : decode cX6_fund 26 = .ok (.aload_n 0, 1) := by decide +kernel
theorem dX6_fund_27 : decode cX6_fund 27 = .ok (.getfield 98, 3) := by decide +kernel
theorem dX6_fund_30 : decode cX6_fund 30 = .ok (.iload_n 2, 1) := by decide +kernel
theorem dX6_fund_31 : decode cX6_fund 31 = .ok (.iadd, 1) := by decide +kernel
theorem dX6_fund_32 : decode cX6_fund 32 = .ok (.ldc 22, 2) := by decide +kernel
theorem dX6_fund_34 : decode cX6_fund 34 = .ok (.if_icmp .le 6, 3) := by decide +kernel
theorem dX6_fund_37 : decode cX6_fund 37 = .ok (.bipush (-3), 2) := by decide +kernel
theorem dX6_fund_39 : decode cX6_fund 39 = .ok (.ireturn, 1) := by decide +kernel
theorem dX6_fund_40 : decode cX6_fund 40 = .ok (.aload_n 0, 1) := by decide +kernel
theorem dX6_fund_41 : decode cX6_fund 41 = .ok (.aload_n 0, 1) := by decide +kernel
theorem dX6_fund_42 : decode cX6_fund 42 = .ok (.getfield 98, 3) := by decide +kernel
theorem dX6_fund_45 : decode cX6_fund 45 = .ok (.iload_n 2, 1) := by decide +kernel
theorem dX6_fund_46 : decode cX6_fund 46 = .ok (.iadd, 1) := by decide +kernel
theorem dX6_fund_47 : decode cX6_fund 47 = .ok (.putfield 98, 3) := by decide +kernel
theorem dX6_fund_50 : decode cX6_fund 50 = .ok (.aload_n 0, 1) := by decide +kernel
theorem dX6_fund_51 : decode cX6_fund 51 = .ok (.getfield 26, 3) := by decide +kernel
theorem dX6_fund_54 : decode cX6_fund 54 = .ok (.iload_n 1, 1) := by decide +kernel
theorem dX6_fund_55 : decode cX6_fund 55 = .ok (.aload_n 0, 1) := by decide +kernel
theorem dX6_fund_56 : decode cX6_fund 56 = .ok (.getfield 26, 3) := by decide +kernel
theorem dX6_fund_59 : decode cX6_fund 59 = .ok (.iload_n 1, 1) := by decide +kernel
theorem dX6_fund_60 : decode cX6_fund 60 = .ok (.iaload, 1) := by decide +kernel
theorem dX6_fund_61 : decode cX6_fund 61 = .ok (.iload_n 2, 1) := by decide +kernel
theorem dX6_fund_62 : decode cX6_fund 62 = .ok (.iadd, 1) := by decide +kernel
theorem dX6_fund_63 : decode cX6_fund 63 = .ok (.iastore, 1) := by decide +kernel
theorem dX6_fund_64 : decode cX6_fund 64 = .ok (.aload_n 0, 1) := by decide +kernel
theorem dX6_fund_65 : decode cX6_fund 65 = .ok (.getfield 26, 3) := by decide +kernel
theorem dX6_fund_68 : decode cX6_fund 68 = .ok (.iload_n 1, 1) := by decide +kernel
theorem dX6_fund_69 : decode cX6_fund 69 = .ok (.iaload, 1) := by decide +kernel
theorem dX6_fund_70 : decode cX6_fund 70 = .ok (.ireturn, 1) := by decide +kernel
theorem dX6_node_0 : decode cX6_node 0 = .ok (.aload_n 0, 1) := by decide +kernel
theorem dX6_node_1 : decode cX6_node 1 = .ok (.iconst 0, 1) := by decide +kernel
theorem dX6_node_2 : decode cX6_node 2 = .ok (.putfield 1, 3) := by decide +kernel
theorem dX6_node_5 : decode cX6_node 5 = .ok (.iload_n 1, 1) := by decide +kernel
theorem dX6_node_6 : decode cX6_node 6 = .ok (.invokestatic 92, 3) := by decide +kernel
theorem dX6_node_9 : decode cX6_node 9 = .ok (.ifCond .ne 15, 3) := by decide +kernel
theorem dX6_node_12 : decode cX6_node 12 = .ok (.iload_n 2, 1) := by decide +kernel
theorem dX6_node_13 : decode cX6_node 13 = .ok (.i2l, 1) := by decide +kernel
theorem dX6_node_14 : decode cX6_node 14 = .ok (.lconst 0, 1) := by decide +kernel
theorem dX6_node_15 : decode cX6_node 15 = .ok (.ldc2_w 101, 3) := by decide +kernel
theorem dX6_node_18 : decode cX6_node 18 = .ok (.invokestatic 76, 3) := by decide +kernel
theorem dX6_node_21 : decode cX6_node 21 = .ok (.ifCond .ne 5, 3) := by decide +kernel
theorem dX6_node_24 : decode cX6_node 24 = .ok (.iconst (-1), 1) := by decide +kernel
theorem dX6_node_25 : decode cX6_node 25 = .ok (.ireturn, 1) := by decide +kernel
theorem dX6_node_26 : decode cX6_node 26 = .ok (.aload_n 0, 1) := by decide +kernel
theorem dX6_node_27 : decode cX6_node 27 = .ok (.getfield 80, 3) := by decide +kernel
theorem dX6_node_30 : decode cX6_node 30 = .ok (.bipush 8, 2) := by decide +kernel
theorem dX6_node_32 : decode cX6_node 32 = .ok (.if_icmp .ne 6, 3) := by decide +kernel
theorem dX6_node_35 : decode cX6_node 35 = .ok (.bipush (-3), 2) := by decide +kernel
theorem dX6_node_37 : decode cX6_node 37 = .ok (.ireturn, 1) := by decide +kernel
theorem dX6_node_38 : decode cX6_node 38 = .ok (.aload_n 0, 1) := by decide +kernel
theorem dX6_node_39 : decode cX6_node 39 = .ok (.getfield 30, 3) := by decide +kernel
theorem dX6_node_42 : decode cX6_node 42 = .ok (.aload_n 0, 1) := by decide +kernel
theorem dX6_node_43 : decode cX6_node 43 = .ok (.getfield 80, 3) := by decide +kernel
theorem dX6_node_46 : decode cX6_node 46 = .ok (.iload_n 1, 1) := by decide +kernel
theorem dX6_node_47 : decode cX6_node 47 = .ok (.iastore, 1) := by decide +kernel
theorem dX6_node_48 : decode cX6_node 48 = .ok (.aload_n 0, 1) := by decide +kernel
theorem dX6_node_49 : decode cX6_node 49 = .ok (.getfield 33, 3) := by decide +kernel
theorem dX6_node_52 : decode cX6_node 52 = .ok (.aload_n 0, 1) := by decide +kernel
theorem dX6_node_53 : decode cX6_node 53 = .ok (.getfield 80, 3) := by decide +kernel
theorem dX6_node_56 : decode cX6_node 56 = .ok (.iload_n 2, 1) := by decide +kernel
theorem dX6_node_57 : decode cX6_node 57 = .ok (.iastore, 1) := by decide +kernel
theorem dX6_node_58 : decode cX6_node 58 = .ok (.aload_n 0, 1) := by decide +kernel
theorem dX6_node_59 : decode cX6_node 59 = .ok (.getfield 36, 3) := by decide +kernel
theorem dX6_node_62 : decode cX6_node 62 = .ok (.aload_n 0, 1) := by decide +kernel
theorem dX6_node_63 : decode cX6_node 63 = .ok (.getfield 80, 3) := by decide +kernel
theorem dX6_node_66 : decode cX6_node 66 = .ok (.iconst 0, 1) := by decide +kernel
theorem dX6_node_67 : decode cX6_node 67 = .ok (.iastore, 1) := by decide +kernel
theorem dX6_node_68 : decode cX6_node 68 = .ok (.aload_n 0, 1) := by decide +kernel
theorem dX6_node_69 : decode cX6_node 69 = .ok (.dup, 1) := by decide +kernel
theorem dX6_node_70 : decode cX6_node 70 = .ok (.getfield 80, 3) := by decide +kernel
theorem dX6_node_73 : decode cX6_node 73 = .ok (.iconst 1, 1) := by decide +kernel
theorem dX6_node_74 : decode cX6_node 74 = .ok (.iadd, 1) := by decide +kernel
theorem dX6_node_75 : decode cX6_node 75 = .ok (.putfield 80, 3) := by decide +kernel
theorem dX6_node_78 : decode cX6_node 78 = .ok (.aload_n 0, 1) := by decide +kernel
theorem dX6_node_79 : decode cX6_node 79 = .ok (.getfield 80, 3) := by decide +kernel
theorem dX6_node_82 : decode cX6_node 82 = .ok (.iconst 1, 1) := by decide +kernel
theorem dX6_node_83 : decode cX6_node 83 = .ok (.isub, 1) := by decide +kernel
theorem dX6_node_84 : decode cX6_node 84 = .ok (.ireturn, 1) := by decide +kernel
theorem dX6_stake_0 : decode cX6_stake 0 = .ok (.aload_n 0, 1) := by decide +kernel
theorem dX6_stake_1 : decode cX6_stake 1 = .ok (.iconst 0, 1) := by decide +kernel
theorem dX6_stake_2 : decode cX6_stake 2 = .ok (.putfield 1, 3) := by decide +kernel
theorem dX6_stake_5 : decode cX6_stake 5 = .ok (.iload_n 1, 1) := by decide +kernel
theorem dX6_stake_6 : decode cX6_stake 6 = .ok (.invokestatic 92, 3) := by decide +kernel
theorem dX6_stake_9 : decode cX6_stake 9 = .ok (.ifCond .ne 23, 3) := by decide +kernel
theorem dX6_stake_12 : decode cX6_stake 12 = .ok (.aload_n 0, 1) := by decide +kernel
theorem dX6_stake_13 : decode cX6_stake 13 = .ok (.iload_n 2, 1) := by decide +kernel
theorem dX6_stake_14 : decode cX6_stake 14 = .ok (.invokevirtual 103, 3) := by decide +kernel
theorem dX6_stake_17 : decode cX6_stake 17 = .ok (.ifCond .ne 15, 3) := by decide +kernel
theorem dX6_stake_20 : decode cX6_stake 20 = .ok (.iload_n 3, 1) := by decide +kernel
theorem dX6_stake_21 : decode cX6_stake 21 = .ok (.i2l, 1) := by decide +kernel
theorem dX6_stake_22 : decode cX6_stake 22 = .ok (.lconst 1, 1) := by decide +kernel
theorem dX6_stake_23 : decode cX6_stake 23 = .ok (.ldc2_w 90, 3) := by decide +kernel
theorem dX6_stake_26 : decode cX6_stake 26 = .ok (.invokestatic 76, 3) := by decide +kernel
theorem dX6_stake_29 : decode cX6_stake 29 = .ok (.ifCond .ne 5, 3) := by decide +kernel
theorem dX6_stake_32 : decode cX6_stake 32 = .ok (.iconst (-1), 1) := by decide +kernel
theorem dX6_stake_33 : decode cX6_stake 33 = .ok (.ireturn, 1) := by decide +kernel
theorem dX6_stake_34 : decode cX6_stake 34 = .ok (.aload_n 0, 1) := by decide +kernel
theorem dX6_stake_35 : decode cX6_stake 35 = .ok (.getfield 26, 3) := by decide +kernel
theorem dX6_stake_38 : decode cX6_stake 38 = .ok (.iload_n 1, 1) := by decide +kernel
theorem dX6_stake_39 : decode cX6_stake 39 = .ok (.iaload, 1) := by decide +kernel
theorem dX6_stake_40 : decode cX6_stake 40 = .ok (.iload_n 3, 1) := by decide +kernel
theorem dX6_stake_41 : decode cX6_stake 41 = .ok (.if_icmp .ge 6, 3) := by decide +kernel
theorem dX6_stake_44 : decode cX6_stake 44 = .ok (.bipush (-3), 2) := by decide +kernel
theorem dX6_stake_46 : decode cX6_stake 46 = .ok (.ireturn, 1) := by decide +kernel
theorem dX6_stake_47 : decode cX6_stake 47 = .ok (.aload_n 0, 1) := by decide +kernel
theorem dX6_stake_48 : decode cX6_stake 48 = .ok (.getfield 26, 3) := by decide +kernel
theorem dX6_stake_51 : decode cX6_stake 51 = .ok (.iload_n 1, 1) := by decide +kernel
theorem dX6_stake_52 : decode cX6_stake 52 = .ok (.aload_n 0, 1) := by decide +kernel
theorem dX6_stake_53 : decode cX6_stake 53 = .ok (.getfield 26, 3) := by decide +kernel
theorem dX6_stake_56 : decode cX6_stake 56 = .ok (.iload_n 1, 1) := by decide +kernel
theorem dX6_stake_57 : decode cX6_stake 57 = .ok (.iaload, 1) := by decide +kernel
theorem dX6_stake_58 : decode cX6_stake 58 = .ok (.iload_n 3, 1) := by decide +kernel
theorem dX6_stake_59 : decode cX6_stake 59 = .ok (.isub, 1) := by decide +kernel
theorem dX6_stake_60 : decode cX6_stake 60 = .ok (.iastore, 1) := by decide +kernel
theorem dX6_stake_61 : decode cX6_stake 61 = .ok (.aload_n 0, 1) := by decide +kernel
theorem dX6_stake_62 : decode cX6_stake 62 = .ok (.getfield 46, 3) := by decide +kernel
theorem dX6_stake_65 : decode cX6_stake 65 = .ok (.bipush 10, 2) := by decide +kernel
theorem dX6_stake_67 : decode cX6_stake 67 = .ok (.iload_n 2, 1) := by decide +kernel
theorem dX6_stake_68 : decode cX6_stake 68 = .ok (.imul, 1) := by decide +kernel
theorem dX6_stake_69 : decode cX6_stake 69 = .ok (.iload_n 1, 1) := by decide +kernel
theorem dX6_stake_70 : decode cX6_stake 70 = .ok (.iadd, 1) := by decide +kernel
theorem dX6_stake_71 : decode cX6_stake 71 = .ok (.aload_n 0, 1) := by decide +kernel
theorem dX6_stake_72 : decode cX6_stake 72 = .ok (.getfield 46, 3) := by decide +kernel
theorem dX6_stake_75 : decode cX6_stake 75 = .ok (.bipush 10, 2) := by decide +kernel
theorem dX6_stake_77 : decode cX6_stake 77 = .ok (.iload_n 2, 1) := by decide +kernel
theorem dX6_stake_78 : decode cX6_stake 78 = .ok (.imul, 1) := by decide +kernel
theorem dX6_stake_79 : decode cX6_stake 79 = .ok (.iload_n 1, 1) := by decide +kernel
theorem dX6_stake_80 : decode cX6_stake 80 = .ok (.iadd, 1) := by decide +kernel
theorem dX6_stake_81 : decode cX6_stake 81 = .ok (.iaload, 1) := by decide +kernel
theorem dX6_stake_82 : decode cX6_stake 82 = .ok (.iload_n 3, 1) := by decide +kernel
theorem dX6_stake_83 : decode cX6_stake 83 = .ok (.iadd, 1) := by decide +kernel
theorem dX6_stake_84 : decode cX6_stake 84 = .ok (.iastore, 1) := by decide +kernel
theorem dX6_stake_85 : decode cX6_stake 85 = .ok (.aload_n 0, 1) := by decide +kernel
theorem dX6_stake_86 : decode cX6_stake 86 = .ok (.getfield 46, 3) := by decide +kernel
theorem dX6_stake_89 : decode cX6_stake 89 = .ok (.bipush 10, 2) := by decide +kernel
theorem dX6_stake_91 : decode cX6_stake 91 = .ok (.iload_n 2, 1) := by decide +kernel
theorem dX6_stake_92 : decode cX6_stake 92 = .ok (.imul, 1) := by decide +kernel
theorem dX6_stake_93 : decode cX6_stake 93 = .ok (.iload_n 1, 1) := by decide +kernel
theorem dX6_stake_94 : decode cX6_stake 94 = .ok (.iadd, 1) := by decide +kernel
theorem dX6_stake_95 : decode cX6_stake 95 = .ok (.iaload, 1) := by decide +kernel
theorem dX6_stake_96 : decode cX6_stake 96 = .ok (.ireturn, 1) := by decide +kernel
theorem dX6_draw_0 : decode cX6_draw 0 = .ok (.aload_n 0, 1) := by decide +kernel
theorem dX6_draw_1 : decode cX6_draw 1 = .ok (.iconst 0, 1) := by decide +kernel
theorem dX6_draw_2 : decode cX6_draw 2 = .ok (.putfield 1, 3) := by decide +kernel
theorem dX6_draw_5 : decode cX6_draw 5 = .ok (.iload_n 1, 1) := by decide +kernel
theorem dX6_draw_6 : decode cX6_draw 6 = .ok (.invokestatic 92, 3) := by decide +kernel
theorem dX6_draw_9 : decode cX6_draw 9 = .ok (.ifCond .ne 23, 3) := by decide +kernel
theorem dX6_draw_12 : decode cX6_draw 12 = .ok (.aload_n 0, 1) := by decide +kernel
theorem dX6_draw_13 : decode cX6_draw 13 = .ok (.iload_n 2, 1) := by decide +kernel
theorem dX6_draw_14 : decode cX6_draw 14 = .ok (.invokevirtual 103, 3) := by decide +kernel
theorem dX6_draw_17 : decode cX6_draw 17 = .ok (.ifCond .ne 15, 3) := by decide +kernel
theorem dX6_draw_20 : decode cX6_draw 20 = .ok (.iload_n 3, 1) := by decide +kernel
theorem dX6_draw_21 : decode cX6_draw 21 = .ok (.i2l, 1) := by decide +kernel
theorem dX6_draw_22 : decode cX6_draw 22 = .ok (.lconst 1, 1) := by decide +kernel
theorem dX6_draw_23 : decode cX6_draw 23 = .ok (.ldc2_w 90, 3) := by decide +kernel
theorem dX6_draw_26 : decode cX6_draw 26 = .ok (.invokestatic 76, 3) := by decide +kernel
theorem dX6_draw_29 : decode cX6_draw 29 = .ok (.ifCond .ne 5, 3) := by decide +kernel
theorem dX6_draw_32 : decode cX6_draw 32 = .ok (.iconst (-1), 1) := by decide +kernel
theorem dX6_draw_33 : decode cX6_draw 33 = .ok (.ireturn, 1) := by decide +kernel
theorem dX6_draw_34 : decode cX6_draw 34 = .ok (.aload_n 0, 1) := by decide +kernel
theorem dX6_draw_35 : decode cX6_draw 35 = .ok (.getfield 46, 3) := by decide +kernel
theorem dX6_draw_38 : decode cX6_draw 38 = .ok (.bipush 10, 2) := by decide +kernel
theorem dX6_draw_40 : decode cX6_draw 40 = .ok (.iload_n 2, 1) := by decide +kernel
theorem dX6_draw_41 : decode cX6_draw 41 = .ok (.imul, 1) := by decide +kernel
theorem dX6_draw_42 : decode cX6_draw 42 = .ok (.iload_n 1, 1) := by decide +kernel
theorem dX6_draw_43 : decode cX6_draw 43 = .ok (.iadd, 1) := by decide +kernel
theorem dX6_draw_44 : decode cX6_draw 44 = .ok (.iaload, 1) := by decide +kernel
theorem dX6_draw_45 : decode cX6_draw 45 = .ok (.iload_n 3, 1) := by decide +kernel
theorem dX6_draw_46 : decode cX6_draw 46 = .ok (.if_icmp .ge 6, 3) := by decide +kernel
theorem dX6_draw_49 : decode cX6_draw 49 = .ok (.bipush (-3), 2) := by decide +kernel
theorem dX6_draw_51 : decode cX6_draw 51 = .ok (.ireturn, 1) := by decide +kernel
theorem dX6_draw_52 : decode cX6_draw 52 = .ok (.aload_n 0, 1) := by decide +kernel
theorem dX6_draw_53 : decode cX6_draw 53 = .ok (.getfield 42, 3) := by decide +kernel
theorem dX6_draw_56 : decode cX6_draw 56 = .ok (.iload_n 2, 1) := by decide +kernel
theorem dX6_draw_57 : decode cX6_draw 57 = .ok (.baload, 1) := by decide +kernel
theorem dX6_draw_58 : decode cX6_draw 58 = .ok (.ifCond .eq 6, 3) := by decide +kernel
theorem dX6_draw_61 : decode cX6_draw 61 = .ok (.bipush (-4), 2) := by decide +kernel
theorem dX6_draw_63 : decode cX6_draw 63 = .ok (.ireturn, 1) := by decide +kernel
theorem dX6_draw_64 : decode cX6_draw 64 = .ok (.aload_n 0, 1) := by decide +kernel
theorem dX6_draw_65 : decode cX6_draw 65 = .ok (.getfield 46, 3) := by decide +kernel
theorem dX6_draw_68 : decode cX6_draw 68 = .ok (.bipush 10, 2) := by decide +kernel
theorem dX6_draw_70 : decode cX6_draw 70 = .ok (.iload_n 2, 1) := by decide +kernel
theorem dX6_draw_71 : decode cX6_draw 71 = .ok (.imul, 1) := by decide +kernel
theorem dX6_draw_72 : decode cX6_draw 72 = .ok (.iload_n 1, 1) := by decide +kernel
theorem dX6_draw_73 : decode cX6_draw 73 = .ok (.iadd, 1) := by decide +kernel
theorem dX6_draw_74 : decode cX6_draw 74 = .ok (.aload_n 0, 1) := by decide +kernel
theorem dX6_draw_75 : decode cX6_draw 75 = .ok (.getfield 46, 3) := by decide +kernel
theorem dX6_draw_78 : decode cX6_draw 78 = .ok (.bipush 10, 2) := by decide +kernel
theorem dX6_draw_80 : decode cX6_draw 80 = .ok (.iload_n 2, 1) := by decide +kernel
theorem dX6_draw_81 : decode cX6_draw 81 = .ok (.imul, 1) := by decide +kernel
theorem dX6_draw_82 : decode cX6_draw 82 = .ok (.iload_n 1, 1) := by decide +kernel
theorem dX6_draw_83 : decode cX6_draw 83 = .ok (.iadd, 1) := by decide +kernel
theorem dX6_draw_84 : decode cX6_draw 84 = .ok (.iaload, 1) := by decide +kernel
theorem dX6_draw_85 : decode cX6_draw 85 = .ok (.iload_n 3, 1) := by decide +kernel
theorem dX6_draw_86 : decode cX6_draw 86 = .ok (.isub, 1) := by decide +kernel
theorem dX6_draw_87 : decode cX6_draw 87 = .ok (.iastore, 1) := by decide +kernel
theorem dX6_draw_88 : decode cX6_draw 88 = .ok (.aload_n 0, 1) := by decide +kernel
theorem dX6_draw_89 : decode cX6_draw 89 = .ok (.getfield 52, 3) := by decide +kernel
theorem dX6_draw_92 : decode cX6_draw 92 = .ok (.bipush 110, 2) := by decide +kernel
theorem dX6_draw_94 : decode cX6_draw 94 = .ok (.iload_n 1, 1) := by decide +kernel
theorem dX6_draw_95 : decode cX6_draw 95 = .ok (.imul, 1) := by decide +kernel
theorem dX6_draw_96 : decode cX6_draw 96 = .ok (.aload_n 0, 1) := by decide +kernel
theorem dX6_draw_97 : decode cX6_draw 97 = .ok (.getfield 83, 3) := by decide +kernel
theorem dX6_draw_100 : decode cX6_draw 100 = .ok (.iadd, 1) := by decide +kernel
theorem dX6_draw_101 : decode cX6_draw 101 = .ok (.aload_n 0, 1) := by decide +kernel
theorem dX6_draw_102 : decode cX6_draw 102 = .ok (.getfield 13, 3) := by decide +kernel
theorem dX6_draw_105 : decode cX6_draw 105 = .ok (.iadd, 1) := by decide +kernel
theorem dX6_draw_106 : decode cX6_draw 106 = .ok (.aload_n 0, 1) := by decide +kernel
theorem dX6_draw_107 : decode cX6_draw 107 = .ok (.getfield 52, 3) := by decide +kernel
theorem dX6_draw_110 : decode cX6_draw 110 = .ok (.bipush 110, 2) := by decide +kernel
theorem dX6_draw_112 : decode cX6_draw 112 = .ok (.iload_n 1, 1) := by decide +kernel
theorem dX6_draw_113 : decode cX6_draw 113 = .ok (.imul, 1) := by decide +kernel
theorem dX6_draw_114 : decode cX6_draw 114 = .ok (.aload_n 0, 1) := by decide +kernel
theorem dX6_draw_115 : decode cX6_draw 115 = .ok (.getfield 83, 3) := by decide +kernel
theorem dX6_draw_118 : decode cX6_draw 118 = .ok (.iadd, 1) := by decide +kernel
theorem dX6_draw_119 : decode cX6_draw 119 = .ok (.aload_n 0, 1) := by decide +kernel
theorem dX6_draw_120 : decode cX6_draw 120 = .ok (.getfield 13, 3) := by decide +kernel
theorem dX6_draw_123 : decode cX6_draw 123 = .ok (.iadd, 1) := by decide +kernel
theorem dX6_draw_124 : decode cX6_draw 124 = .ok (.iaload, 1) := by decide +kernel
theorem dX6_draw_125 : decode cX6_draw 125 = .ok (.iload_n 3, 1) := by decide +kernel
theorem dX6_draw_126 : decode cX6_draw 126 = .ok (.iadd, 1) := by decide +kernel
theorem dX6_draw_127 : decode cX6_draw 127 = .ok (.iastore, 1) := by decide +kernel
theorem dX6_draw_128 : decode cX6_draw 128 = .ok (.aload_n 0, 1) := by decide +kernel
theorem dX6_draw_129 : decode cX6_draw 129 = .ok (.getfield 46, 3) := by decide +kernel
theorem dX6_draw_132 : decode cX6_draw 132 = .ok (.bipush 10, 2) := by decide +kernel
theorem dX6_draw_134 : decode cX6_draw 134 = .ok (.iload_n 2, 1) := by decide +kernel
theorem dX6_draw_135 : decode cX6_draw 135 = .ok (.imul, 1) := by decide +kernel
theorem dX6_draw_136 : decode cX6_draw 136 = .ok (.iload_n 1, 1) := by decide +kernel
theorem dX6_draw_137 : decode cX6_draw 137 = .ok (.iadd, 1) := by decide +kernel
theorem dX6_draw_138 : decode cX6_draw 138 = .ok (.iaload, 1) := by decide +kernel
theorem dX6_draw_139 : decode cX6_draw 139 = .ok (.ireturn, 1) := by decide +kernel
theorem dX6_join_0 : decode cX6_join 0 = .ok (.aload_n 0, 1) := by decide +kernel
theorem dX6_join_1 : decode cX6_join 1 = .ok (.iconst 0, 1) := by decide +kernel
theorem dX6_join_2 : decode cX6_join 2 = .ok (.putfield 1, 3) := by decide +kernel
theorem dX6_join_5 : decode cX6_join 5 = .ok (.aload_n 0, 1) := by decide +kernel
theorem dX6_join_6 : decode cX6_join 6 = .ok (.iload_n 1, 1) := by decide +kernel
theorem dX6_join_7 : decode cX6_join 7 = .ok (.invokevirtual 103, 3) := by decide +kernel
theorem dX6_join_10 : decode cX6_join 10 = .ok (.ifCond .eq 5, 3) := by decide +kernel
theorem dX6_join_13 : decode cX6_join 13 = .ok (.iconst (-1), 1) := by decide +kernel
theorem dX6_join_14 : decode cX6_join 14 = .ok (.ireturn, 1) := by decide +kernel
theorem dX6_join_15 : decode cX6_join 15 = .ok (.aload_n 0, 1) := by decide +kernel
theorem dX6_join_16 : decode cX6_join 16 = .ok (.getfield 36, 3) := by decide +kernel
theorem dX6_join_19 : decode cX6_join 19 = .ok (.iload_n 1, 1) := by decide +kernel
theorem dX6_join_20 : decode cX6_join 20 = .ok (.iaload, 1) := by decide +kernel
theorem dX6_join_21 : decode cX6_join 21 = .ok (.ifCond .eq 6, 3) := by decide +kernel
theorem dX6_join_24 : decode cX6_join 24 = .ok (.bipush (-4), 2) := by decide +kernel
theorem dX6_join_26 : decode cX6_join 26 = .ok (.ireturn, 1) := by decide +kernel
theorem dX6_join_27 : decode cX6_join 27 = .ok (.aload_n 0, 1) := by decide +kernel
theorem dX6_join_28 : decode cX6_join 28 = .ok (.getfield 36, 3) := by decide +kernel
theorem dX6_join_31 : decode cX6_join 31 = .ok (.iload_n 1, 1) := by decide +kernel
theorem dX6_join_32 : decode cX6_join 32 = .ok (.iconst 1, 1) := by decide +kernel
theorem dX6_join_33 : decode cX6_join 33 = .ok (.iastore, 1) := by decide +kernel
theorem dX6_join_34 : decode cX6_join 34 = .ok (.aload_n 0, 1) := by decide +kernel
theorem dX6_join_35 : decode cX6_join 35 = .ok (.getfield 83, 3) := by decide +kernel
theorem dX6_join_38 : decode cX6_join 38 = .ok (.iconst 1, 1) := by decide +kernel
theorem dX6_join_39 : decode cX6_join 39 = .ok (.iadd, 1) := by decide +kernel
theorem dX6_join_40 : decode cX6_join 40 = .ok (.ireturn, 1) := by decide +kernel
theorem dX6_leave_0 : decode cX6_leave 0 = .ok (.aload_n 0, 1) := by decide +kernel
theorem dX6_leave_1 : decode cX6_leave 1 = .ok (.iconst 0, 1) := by decide +kernel
theorem dX6_leave_2 : decode cX6_leave 2 = .ok (.putfield 1, 3) := by decide +kernel
theorem dX6_leave_5 : decode cX6_leave 5 = .ok (.aload_n 0, 1) := by decide +kernel
theorem dX6_leave_6 : decode cX6_leave 6 = .ok (.iload_n 1, 1) := by decide +kernel
theorem dX6_leave_7 : decode cX6_leave 7 = .ok (.invokevirtual 103, 3) := by decide +kernel
theorem dX6_leave_10 : decode cX6_leave 10 = .ok (.ifCond .eq 5, 3) := by decide +kernel
theorem dX6_leave_13 : decode cX6_leave 13 = .ok (.iconst (-1), 1) := by decide +kernel
theorem dX6_leave_14 : decode cX6_leave 14 = .ok (.ireturn, 1) := by decide +kernel
theorem dX6_leave_15 : decode cX6_leave 15 = .ok (.aload_n 0, 1) := by decide +kernel
theorem dX6_leave_16 : decode cX6_leave 16 = .ok (.getfield 36, 3) := by decide +kernel
theorem dX6_leave_19 : decode cX6_leave 19 = .ok (.iload_n 1, 1) := by decide +kernel
theorem dX6_leave_20 : decode cX6_leave 20 = .ok (.iaload, 1) := by decide +kernel
theorem dX6_leave_21 : decode cX6_leave 21 = .ok (.iconst 2, 1) := by decide +kernel
theorem dX6_leave_22 : decode cX6_leave 22 = .ok (.if_icmp .ne 12, 3) := by decide +kernel
theorem dX6_leave_25 : decode cX6_leave 25 = .ok (.aload_n 0, 1) := by decide +kernel
theorem dX6_leave_26 : decode cX6_leave 26 = .ok (.getfield 42, 3) := by decide +kernel
theorem dX6_leave_29 : decode cX6_leave 29 = .ok (.iload_n 1, 1) := by decide +kernel
theorem dX6_leave_30 : decode cX6_leave 30 = .ok (.baload, 1) := by decide +kernel
theorem dX6_leave_31 : decode cX6_leave 31 = .ok (.ifCond .eq 6, 3) := by decide +kernel
theorem dX6_leave_34 : decode cX6_leave 34 = .ok (.bipush (-4), 2) := by decide +kernel
theorem dX6_leave_36 : decode cX6_leave 36 = .ok (.ireturn, 1) := by decide +kernel
theorem dX6_leave_37 : decode cX6_leave 37 = .ok (.aload_n 0, 1) := by decide +kernel
theorem dX6_leave_38 : decode cX6_leave 38 = .ok (.getfield 36, 3) := by decide +kernel
theorem dX6_leave_41 : decode cX6_leave 41 = .ok (.iload_n 1, 1) := by decide +kernel
theorem dX6_leave_42 : decode cX6_leave 42 = .ok (.iconst 3, 1) := by decide +kernel
theorem dX6_leave_43 : decode cX6_leave 43 = .ok (.iastore, 1) := by decide +kernel
theorem dX6_leave_44 : decode cX6_leave 44 = .ok (.aload_n 0, 1) := by decide +kernel
theorem dX6_leave_45 : decode cX6_leave 45 = .ok (.getfield 39, 3) := by decide +kernel
theorem dX6_leave_48 : decode cX6_leave 48 = .ok (.iload_n 1, 1) := by decide +kernel
theorem dX6_leave_49 : decode cX6_leave 49 = .ok (.aload_n 0, 1) := by decide +kernel
theorem dX6_leave_50 : decode cX6_leave 50 = .ok (.getfield 83, 3) := by decide +kernel
theorem dX6_leave_53 : decode cX6_leave 53 = .ok (.aload_n 0, 1) := by decide +kernel
theorem dX6_leave_54 : decode cX6_leave 54 = .ok (.getfield 13, 3) := by decide +kernel
theorem dX6_leave_57 : decode cX6_leave 57 = .ok (.iadd, 1) := by decide +kernel
theorem dX6_leave_58 : decode cX6_leave 58 = .ok (.iastore, 1) := by decide +kernel
theorem dX6_leave_59 : decode cX6_leave 59 = .ok (.aload_n 0, 1) := by decide +kernel
theorem dX6_leave_60 : decode cX6_leave 60 = .ok (.getfield 39, 3) := by decide +kernel
theorem dX6_leave_63 : decode cX6_leave 63 = .ok (.iload_n 1, 1) := by decide +kernel
theorem dX6_leave_64 : decode cX6_leave 64 = .ok (.iaload, 1) := by decide +kernel
theorem dX6_leave_65 : decode cX6_leave 65 = .ok (.ireturn, 1) := by decide +kernel
theorem dX6_freeze_0 : decode cX6_freeze 0 = .ok (.aload_n 0, 1) := by decide +kernel
theorem dX6_freeze_1 : decode cX6_freeze 1 = .ok (.iconst 0, 1) := by decide +kernel
theorem dX6_freeze_2 : decode cX6_freeze 2 = .ok (.putfield 1, 3) := by decide +kernel
theorem dX6_freeze_5 : decode cX6_freeze 5 = .ok (.aload_n 0, 1) := by decide +kernel
theorem dX6_freeze_6 : decode cX6_freeze 6 = .ok (.iload_n 1, 1) := by decide +kernel
theorem dX6_freeze_7 : decode cX6_freeze 7 = .ok (.invokevirtual 103, 3) := by decide +kernel
theorem dX6_freeze_10 : decode cX6_freeze 10 = .ok (.ifCond .eq 5, 3) := by decide +kernel
theorem dX6_freeze_13 : decode cX6_freeze 13 = .ok (.iconst (-1), 1) := by decide +kernel
theorem dX6_freeze_14 : decode cX6_freeze 14 = .ok (.ireturn, 1) := by decide +kernel
theorem dX6_freeze_15 : decode cX6_freeze 15 = .ok (.aload_n 0, 1) := by decide +kernel
theorem dX6_freeze_16 : decode cX6_freeze 16 = .ok (.getfield 42, 3) := by decide +kernel
theorem dX6_freeze_19 : decode cX6_freeze 19 = .ok (.iload_n 1, 1) := by decide +kernel
theorem dX6_freeze_20 : decode cX6_freeze 20 = .ok (.baload, 1) := by decide +kernel
theorem dX6_freeze_21 : decode cX6_freeze 21 = .ok (.ifCond .eq 7, 3) := by decide +kernel
theorem dX6_freeze_24 : decode cX6_freeze 24 = .ok (.iconst 1, 1) := by decide +kernel
theorem dX6_freeze_25 : decode cX6_freeze 25 = .ok (.goto 4, 3) := by decide +kernel
theorem dX6_freeze_28 : decode cX6_freeze 28 = .ok (.iconst 0, 1) := by decide +kernel
theorem dX6_freeze_29 : decode cX6_freeze 29 = .ok (.istore_n 3, 1) := by decide +kernel
theorem dX6_freeze_30 : decode cX6_freeze 30 = .ok (.aload_n 0, 1) := by decide +kernel
theorem dX6_freeze_31 : decode cX6_freeze 31 = .ok (.getfield 42, 3) := by decide +kernel
theorem dX6_freeze_34 : decode cX6_freeze 34 = .ok (.iload_n 1, 1) := by decide +kernel
theorem dX6_freeze_35 : decode cX6_freeze 35 = .ok (.iload_n 2, 1) := by decide +kernel
theorem dX6_freeze_36 : decode cX6_freeze 36 = .ok (.bastore, 1) := by decide +kernel
theorem dX6_freeze_37 : decode cX6_freeze 37 = .ok (.iload_n 3, 1) := by decide +kernel
theorem dX6_freeze_38 : decode cX6_freeze 38 = .ok (.ireturn, 1) := by decide +kernel
theorem dX6_deal_0 : decode cX6_deal 0 = .ok (.lconst 0, 1) := by decide +kernel
theorem dX6_deal_1 : decode cX6_deal 1 = .ok (.lstore_n 3, 1) := by decide +kernel
theorem dX6_deal_2 : decode cX6_deal 2 = .ok (.iconst 0, 1) := by decide +kernel
theorem dX6_deal_3 : decode cX6_deal 3 = .ok (.istore 5, 2) := by decide +kernel
theorem dX6_deal_5 : decode cX6_deal 5 = .ok (.iload 5, 2) := by decide +kernel
theorem dX6_deal_7 : decode cX6_deal 7 = .ok (.iload_n 2, 1) := by decide +kernel
theorem dX6_deal_8 : decode cX6_deal 8 = .ok (.if_icmp .ge 19, 3) := by decide +kernel
theorem dX6_deal_11 : decode cX6_deal 11 = .ok (.lload_n 3, 1) := by decide +kernel
theorem dX6_deal_12 : decode cX6_deal 12 = .ok (.aload_n 0, 1) := by decide +kernel
theorem dX6_deal_13 : decode cX6_deal 13 = .ok (.getfield 64, 3) := by decide +kernel
theorem dX6_deal_16 : decode cX6_deal 16 = .ok (.iload 5, 2) := by decide +kernel
theorem dX6_deal_18 : decode cX6_deal 18 = .ok (.laload, 1) := by decide +kernel
theorem dX6_deal_19 : decode cX6_deal 19 = .ok (.ladd, 1) := by decide +kernel
theorem dX6_deal_20 : decode cX6_deal 20 = .ok (.lstore_n 3, 1) := by decide +kernel
theorem dX6_deal_21 : decode cX6_deal 21 = .ok (.iinc 5 1, 3) := by decide +kernel
theorem dX6_deal_24 : decode cX6_deal 24 = .ok (.goto (-19), 3) := by decide +kernel
theorem dX6_deal_27 : decode cX6_deal 27 = .ok (.iload_n 1, 1) := by decide +kernel
theorem dX6_deal_28 : decode cX6_deal 28 = .ok (.istore 5, 2) := by decide +kernel
theorem dX6_deal_30 : decode cX6_deal 30 = .ok (.iconst 0, 1) := by decide +kernel
theorem dX6_deal_31 : decode cX6_deal 31 = .ok (.istore 6, 2) := by decide +kernel
theorem dX6_deal_33 : decode cX6_deal 33 = .ok (.iload 6, 2) := by decide +kernel
theorem dX6_deal_35 : decode cX6_deal 35 = .ok (.iload_n 2, 1) := by decide +kernel
theorem dX6_deal_36 : decode cX6_deal 36 = .ok (.if_icmp .ge 41, 3) := by decide +kernel
theorem dX6_deal_39 : decode cX6_deal 39 = .ok (.aload_n 0, 1) := by decide +kernel
theorem dX6_deal_40 : decode cX6_deal 40 = .ok (.getfield 68, 3) := by decide +kernel
theorem dX6_deal_43 : decode cX6_deal 43 = .ok (.iload 6, 2) := by decide +kernel
theorem dX6_deal_45 : decode cX6_deal 45 = .ok (.iload_n 1, 1) := by decide +kernel
theorem dX6_deal_46 : decode cX6_deal 46 = .ok (.i2l, 1) := by decide +kernel
theorem dX6_deal_47 : decode cX6_deal 47 = .ok (.aload_n 0, 1) := by decide +kernel
theorem dX6_deal_48 : decode cX6_deal 48 = .ok (.getfield 64, 3) := by decide +kernel
theorem dX6_deal_51 : decode cX6_deal 51 = .ok (.iload 6, 2) := by decide +kernel
theorem dX6_deal_53 : decode cX6_deal 53 = .ok (.laload, 1) := by decide +kernel
theorem dX6_deal_54 : decode cX6_deal 54 = .ok (.lmul, 1) := by decide +kernel
theorem dX6_deal_55 : decode cX6_deal 55 = .ok (.lload_n 3, 1) := by decide +kernel
theorem dX6_deal_56 : decode cX6_deal 56 = .ok (.ldiv, 1) := by decide +kernel
theorem dX6_deal_57 : decode cX6_deal 57 = .ok (.l2i, 1) := by decide +kernel
theorem dX6_deal_58 : decode cX6_deal 58 = .ok (.iastore, 1) := by decide +kernel
theorem dX6_deal_59 : decode cX6_deal 59 = .ok (.iload 5, 2) := by decide +kernel
theorem dX6_deal_61 : decode cX6_deal 61 = .ok (.aload_n 0, 1) := by decide +kernel
theorem dX6_deal_62 : decode cX6_deal 62 = .ok (.getfield 68, 3) := by decide +kernel
theorem dX6_deal_65 : decode cX6_deal 65 = .ok (.iload 6, 2) := by decide +kernel
theorem dX6_deal_67 : decode cX6_deal 67 = .ok (.iaload, 1) := by decide +kernel
theorem dX6_deal_68 : decode cX6_deal 68 = .ok (.isub, 1) := by decide +kernel
theorem dX6_deal_69 : decode cX6_deal 69 = .ok (.istore 5, 2) := by decide +kernel
theorem dX6_deal_71 : decode cX6_deal 71 = .ok (.iinc 6 1, 3) := by decide +kernel
theorem dX6_deal_74 : decode cX6_deal 74 = .ok (.goto (-41), 3) := by decide +kernel
theorem dX6_deal_77 : decode cX6_deal 77 = .ok (.iconst 0, 1) := by decide +kernel
theorem dX6_deal_78 : decode cX6_deal 78 = .ok (.istore 6, 2) := by decide +kernel
theorem dX6_deal_80 : decode cX6_deal 80 = .ok (.iload 6, 2) := by decide +kernel
theorem dX6_deal_82 : decode cX6_deal 82 = .ok (.iload 5, 2) := by decide +kernel
theorem dX6_deal_84 : decode cX6_deal 84 = .ok (.if_icmp .ge 134, 3) := by decide +kernel
theorem dX6_deal_87 : decode cX6_deal 87 = .ok (.iconst 0, 1) := by decide +kernel
theorem dX6_deal_88 : decode cX6_deal 88 = .ok (.istore 7, 2) := by decide +kernel
theorem dX6_deal_90 : decode cX6_deal 90 = .ok (.iload 7, 2) := by decide +kernel
theorem dX6_deal_92 : decode cX6_deal 92 = .ok (.iload_n 2, 1) := by decide +kernel
theorem dX6_deal_93 : decode cX6_deal 93 = .ok (.if_icmp .ge 119, 3) := by decide +kernel
theorem dX6_deal_96 : decode cX6_deal 96 = .ok (.iconst 0, 1) := by decide +kernel
theorem dX6_deal_97 : decode cX6_deal 97 = .ok (.istore 8, 2) := by decide +kernel
theorem dX6_deal_99 : decode cX6_deal 99 = .ok (.iconst 0, 1) := by decide +kernel
theorem dX6_deal_100 : decode cX6_deal 100 = .ok (.istore 9, 2) := by decide +kernel
theorem dX6_deal_102 : decode cX6_deal 102 = .ok (.iload 9, 2) := by decide +kernel
theorem dX6_deal_104 : decode cX6_deal 104 = .ok (.iload_n 2, 1) := by decide +kernel
theorem dX6_deal_105 : decode cX6_deal 105 = .ok (.if_icmp .ge 68, 3) := by decide +kernel
theorem dX6_deal_108 : decode cX6_deal 108 = .ok (.iload_n 1, 1) := by decide +kernel
theorem dX6_deal_109 : decode cX6_deal 109 = .ok (.i2l, 1) := by decide +kernel
theorem dX6_deal_110 : decode cX6_deal 110 = .ok (.aload_n 0, 1) := by decide +kernel
theorem dX6_deal_111 : decode cX6_deal 111 = .ok (.getfield 64, 3) := by decide +kernel
theorem dX6_deal_114 : decode cX6_deal 114 = .ok (.iload 9, 2) := by decide +kernel
theorem dX6_deal_116 : decode cX6_deal 116 = .ok (.laload, 1) := by decide +kernel
theorem dX6_deal_117 : decode cX6_deal 117 = .ok (.lmul, 1) := by decide +kernel
theorem dX6_deal_118 : decode cX6_deal 118 = .ok (.lload_n 3, 1) := by decide +kernel
theorem dX6_deal_119 : decode cX6_deal 119 = .ok (.lrem, 1) := by decide +kernel
theorem dX6_deal_120 : decode cX6_deal 120 = .ok (.iload_n 1, 1) := by decide +kernel
theorem dX6_deal_121 : decode cX6_deal 121 = .ok (.i2l, 1) := by decide +kernel
theorem dX6_deal_122 : decode cX6_deal 122 = .ok (.aload_n 0, 1) := by decide +kernel
theorem dX6_deal_123 : decode cX6_deal 123 = .ok (.getfield 64, 3) := by decide +kernel
theorem dX6_deal_126 : decode cX6_deal 126 = .ok (.iload 7, 2) := by decide +kernel
theorem dX6_deal_128 : decode cX6_deal 128 = .ok (.laload, 1) := by decide +kernel
theorem dX6_deal_129 : decode cX6_deal 129 = .ok (.lmul, 1) := by decide +kernel
theorem dX6_deal_130 : decode cX6_deal 130 = .ok (.lload_n 3, 1) := by decide +kernel
theorem dX6_deal_131 : decode cX6_deal 131 = .ok (.lrem, 1) := by decide +kernel
theorem dX6_deal_132 : decode cX6_deal 132 = .ok (.lsub, 1) := by decide +kernel
theorem dX6_deal_133 : decode cX6_deal 133 = .ok (.lstore 10, 2) := by decide +kernel
theorem dX6_deal_135 : decode cX6_deal 135 = .ok (.lload 10, 2) := by decide +kernel
theorem dX6_deal_137 : decode cX6_deal 137 = .ok (.lconst 0, 1) := by decide +kernel
theorem dX6_deal_138 : decode cX6_deal 138 = .ok (.lcmp, 1) := by decide +kernel
theorem dX6_deal_139 : decode cX6_deal 139 = .ok (.ifCond .gt 17, 3) := by decide +kernel
theorem dX6_deal_142 : decode cX6_deal 142 = .ok (.lload 10, 2) := by decide +kernel
theorem dX6_deal_144 : decode cX6_deal 144 = .ok (.lconst 0, 1) := by decide +kernel
theorem dX6_deal_145 : decode cX6_deal 145 = .ok (.lcmp, 1) := by decide +kernel
theorem dX6_deal_146 : decode cX6_deal 146 = .ok (.ifCond .ne 17, 3) := by decide +kernel
theorem dX6_deal_149 : decode cX6_deal 149 = .ok (.iload 9, 2) := by decide +kernel
theorem dX6_deal_151 : decode cX6_deal 151 = .ok (.iload 7, 2) := by decide +kernel
theorem dX6_deal_153 : decode cX6_deal 153 = .ok (.if_icmp .ge 10, 3) := by decide +kernel
theorem dX6_deal_156 : decode cX6_deal 156 = .ok (.iload 8, 2) := by decide +kernel
theorem dX6_deal_158 : decode cX6_deal 158 = .ok (.iconst 1, 1) := by decide +kernel
theorem dX6_deal_159 : decode cX6_deal 159 = .ok (.iadd, 1) := by decide +kernel
theorem dX6_deal_160 : decode cX6_deal 160 = .ok (.goto 5, 3) := by decide +kernel
theorem dX6_deal_163 : decode cX6_deal 163 = .ok (.iload 8, 2) := by decide +kernel
theorem dX6_deal_165 : decode cX6_deal 165 = .ok (.istore 8, 2) := by decide +kernel
theorem dX6_deal_167 : decode cX6_deal 167 = .ok (.iinc 9 1, 3) := by decide +kernel
theorem dX6_deal_170 : decode cX6_deal 170 = .ok (.goto (-68), 3) := by decide +kernel
theorem dX6_deal_173 : decode cX6_deal 173 = .ok (.aload_n 0, 1) := by decide +kernel
theorem dX6_deal_174 : decode cX6_deal 174 = .ok (.getfield 68, 3) := by decide +kernel
theorem dX6_deal_177 : decode cX6_deal 177 = .ok (.iload 7, 2) := by decide +kernel
theorem dX6_deal_179 : decode cX6_deal 179 = .ok (.iload 8, 2) := by decide +kernel
theorem dX6_deal_181 : decode cX6_deal 181 = .ok (.iload 6, 2) := by decide +kernel
theorem dX6_deal_183 : decode cX6_deal 183 = .ok (.if_icmp .ne 15, 3) := by decide +kernel
theorem dX6_deal_186 : decode cX6_deal 186 = .ok (.aload_n 0, 1) := by decide +kernel
theorem dX6_deal_187 : decode cX6_deal 187 = .ok (.getfield 68, 3) := by decide +kernel
theorem dX6_deal_190 : decode cX6_deal 190 = .ok (.iload 7, 2) := by decide +kernel
theorem dX6_deal_192 : decode cX6_deal 192 = .ok (.iaload, 1) := by decide +kernel
theorem dX6_deal_193 : decode cX6_deal 193 = .ok (.iconst 1, 1) := by decide +kernel
theorem dX6_deal_194 : decode cX6_deal 194 = .ok (.iadd, 1) := by decide +kernel
theorem dX6_deal_195 : decode cX6_deal 195 = .ok (.goto 10, 3) := by decide +kernel
theorem dX6_deal_198 : decode cX6_deal 198 = .ok (.aload_n 0, 1) := by decide +kernel
theorem dX6_deal_199 : decode cX6_deal 199 = .ok (.getfield 68, 3) := by decide +kernel
theorem dX6_deal_202 : decode cX6_deal 202 = .ok (.iload 7, 2) := by decide +kernel
theorem dX6_deal_204 : decode cX6_deal 204 = .ok (.iaload, 1) := by decide +kernel
theorem dX6_deal_205 : decode cX6_deal 205 = .ok (.iastore, 1) := by decide +kernel
theorem dX6_deal_206 : decode cX6_deal 206 = .ok (.iinc 7 1, 3) := by decide +kernel
theorem dX6_deal_209 : decode cX6_deal 209 = .ok (.goto (-119), 3) := by decide +kernel
theorem dX6_deal_212 : decode cX6_deal 212 = .ok (.iinc 6 1, 3) := by decide +kernel
theorem dX6_deal_215 : decode cX6_deal 215 = .ok (.goto (-135), 3) := by decide +kernel
theorem dX6_deal_218 : decode cX6_deal 218 = .ok (.return_, 1) := by decide +kernel
theorem dX6_allOf_0 : decode cX6_allOf 0 = .ok (.iconst 0, 1) := by decide +kernel
theorem dX6_allOf_1 : decode cX6_allOf 1 = .ok (.istore_n 2, 1) := by decide +kernel
theorem dX6_allOf_2 : decode cX6_allOf 2 = .ok (.iconst 0, 1) := by decide +kernel
theorem dX6_allOf_3 : decode cX6_allOf 3 = .ok (.istore_n 3, 1) := by decide +kernel
theorem dX6_allOf_4 : decode cX6_allOf 4 = .ok (.iload_n 3, 1) := by decide +kernel
theorem dX6_allOf_5 : decode cX6_allOf 5 = .ok (.bipush 8, 2) := by decide +kernel
theorem dX6_allOf_7 : decode cX6_allOf 7 = .ok (.if_icmp .ge 23, 3) := by decide +kernel
theorem dX6_allOf_10 : decode cX6_allOf 10 = .ok (.iload_n 2, 1) := by decide +kernel
theorem dX6_allOf_11 : decode cX6_allOf 11 = .ok (.aload_n 0, 1) := by decide +kernel
theorem dX6_allOf_12 : decode cX6_allOf 12 = .ok (.getfield 55, 3) := by decide +kernel
theorem dX6_allOf_15 : decode cX6_allOf 15 = .ok (.bipush 8, 2) := by decide +kernel
theorem dX6_allOf_17 : decode cX6_allOf 17 = .ok (.iload_n 1, 1) := by decide +kernel
theorem dX6_allOf_18 : decode cX6_allOf 18 = .ok (.imul, 1) := by decide +kernel
theorem dX6_allOf_19 : decode cX6_allOf 19 = .ok (.iload_n 3, 1) := by decide +kernel
theorem dX6_allOf_20 : decode cX6_allOf 20 = .ok (.iadd, 1) := by decide +kernel
theorem dX6_allOf_21 : decode cX6_allOf 21 = .ok (.iaload, 1) := by decide +kernel
theorem dX6_allOf_22 : decode cX6_allOf 22 = .ok (.iadd, 1) := by decide +kernel
theorem dX6_allOf_23 : decode cX6_allOf 23 = .ok (.istore_n 2, 1) := by decide +kernel
theorem dX6_allOf_24 : decode cX6_allOf 24 = .ok (.iinc 3 1, 3) := by decide +kernel
theorem dX6_allOf_27 : decode cX6_allOf 27 = .ok (.goto (-23), 3) := by decide +kernel
theorem dX6_allOf_30 : decode cX6_allOf 30 = .ok (.iload_n 2, 1) := by decide +kernel
theorem dX6_allOf_31 : decode cX6_allOf 31 = .ok (.ireturn, 1) := by decide +kernel
theorem dX6_payFor_0 : decode cX6_payFor 0 = .ok (.aload_n 0, 1) := by decide +kernel
theorem dX6_payFor_1 : decode cX6_payFor 1 = .ok (.getfield 16, 3) := by decide +kernel
theorem dX6_payFor_4 : decode cX6_payFor 4 = .ok (.istore_n 2, 1) := by decide +kernel
theorem dX6_payFor_5 : decode cX6_payFor 5 = .ok (.iconst 0, 1) := by decide +kernel
theorem dX6_payFor_6 : decode cX6_payFor 6 = .ok (.istore_n 3, 1) := by decide +kernel
theorem dX6_payFor_7 : decode cX6_payFor 7 = .ok (.iload_n 3, 1) := by decide +kernel
theorem dX6_payFor_8 : decode cX6_payFor 8 = .ok (.iload_n 1, 1) := by decide +kernel
theorem dX6_payFor_9 : decode cX6_payFor 9 = .ok (.aload_n 0, 1) := by decide +kernel
theorem dX6_payFor_10 : decode cX6_payFor 10 = .ok (.getfield 19, 3) := by decide +kernel
theorem dX6_payFor_13 : decode cX6_payFor 13 = .ok (.idiv, 1) := by decide +kernel
theorem dX6_payFor_14 : decode cX6_payFor 14 = .ok (.if_icmp .ge 17, 3) := by decide +kernel
theorem dX6_payFor_17 : decode cX6_payFor 17 = .ok (.iload_n 2, 1) := by decide +kernel
theorem dX6_payFor_18 : decode cX6_payFor 18 = .ok (.ifCond .le 13, 3) := by decide +kernel
theorem dX6_payFor_21 : decode cX6_payFor 21 = .ok (.iload_n 2, 1) := by decide +kernel
theorem dX6_payFor_22 : decode cX6_payFor 22 = .ok (.iconst 2, 1) := by decide +kernel
theorem dX6_payFor_23 : decode cX6_payFor 23 = .ok (.idiv, 1) := by decide +kernel
theorem dX6_payFor_24 : decode cX6_payFor 24 = .ok (.istore_n 2, 1) := by decide +kernel
theorem dX6_payFor_25 : decode cX6_payFor 25 = .ok (.iinc 3 1, 3) := by decide +kernel
theorem dX6_payFor_28 : decode cX6_payFor 28 = .ok (.goto (-21), 3) := by decide +kernel
theorem dX6_payFor_31 : decode cX6_payFor 31 = .ok (.aload_n 0, 1) := by decide +kernel
theorem dX6_payFor_32 : decode cX6_payFor 32 = .ok (.iload_n 1, 1) := by decide +kernel
theorem dX6_payFor_33 : decode cX6_payFor 33 = .ok (.invokevirtual 106, 3) := by decide +kernel
theorem dX6_payFor_36 : decode cX6_payFor 36 = .ok (.ifCond .ne 4, 3) := by decide +kernel
theorem dX6_payFor_39 : decode cX6_payFor 39 = .ok (.return_, 1) := by decide +kernel
theorem dX6_payFor_40 : decode cX6_payFor 40 = .ok (.iconst 0, 1) := by decide +kernel
theorem dX6_payFor_41 : decode cX6_payFor 41 = .ok (.istore_n 3, 1) := by decide +kernel
theorem dX6_payFor_42 : decode cX6_payFor 42 = .ok (.iload_n 3, 1) := by decide +kernel
theorem dX6_payFor_43 : decode cX6_payFor 43 = .ok (.bipush 8, 2) := by decide +kernel
theorem dX6_payFor_45 : decode cX6_payFor 45 = .ok (.if_icmp .ge 27, 3) := by decide +kernel
theorem dX6_payFor_48 : decode cX6_payFor 48 = .ok (.aload_n 0, 1) := by decide +kernel
theorem dX6_payFor_49 : decode cX6_payFor 49 = .ok (.getfield 64, 3) := by decide +kernel
theorem dX6_payFor_52 : decode cX6_payFor 52 = .ok (.iload_n 3, 1) := by decide +kernel
theorem dX6_payFor_53 : decode cX6_payFor 53 = .ok (.aload_n 0, 1) := by decide +kernel
theorem dX6_payFor_54 : decode cX6_payFor 54 = .ok (.getfield 55, 3) := by decide +kernel
theorem dX6_payFor_57 : decode cX6_payFor 57 = .ok (.bipush 8, 2) := by decide +kernel
theorem dX6_payFor_59 : decode cX6_payFor 59 = .ok (.iload_n 1, 1) := by decide +kernel
theorem dX6_payFor_60 : decode cX6_payFor 60 = .ok (.imul, 1) := by decide +kernel
theorem dX6_payFor_61 : decode cX6_payFor 61 = .ok (.iload_n 3, 1) := by decide +kernel
theorem dX6_payFor_62 : decode cX6_payFor 62 = .ok (.iadd, 1) := by decide +kernel
theorem dX6_payFor_63 : decode cX6_payFor 63 = .ok (.iaload, 1) := by decide +kernel
theorem dX6_payFor_64 : decode cX6_payFor 64 = .ok (.i2l, 1) := by decide +kernel
theorem dX6_payFor_65 : decode cX6_payFor 65 = .ok (.lastore, 1) := by decide +kernel
theorem dX6_payFor_66 : decode cX6_payFor 66 = .ok (.iinc 3 1, 3) := by decide +kernel
theorem dX6_payFor_69 : decode cX6_payFor 69 = .ok (.goto (-27), 3) := by decide +kernel
theorem dX6_payFor_72 : decode cX6_payFor 72 = .ok (.aload_n 0, 1) := by decide +kernel
theorem dX6_payFor_73 : decode cX6_payFor 73 = .ok (.iload_n 2, 1) := by decide +kernel
theorem dX6_payFor_74 : decode cX6_payFor 74 = .ok (.bipush 8, 2) := by decide +kernel
theorem dX6_payFor_76 : decode cX6_payFor 76 = .ok (.invokevirtual 110, 3) := by decide +kernel
theorem dX6_payFor_79 : decode cX6_payFor 79 = .ok (.iconst 0, 1) := by decide +kernel
theorem dX6_payFor_80 : decode cX6_payFor 80 = .ok (.istore_n 3, 1) := by decide +kernel
theorem dX6_payFor_81 : decode cX6_payFor 81 = .ok (.iload_n 3, 1) := by decide +kernel
theorem dX6_payFor_82 : decode cX6_payFor 82 = .ok (.bipush 8, 2) := by decide +kernel
theorem dX6_payFor_84 : decode cX6_payFor 84 = .ok (.if_icmp .ge 26, 3) := by decide +kernel
theorem dX6_payFor_87 : decode cX6_payFor 87 = .ok (.aload_n 0, 1) := by decide +kernel
theorem dX6_payFor_88 : decode cX6_payFor 88 = .ok (.getfield 58, 3) := by decide +kernel
theorem dX6_payFor_91 : decode cX6_payFor 91 = .ok (.bipush 8, 2) := by decide +kernel
theorem dX6_payFor_93 : decode cX6_payFor 93 = .ok (.iload_n 1, 1) := by decide +kernel
theorem dX6_payFor_94 : decode cX6_payFor 94 = .ok (.imul, 1) := by decide +kernel
theorem dX6_payFor_95 : decode cX6_payFor 95 = .ok (.iload_n 3, 1) := by decide +kernel
theorem dX6_payFor_96 : decode cX6_payFor 96 = .ok (.iadd, 1) := by decide +kernel
theorem dX6_payFor_97 : decode cX6_payFor 97 = .ok (.aload_n 0, 1) := by decide +kernel
theorem dX6_payFor_98 : decode cX6_payFor 98 = .ok (.getfield 68, 3) := by decide +kernel
theorem dX6_payFor_101 : decode cX6_payFor 101 = .ok (.iload_n 3, 1) := by decide +kernel
theorem dX6_payFor_102 : decode cX6_payFor 102 = .ok (.iaload, 1) := by decide +kernel
theorem dX6_payFor_103 : decode cX6_payFor 103 = .ok (.iastore, 1) := by decide +kernel
theorem dX6_payFor_104 : decode cX6_payFor 104 = .ok (.iinc 3 1, 3) := by decide +kernel
theorem dX6_payFor_107 : decode cX6_payFor 107 = .ok (.goto (-26), 3) := by decide +kernel
theorem dX6_payFor_110 : decode cX6_payFor 110 = .ok (.aload_n 0, 1) := by decide +kernel
theorem dX6_payFor_111 : decode cX6_payFor 111 = .ok (.getfield 61, 3) := by decide +kernel
theorem dX6_payFor_114 : decode cX6_payFor 114 = .ok (.iload_n 1, 1) := by decide +kernel
theorem dX6_payFor_115 : decode cX6_payFor 115 = .ok (.iload_n 2, 1) := by decide +kernel
theorem dX6_payFor_116 : decode cX6_payFor 116 = .ok (.iastore, 1) := by decide +kernel
theorem dX6_payFor_117 : decode cX6_payFor 117 = .ok (.aload_n 0, 1) := by decide +kernel
theorem dX6_payFor_118 : decode cX6_payFor 118 = .ok (.aload_n 0, 1) := by decide +kernel
theorem dX6_payFor_119 : decode cX6_payFor 119 = .ok (.getfield 114, 3) := by decide +kernel
theorem dX6_payFor_122 : decode cX6_payFor 122 = .ok (.iload_n 2, 1) := by decide +kernel
theorem dX6_payFor_123 : decode cX6_payFor 123 = .ok (.iadd, 1) := by decide +kernel
theorem dX6_payFor_124 : decode cX6_payFor 124 = .ok (.putfield 114, 3) := by decide +kernel
theorem dX6_payFor_127 : decode cX6_payFor 127 = .ok (.iconst 0, 1) := by decide +kernel
theorem dX6_payFor_128 : decode cX6_payFor 128 = .ok (.istore_n 3, 1) := by decide +kernel
theorem dX6_payFor_129 : decode cX6_payFor 129 = .ok (.iload_n 3, 1) := by decide +kernel
theorem dX6_payFor_130 : decode cX6_payFor 130 = .ok (.bipush 8, 2) := by decide +kernel
theorem dX6_payFor_132 : decode cX6_payFor 132 = .ok (.if_icmp .ge 165, 3) := by decide +kernel
theorem dX6_payFor_135 : decode cX6_payFor 135 = .ok (.aload_n 0, 1) := by decide +kernel
theorem dX6_payFor_136 : decode cX6_payFor 136 = .ok (.getfield 55, 3) := by decide +kernel
theorem dX6_payFor_139 : decode cX6_payFor 139 = .ok (.bipush 8, 2) := by decide +kernel
theorem dX6_payFor_141 : decode cX6_payFor 141 = .ok (.iload_n 1, 1) := by decide +kernel
theorem dX6_payFor_142 : decode cX6_payFor 142 = .ok (.imul, 1) := by decide +kernel
theorem dX6_payFor_143 : decode cX6_payFor 143 = .ok (.iload_n 3, 1) := by decide +kernel
theorem dX6_payFor_144 : decode cX6_payFor 144 = .ok (.iadd, 1) := by decide +kernel
theorem dX6_payFor_145 : decode cX6_payFor 145 = .ok (.iaload, 1) := by decide +kernel
theorem dX6_payFor_146 : decode cX6_payFor 146 = .ok (.ifCond .le 145, 3) := by decide +kernel
theorem dX6_payFor_149 : decode cX6_payFor 149 = .ok (.aload_n 0, 1) := by decide +kernel
theorem dX6_payFor_150 : decode cX6_payFor 150 = .ok (.getfield 58, 3) := by decide +kernel
theorem dX6_payFor_153 : decode cX6_payFor 153 = .ok (.bipush 8, 2) := by decide +kernel
theorem dX6_payFor_155 : decode cX6_payFor 155 = .ok (.iload_n 1, 1) := by decide +kernel
theorem dX6_payFor_156 : decode cX6_payFor 156 = .ok (.imul, 1) := by decide +kernel
theorem dX6_payFor_157 : decode cX6_payFor 157 = .ok (.iload_n 3, 1) := by decide +kernel
theorem dX6_payFor_158 : decode cX6_payFor 158 = .ok (.iadd, 1) := by decide +kernel
theorem dX6_payFor_159 : decode cX6_payFor 159 = .ok (.iaload, 1) := by decide +kernel
theorem dX6_payFor_160 : decode cX6_payFor 160 = .ok (.aload_n 0, 1) := by decide +kernel
theorem dX6_payFor_161 : decode cX6_payFor 161 = .ok (.getfield 33, 3) := by decide +kernel
theorem dX6_payFor_164 : decode cX6_payFor 164 = .ok (.iload_n 3, 1) := by decide +kernel
theorem dX6_payFor_165 : decode cX6_payFor 165 = .ok (.iaload, 1) := by decide +kernel
theorem dX6_payFor_166 : decode cX6_payFor 166 = .ok (.imul, 1) := by decide +kernel
theorem dX6_payFor_167 : decode cX6_payFor 167 = .ok (.bipush 100, 2) := by decide +kernel
theorem dX6_payFor_169 : decode cX6_payFor 169 = .ok (.idiv, 1) := by decide +kernel
theorem dX6_payFor_170 : decode cX6_payFor 170 = .ok (.istore 4, 2) := by decide +kernel
theorem dX6_payFor_172 : decode cX6_payFor 172 = .ok (.aload_n 0, 1) := by decide +kernel
theorem dX6_payFor_173 : decode cX6_payFor 173 = .ok (.getfield 26, 3) := by decide +kernel
theorem dX6_payFor_176 : decode cX6_payFor 176 = .ok (.aload_n 0, 1) := by decide +kernel
theorem dX6_payFor_177 : decode cX6_payFor 177 = .ok (.getfield 30, 3) := by decide +kernel
theorem dX6_payFor_180 : decode cX6_payFor 180 = .ok (.iload_n 3, 1) := by decide +kernel
theorem dX6_payFor_181 : decode cX6_payFor 181 = .ok (.iaload, 1) := by decide +kernel
theorem dX6_payFor_182 : decode cX6_payFor 182 = .ok (.aload_n 0, 1) := by decide +kernel
theorem dX6_payFor_183 : decode cX6_payFor 183 = .ok (.getfield 26, 3) := by decide +kernel
theorem dX6_payFor_186 : decode cX6_payFor 186 = .ok (.aload_n 0, 1) := by decide +kernel
theorem dX6_payFor_187 : decode cX6_payFor 187 = .ok (.getfield 30, 3) := by decide +kernel
theorem dX6_payFor_190 : decode cX6_payFor 190 = .ok (.iload_n 3, 1) := by decide +kernel
theorem dX6_payFor_191 : decode cX6_payFor 191 = .ok (.iaload, 1) := by decide +kernel
theorem dX6_payFor_192 : decode cX6_payFor 192 = .ok (.iaload, 1) := by decide +kernel
theorem dX6_payFor_193 : decode cX6_payFor 193 = .ok (.iload 4, 2) := by decide +kernel
theorem dX6_payFor_195 : decode cX6_payFor 195 = .ok (.iadd, 1) := by decide +kernel
theorem dX6_payFor_196 : decode cX6_payFor 196 = .ok (.iastore, 1) := by decide +kernel
theorem dX6_payFor_197 : decode cX6_payFor 197 = .ok (.iconst 0, 1) := by decide +kernel
theorem dX6_payFor_198 : decode cX6_payFor 198 = .ok (.istore 5, 2) := by decide +kernel
theorem dX6_payFor_200 : decode cX6_payFor 200 = .ok (.iload 5, 2) := by decide +kernel
theorem dX6_payFor_202 : decode cX6_payFor 202 = .ok (.bipush 10, 2) := by decide +kernel
theorem dX6_payFor_204 : decode cX6_payFor 204 = .ok (.if_icmp .ge 29, 3) := by decide +kernel
theorem dX6_payFor_207 : decode cX6_payFor 207 = .ok (.aload_n 0, 1) := by decide +kernel
theorem dX6_payFor_208 : decode cX6_payFor 208 = .ok (.getfield 64, 3) := by decide +kernel
theorem dX6_payFor_211 : decode cX6_payFor 211 = .ok (.iload 5, 2) := by decide +kernel
theorem dX6_payFor_213 : decode cX6_payFor 213 = .ok (.aload_n 0, 1) := by decide +kernel
theorem dX6_payFor_214 : decode cX6_payFor 214 = .ok (.getfield 49, 3) := by decide +kernel
theorem dX6_payFor_217 : decode cX6_payFor 217 = .ok (.bipush 10, 2) := by decide +kernel
theorem dX6_payFor_219 : decode cX6_payFor 219 = .ok (.iload_n 3, 1) := by decide +kernel
theorem dX6_payFor_220 : decode cX6_payFor 220 = .ok (.imul, 1) := by decide +kernel
theorem dX6_payFor_221 : decode cX6_payFor 221 = .ok (.iload 5, 2) := by decide +kernel
theorem dX6_payFor_223 : decode cX6_payFor 223 = .ok (.iadd, 1) := by decide +kernel
theorem dX6_payFor_224 : decode cX6_payFor 224 = .ok (.iaload, 1) := by decide +kernel
theorem dX6_payFor_225 : decode cX6_payFor 225 = .ok (.i2l, 1) := by decide +kernel
theorem dX6_payFor_226 : decode cX6_payFor 226 = .ok (.lastore, 1) := by decide +kernel
theorem dX6_payFor_227 : decode cX6_payFor 227 = .ok (.iinc 5 1, 3) := by decide +kernel
theorem dX6_payFor_230 : decode cX6_payFor 230 = .ok (.goto (-30), 3) := by decide +kernel
theorem dX6_payFor_233 : decode cX6_payFor 233 = .ok (.aload_n 0, 1) := by decide +kernel
theorem dX6_payFor_234 : decode cX6_payFor 234 = .ok (.aload_n 0, 1) := by decide +kernel
theorem dX6_payFor_235 : decode cX6_payFor 235 = .ok (.getfield 58, 3) := by decide +kernel
theorem dX6_payFor_238 : decode cX6_payFor 238 = .ok (.bipush 8, 2) := by decide +kernel
theorem dX6_payFor_240 : decode cX6_payFor 240 = .ok (.iload_n 1, 1) := by decide +kernel
theorem dX6_payFor_241 : decode cX6_payFor 241 = .ok (.imul, 1) := by decide +kernel
theorem dX6_payFor_242 : decode cX6_payFor 242 = .ok (.iload_n 3, 1) := by decide +kernel
theorem dX6_payFor_243 : decode cX6_payFor 243 = .ok (.iadd, 1) := by decide +kernel
theorem dX6_payFor_244 : decode cX6_payFor 244 = .ok (.iaload, 1) := by decide +kernel
theorem dX6_payFor_245 : decode cX6_payFor 245 = .ok (.iload 4, 2) := by decide +kernel
theorem dX6_payFor_247 : decode cX6_payFor 247 = .ok (.isub, 1) := by decide +kernel
theorem dX6_payFor_248 : decode cX6_payFor 248 = .ok (.bipush 10, 2) := by decide +kernel
theorem dX6_payFor_250 : decode cX6_payFor 250 = .ok (.invokevirtual 110, 3) := by decide +kernel
theorem dX6_payFor_253 : decode cX6_payFor 253 = .ok (.iconst 0, 1) := by decide +kernel
theorem dX6_payFor_254 : decode cX6_payFor 254 = .ok (.istore 5, 2) := by decide +kernel
theorem dX6_payFor_256 : decode cX6_payFor 256 = .ok (.iload 5, 2) := by decide +kernel
theorem dX6_payFor_258 : decode cX6_payFor 258 = .ok (.bipush 10, 2) := by decide +kernel
theorem dX6_payFor_260 : decode cX6_payFor 260 = .ok (.if_icmp .ge 31, 3) := by decide +kernel
theorem dX6_payFor_263 : decode cX6_payFor 263 = .ok (.aload_n 0, 1) := by decide +kernel
theorem dX6_payFor_264 : decode cX6_payFor 264 = .ok (.getfield 26, 3) := by decide +kernel
theorem dX6_payFor_267 : decode cX6_payFor 267 = .ok (.iload 5, 2) := by decide +kernel
theorem dX6_payFor_269 : decode cX6_payFor 269 = .ok (.aload_n 0, 1) := by decide +kernel
theorem dX6_payFor_270 : decode cX6_payFor 270 = .ok (.getfield 26, 3) := by decide +kernel
theorem dX6_payFor_273 : decode cX6_payFor 273 = .ok (.iload 5, 2) := by decide +kernel
theorem dX6_payFor_275 : decode cX6_payFor 275 = .ok (.iaload, 1) := by decide +kernel
theorem dX6_payFor_276 : decode cX6_payFor 276 = .ok (.aload_n 0, 1) := by decide +kernel
theorem dX6_payFor_277 : decode cX6_payFor 277 = .ok (.getfield 68, 3) := by decide +kernel
theorem dX6_payFor_280 : decode cX6_payFor 280 = .ok (.iload 5, 2) := by decide +kernel
theorem dX6_payFor_282 : decode cX6_payFor 282 = .ok (.iaload, 1) := by decide +kernel
theorem dX6_payFor_283 : decode cX6_payFor 283 = .ok (.iadd, 1) := by decide +kernel
theorem dX6_payFor_284 : decode cX6_payFor 284 = .ok (.iastore, 1) := by decide +kernel
theorem dX6_payFor_285 : decode cX6_payFor 285 = .ok (.iinc 5 1, 3) := by decide +kernel
theorem dX6_payFor_288 : decode cX6_payFor 288 = .ok (.goto (-32), 3) := by decide +kernel
theorem dX6_payFor_291 : decode cX6_payFor 291 = .ok (.iinc 3 1, 3) := by decide +kernel
theorem dX6_payFor_294 : decode cX6_payFor 294 = .ok (.goto (-165), 3) := by decide +kernel
theorem dX6_payFor_297 : decode cX6_payFor 297 = .ok (.return_, 1) := by decide +kernel
theorem dX6_fix_0 : decode cX6_fix 0 = .ok (.iconst 0, 1) := by decide +kernel
theorem dX6_fix_1 : decode cX6_fix 1 = .ok (.istore_n 1, 1) := by decide +kernel
end
section
theorem dX6_fix_2 : decode cX6_fix 2 = .ok (.iload_n 1, 1) := by decide +kernel
theorem dX6_fix_3 : decode cX6_fix 3 = .ok (.bipush 80, 2) := by decide +kernel
theorem dX6_fix_5 : decode cX6_fix 5 = .ok (.if_icmp .ge 21, 3) := by decide +kernel
theorem dX6_fix_8 : decode cX6_fix 8 = .ok (.aload_n 0, 1) := by decide +kernel
theorem dX6_fix_9 : decode cX6_fix 9 = .ok (.getfield 49, 3) := by decide +kernel
theorem dX6_fix_12 : decode cX6_fix 12 = .ok (.iload_n 1, 1) := by decide +kernel
theorem dX6_fix_13 : decode cX6_fix 13 = .ok (.aload_n 0, 1) := by decide +kernel
theorem dX6_fix_14 : decode cX6_fix 14 = .ok (.getfield 46, 3) := by decide +kernel
theorem dX6_fix_17 : decode cX6_fix 17 = .ok (.iload_n 1, 1) := by decide +kernel
theorem dX6_fix_18 : decode cX6_fix 18 = .ok (.iaload, 1) := by decide +kernel
theorem dX6_fix_19 : decode cX6_fix 19 = .ok (.iastore, 1) := by decide +kernel
theorem dX6_fix_20 : decode cX6_fix 20 = .ok (.iinc 1 1, 3) := by decide +kernel
theorem dX6_fix_23 : decode cX6_fix 23 = .ok (.goto (-21), 3) := by decide +kernel
theorem dX6_fix_26 : decode cX6_fix 26 = .ok (.iconst 0, 1) := by decide +kernel
theorem dX6_fix_27 : decode cX6_fix 27 = .ok (.istore_n 1, 1) := by decide +kernel
theorem dX6_fix_28 : decode cX6_fix 28 = .ok (.iload_n 1, 1) := by decide +kernel
theorem dX6_fix_29 : decode cX6_fix 29 = .ok (.aload_n 0, 1) := by decide +kernel
theorem dX6_fix_30 : decode cX6_fix 30 = .ok (.getfield 80, 3) := by decide +kernel
theorem dX6_fix_33 : decode cX6_fix 33 = .ok (.if_icmp .ge 88, 3) := by decide +kernel
theorem dX6_fix_36 : decode cX6_fix 36 = .ok (.aload_n 0, 1) := by decide +kernel
theorem dX6_fix_37 : decode cX6_fix 37 = .ok (.iload_n 1, 1) := by decide +kernel
theorem dX6_fix_38 : decode cX6_fix 38 = .ok (.invokevirtual 117, 3) := by decide +kernel
theorem dX6_fix_41 : decode cX6_fix 41 = .ok (.istore_n 2, 1) := by decide +kernel
theorem dX6_fix_42 : decode cX6_fix 42 = .ok (.aload_n 0, 1) := by decide +kernel
theorem dX6_fix_43 : decode cX6_fix 43 = .ok (.getfield 36, 3) := by decide +kernel
theorem dX6_fix_46 : decode cX6_fix 46 = .ok (.iload_n 1, 1) := by decide +kernel
theorem dX6_fix_47 : decode cX6_fix 47 = .ok (.iaload, 1) := by decide +kernel
theorem dX6_fix_48 : decode cX6_fix 48 = .ok (.iconst 2, 1) := by decide +kernel
theorem dX6_fix_49 : decode cX6_fix 49 = .ok (.if_icmp .eq 13, 3) := by decide +kernel
theorem dX6_fix_52 : decode cX6_fix 52 = .ok (.aload_n 0, 1) := by decide +kernel
theorem dX6_fix_53 : decode cX6_fix 53 = .ok (.getfield 36, 3) := by decide +kernel
theorem dX6_fix_56 : decode cX6_fix 56 = .ok (.iload_n 1, 1) := by decide +kernel
theorem dX6_fix_57 : decode cX6_fix 57 = .ok (.iaload, 1) := by decide +kernel
theorem dX6_fix_58 : decode cX6_fix 58 = .ok (.iconst 3, 1) := by decide +kernel
theorem dX6_fix_59 : decode cX6_fix 59 = .ok (.if_icmp .ne 16, 3) := by decide +kernel
theorem dX6_fix_62 : decode cX6_fix 62 = .ok (.aload_n 0, 1) := by decide +kernel
theorem dX6_fix_63 : decode cX6_fix 63 = .ok (.getfield 42, 3) := by decide +kernel
theorem dX6_fix_66 : decode cX6_fix 66 = .ok (.iload_n 1, 1) := by decide +kernel
theorem dX6_fix_67 : decode cX6_fix 67 = .ok (.baload, 1) := by decide +kernel
theorem dX6_fix_68 : decode cX6_fix 68 = .ok (.ifCond .ne 7, 3) := by decide +kernel
theorem dX6_fix_71 : decode cX6_fix 71 = .ok (.iconst 1, 1) := by decide +kernel
theorem dX6_fix_72 : decode cX6_fix 72 = .ok (.goto 4, 3) := by decide +kernel
theorem dX6_fix_75 : decode cX6_fix 75 = .ok (.iconst 0, 1) := by decide +kernel
theorem dX6_fix_76 : decode cX6_fix 76 = .ok (.istore_n 3, 1) := by decide +kernel
theorem dX6_fix_77 : decode cX6_fix 77 = .ok (.aload_n 0, 1) := by decide +kernel
theorem dX6_fix_78 : decode cX6_fix 78 = .ok (.getfield 55, 3) := by decide +kernel
theorem dX6_fix_81 : decode cX6_fix 81 = .ok (.bipush 8, 2) := by decide +kernel
theorem dX6_fix_83 : decode cX6_fix 83 = .ok (.aload_n 0, 1) := by decide +kernel
theorem dX6_fix_84 : decode cX6_fix 84 = .ok (.getfield 83, 3) := by decide +kernel
theorem dX6_fix_87 : decode cX6_fix 87 = .ok (.imul, 1) := by decide +kernel
theorem dX6_fix_88 : decode cX6_fix 88 = .ok (.iload_n 1, 1) := by decide +kernel
theorem dX6_fix_89 : decode cX6_fix 89 = .ok (.iadd, 1) := by decide +kernel
theorem dX6_fix_90 : decode cX6_fix 90 = .ok (.iload_n 3, 1) := by decide +kernel
theorem dX6_fix_91 : decode cX6_fix 91 = .ok (.ifCond .ne 7, 3) := by decide +kernel
theorem dX6_fix_94 : decode cX6_fix 94 = .ok (.iconst 0, 1) := by decide +kernel
theorem dX6_fix_95 : decode cX6_fix 95 = .ok (.goto 19, 3) := by decide +kernel
theorem dX6_fix_98 : decode cX6_fix 98 = .ok (.iload_n 2, 1) := by decide +kernel
theorem dX6_fix_99 : decode cX6_fix 99 = .ok (.aload_n 0, 1) := by decide +kernel
theorem dX6_fix_100 : decode cX6_fix 100 = .ok (.getfield 23, 3) := by decide +kernel
theorem dX6_fix_103 : decode cX6_fix 103 = .ok (.if_icmp .le 10, 3) := by decide +kernel
theorem dX6_fix_106 : decode cX6_fix 106 = .ok (.aload_n 0, 1) := by decide +kernel
theorem dX6_fix_107 : decode cX6_fix 107 = .ok (.getfield 23, 3) := by decide +kernel
theorem dX6_fix_110 : decode cX6_fix 110 = .ok (.goto 4, 3) := by decide +kernel
theorem dX6_fix_113 : decode cX6_fix 113 = .ok (.iload_n 2, 1) := by decide +kernel
theorem dX6_fix_114 : decode cX6_fix 114 = .ok (.iastore, 1) := by decide +kernel
theorem dX6_fix_115 : decode cX6_fix 115 = .ok (.iinc 1 1, 3) := by decide +kernel
theorem dX6_fix_118 : decode cX6_fix 118 = .ok (.goto (-90), 3) := by decide +kernel
theorem dX6_fix_121 : decode cX6_fix 121 = .ok (.return_, 1) := by decide +kernel
theorem dX6_about5_0 : decode cX6_about5 0 = .ok (.iconst 0, 1) := by decide +kernel
theorem dX6_about5_1 : decode cX6_about5 1 = .ok (.istore_n 2, 1) := by decide +kernel
theorem dX6_about5_2 : decode cX6_about5 2 = .ok (.iconst 0, 1) := by decide +kernel
theorem dX6_about5_3 : decode cX6_about5 3 = .ok (.istore_n 3, 1) := by decide +kernel
theorem dX6_about5_4 : decode cX6_about5 4 = .ok (.iload_n 3, 1) := by decide +kernel
theorem dX6_about5_5 : decode cX6_about5 5 = .ok (.bipush 10, 2) := by decide +kernel
theorem dX6_about5_7 : decode cX6_about5 7 = .ok (.if_icmp .ge 23, 3) := by decide +kernel
theorem dX6_about5_10 : decode cX6_about5 10 = .ok (.iload_n 2, 1) := by decide +kernel
theorem dX6_about5_11 : decode cX6_about5 11 = .ok (.aload_n 0, 1) := by decide +kernel
theorem dX6_about5_12 : decode cX6_about5 12 = .ok (.getfield 46, 3) := by decide +kernel
theorem dX6_about5_15 : decode cX6_about5 15 = .ok (.bipush 10, 2) := by decide +kernel
theorem dX6_about5_17 : decode cX6_about5 17 = .ok (.iload_n 1, 1) := by decide +kernel
theorem dX6_about5_18 : decode cX6_about5 18 = .ok (.imul, 1) := by decide +kernel
theorem dX6_about5_19 : decode cX6_about5 19 = .ok (.iload_n 3, 1) := by decide +kernel
theorem dX6_about5_20 : decode cX6_about5 20 = .ok (.iadd, 1) := by decide +kernel
theorem dX6_about5_21 : decode cX6_about5 21 = .ok (.iaload, 1) := by decide +kernel
theorem dX6_about5_22 : decode cX6_about5 22 = .ok (.iadd, 1) := by decide +kernel
theorem dX6_about5_23 : decode cX6_about5 23 = .ok (.istore_n 2, 1) := by decide +kernel
theorem dX6_about5_24 : decode cX6_about5 24 = .ok (.iinc 3 1, 3) := by decide +kernel
theorem dX6_about5_27 : decode cX6_about5 27 = .ok (.goto (-23), 3) := by decide +kernel
theorem dX6_about5_30 : decode cX6_about5 30 = .ok (.iload_n 2, 1) := by decide +kernel
theorem dX6_about5_31 : decode cX6_about5 31 = .ok (.ireturn, 1) := by decide +kernel
theorem dX6_advance_0 : decode cX6_advance 0 = .ok (.aload_n 0, 1) := by decide +kernel
theorem dX6_advance_1 : decode cX6_advance 1 = .ok (.iconst 0, 1) := by decide +kernel
theorem dX6_advance_2 : decode cX6_advance 2 = .ok (.putfield 1, 3) := by decide +kernel
theorem dX6_advance_5 : decode cX6_advance 5 = .ok (.iload_n 1, 1) := by decide +kernel
theorem dX6_advance_6 : decode cX6_advance 6 = .ok (.i2l, 1) := by decide +kernel
theorem dX6_advance_7 : decode cX6_advance 7 = .ok (.lconst 1, 1) := by decide +kernel
theorem dX6_advance_8 : decode cX6_advance 8 = .ok (.ldc2_w 101, 3) := by decide +kernel
theorem dX6_advance_11 : decode cX6_advance 11 = .ok (.invokestatic 76, 3) := by decide +kernel
theorem dX6_advance_14 : decode cX6_advance 14 = .ok (.ifCond .ne 5, 3) := by decide +kernel
theorem dX6_advance_17 : decode cX6_advance 17 = .ok (.iconst (-1), 1) := by decide +kernel
theorem dX6_advance_18 : decode cX6_advance 18 = .ok (.ireturn, 1) := by decide +kernel
theorem dX6_advance_19 : decode cX6_advance 19 = .ok (.aload_n 0, 1) := by decide +kernel
theorem dX6_advance_20 : decode cX6_advance 20 = .ok (.getfield 83, 3) := by decide +kernel
theorem dX6_advance_23 : decode cX6_advance 23 = .ok (.iload_n 1, 1) := by decide +kernel
theorem dX6_advance_24 : decode cX6_advance 24 = .ok (.iadd, 1) := by decide +kernel
theorem dX6_advance_25 : decode cX6_advance 25 = .ok (.bipush 100, 2) := by decide +kernel
theorem dX6_advance_27 : decode cX6_advance 27 = .ok (.if_icmp .le 6, 3) := by decide +kernel
theorem dX6_advance_30 : decode cX6_advance 30 = .ok (.bipush (-3), 2) := by decide +kernel
theorem dX6_advance_32 : decode cX6_advance 32 = .ok (.ireturn, 1) := by decide +kernel
theorem dX6_advance_33 : decode cX6_advance 33 = .ok (.iconst 0, 1) := by decide +kernel
theorem dX6_advance_34 : decode cX6_advance 34 = .ok (.istore_n 2, 1) := by decide +kernel
theorem dX6_advance_35 : decode cX6_advance 35 = .ok (.iload_n 2, 1) := by decide +kernel
theorem dX6_advance_36 : decode cX6_advance 36 = .ok (.iload_n 1, 1) := by decide +kernel
theorem dX6_advance_37 : decode cX6_advance 37 = .ok (.if_icmp .ge 168, 3) := by decide +kernel
theorem dX6_advance_40 : decode cX6_advance 40 = .ok (.aload_n 0, 1) := by decide +kernel
theorem dX6_advance_41 : decode cX6_advance 41 = .ok (.aload_n 0, 1) := by decide +kernel
theorem dX6_advance_42 : decode cX6_advance 42 = .ok (.getfield 83, 3) := by decide +kernel
theorem dX6_advance_45 : decode cX6_advance 45 = .ok (.invokevirtual 120, 3) := by decide +kernel
theorem dX6_advance_48 : decode cX6_advance 48 = .ok (.aload_n 0, 1) := by decide +kernel
theorem dX6_advance_49 : decode cX6_advance 49 = .ok (.dup, 1) := by decide +kernel
theorem dX6_advance_50 : decode cX6_advance 50 = .ok (.getfield 83, 3) := by decide +kernel
theorem dX6_advance_53 : decode cX6_advance 53 = .ok (.iconst 1, 1) := by decide +kernel
theorem dX6_advance_54 : decode cX6_advance 54 = .ok (.iadd, 1) := by decide +kernel
theorem dX6_advance_55 : decode cX6_advance 55 = .ok (.putfield 83, 3) := by decide +kernel
theorem dX6_advance_58 : decode cX6_advance 58 = .ok (.iconst 0, 1) := by decide +kernel
theorem dX6_advance_59 : decode cX6_advance 59 = .ok (.istore_n 3, 1) := by decide +kernel
theorem dX6_advance_60 : decode cX6_advance 60 = .ok (.iload_n 3, 1) := by decide +kernel
theorem dX6_advance_61 : decode cX6_advance 61 = .ok (.bipush 10, 2) := by decide +kernel
theorem dX6_advance_63 : decode cX6_advance 63 = .ok (.if_icmp .ge 51, 3) := by decide +kernel
theorem dX6_advance_66 : decode cX6_advance 66 = .ok (.aload_n 0, 1) := by decide +kernel
theorem dX6_advance_67 : decode cX6_advance 67 = .ok (.getfield 26, 3) := by decide +kernel
theorem dX6_advance_70 : decode cX6_advance 70 = .ok (.iload_n 3, 1) := by decide +kernel
theorem dX6_advance_71 : decode cX6_advance 71 = .ok (.aload_n 0, 1) := by decide +kernel
theorem dX6_advance_72 : decode cX6_advance 72 = .ok (.getfield 26, 3) := by decide +kernel
theorem dX6_advance_75 : decode cX6_advance 75 = .ok (.iload_n 3, 1) := by decide +kernel
theorem dX6_advance_76 : decode cX6_advance 76 = .ok (.iaload, 1) := by decide +kernel
theorem dX6_advance_77 : decode cX6_advance 77 = .ok (.aload_n 0, 1) := by decide +kernel
theorem dX6_advance_78 : decode cX6_advance 78 = .ok (.getfield 52, 3) := by decide +kernel
theorem dX6_advance_81 : decode cX6_advance 81 = .ok (.bipush 110, 2) := by decide +kernel
theorem dX6_advance_83 : decode cX6_advance 83 = .ok (.iload_n 3, 1) := by decide +kernel
theorem dX6_advance_84 : decode cX6_advance 84 = .ok (.imul, 1) := by decide +kernel
theorem dX6_advance_85 : decode cX6_advance 85 = .ok (.aload_n 0, 1) := by decide +kernel
theorem dX6_advance_86 : decode cX6_advance 86 = .ok (.getfield 83, 3) := by decide +kernel
theorem dX6_advance_89 : decode cX6_advance 89 = .ok (.iadd, 1) := by decide +kernel
theorem dX6_advance_90 : decode cX6_advance 90 = .ok (.iaload, 1) := by decide +kernel
theorem dX6_advance_91 : decode cX6_advance 91 = .ok (.iadd, 1) := by decide +kernel
theorem dX6_advance_92 : decode cX6_advance 92 = .ok (.iastore, 1) := by decide +kernel
theorem dX6_advance_93 : decode cX6_advance 93 = .ok (.aload_n 0, 1) := by decide +kernel
theorem dX6_advance_94 : decode cX6_advance 94 = .ok (.getfield 52, 3) := by decide +kernel
theorem dX6_advance_97 : decode cX6_advance 97 = .ok (.bipush 110, 2) := by decide +kernel
theorem dX6_advance_99 : decode cX6_advance 99 = .ok (.iload_n 3, 1) := by decide +kernel
theorem dX6_advance_100 : decode cX6_advance 100 = .ok (.imul, 1) := by decide +kernel
theorem dX6_advance_101 : decode cX6_advance 101 = .ok (.aload_n 0, 1) := by decide +kernel
theorem dX6_advance_102 : decode cX6_advance 102 = .ok (.getfield 83, 3) := by decide +kernel
theorem dX6_advance_105 : decode cX6_advance 105 = .ok (.iadd, 1) := by decide +kernel
theorem dX6_advance_106 : decode cX6_advance 106 = .ok (.iconst 0, 1) := by decide +kernel
theorem dX6_advance_107 : decode cX6_advance 107 = .ok (.iastore, 1) := by decide +kernel
theorem dX6_advance_108 : decode cX6_advance 108 = .ok (.iinc 3 1, 3) := by decide +kernel
theorem dX6_advance_111 : decode cX6_advance 111 = .ok (.goto (-51), 3) := by decide +kernel
theorem dX6_advance_114 : decode cX6_advance 114 = .ok (.iconst 0, 1) := by decide +kernel
theorem dX6_advance_115 : decode cX6_advance 115 = .ok (.istore_n 3, 1) := by decide +kernel
theorem dX6_advance_116 : decode cX6_advance 116 = .ok (.iload_n 3, 1) := by decide +kernel
theorem dX6_advance_117 : decode cX6_advance 117 = .ok (.aload_n 0, 1) := by decide +kernel
theorem dX6_advance_118 : decode cX6_advance 118 = .ok (.getfield 80, 3) := by decide +kernel
theorem dX6_advance_121 : decode cX6_advance 121 = .ok (.if_icmp .ge 74, 3) := by decide +kernel
theorem dX6_advance_124 : decode cX6_advance 124 = .ok (.aload_n 0, 1) := by decide +kernel
theorem dX6_advance_125 : decode cX6_advance 125 = .ok (.getfield 36, 3) := by decide +kernel
theorem dX6_advance_128 : decode cX6_advance 128 = .ok (.iload_n 3, 1) := by decide +kernel
theorem dX6_advance_129 : decode cX6_advance 129 = .ok (.iaload, 1) := by decide +kernel
theorem dX6_advance_130 : decode cX6_advance 130 = .ok (.iconst 3, 1) := by decide +kernel
theorem dX6_advance_131 : decode cX6_advance 131 = .ok (.if_icmp .ne 20, 3) := by decide +kernel
theorem dX6_advance_134 : decode cX6_advance 134 = .ok (.aload_n 0, 1) := by decide +kernel
theorem dX6_advance_135 : decode cX6_advance 135 = .ok (.getfield 39, 3) := by decide +kernel
theorem dX6_advance_138 : decode cX6_advance 138 = .ok (.iload_n 3, 1) := by decide +kernel
theorem dX6_advance_139 : decode cX6_advance 139 = .ok (.iaload, 1) := by decide +kernel
theorem dX6_advance_140 : decode cX6_advance 140 = .ok (.aload_n 0, 1) := by decide +kernel
theorem dX6_advance_141 : decode cX6_advance 141 = .ok (.getfield 83, 3) := by decide +kernel
theorem dX6_advance_144 : decode cX6_advance 144 = .ok (.if_icmp .ne 7, 3) := by decide +kernel
theorem dX6_advance_147 : decode cX6_advance 147 = .ok (.iconst 1, 1) := by decide +kernel
theorem dX6_advance_148 : decode cX6_advance 148 = .ok (.goto 4, 3) := by decide +kernel
theorem dX6_advance_151 : decode cX6_advance 151 = .ok (.iconst 0, 1) := by decide +kernel
theorem dX6_advance_152 : decode cX6_advance 152 = .ok (.istore 4, 2) := by decide +kernel
theorem dX6_advance_154 : decode cX6_advance 154 = .ok (.aload_n 0, 1) := by decide +kernel
theorem dX6_advance_155 : decode cX6_advance 155 = .ok (.getfield 36, 3) := by decide +kernel
theorem dX6_advance_158 : decode cX6_advance 158 = .ok (.iload_n 3, 1) := by decide +kernel
theorem dX6_advance_159 : decode cX6_advance 159 = .ok (.iload 4, 2) := by decide +kernel
theorem dX6_advance_161 : decode cX6_advance 161 = .ok (.ifCond .eq 7, 3) := by decide +kernel
theorem dX6_advance_164 : decode cX6_advance 164 = .ok (.iconst 0, 1) := by decide +kernel
theorem dX6_advance_165 : decode cX6_advance 165 = .ok (.goto 23, 3) := by decide +kernel
theorem dX6_advance_168 : decode cX6_advance 168 = .ok (.aload_n 0, 1) := by decide +kernel
theorem dX6_advance_169 : decode cX6_advance 169 = .ok (.getfield 36, 3) := by decide +kernel
theorem dX6_advance_172 : decode cX6_advance 172 = .ok (.iload_n 3, 1) := by decide +kernel
theorem dX6_advance_173 : decode cX6_advance 173 = .ok (.iaload, 1) := by decide +kernel
theorem dX6_advance_174 : decode cX6_advance 174 = .ok (.iconst 1, 1) := by decide +kernel
theorem dX6_advance_175 : decode cX6_advance 175 = .ok (.if_icmp .ne 7, 3) := by decide +kernel
theorem dX6_advance_178 : decode cX6_advance 178 = .ok (.iconst 2, 1) := by decide +kernel
theorem dX6_advance_179 : decode cX6_advance 179 = .ok (.goto 9, 3) := by decide +kernel
theorem dX6_advance_182 : decode cX6_advance 182 = .ok (.aload_n 0, 1) := by decide +kernel
theorem dX6_advance_183 : decode cX6_advance 183 = .ok (.getfield 36, 3) := by decide +kernel
theorem dX6_advance_186 : decode cX6_advance 186 = .ok (.iload_n 3, 1) := by decide +kernel
theorem dX6_advance_187 : decode cX6_advance 187 = .ok (.iaload, 1) := by decide +kernel
theorem dX6_advance_188 : decode cX6_advance 188 = .ok (.iastore, 1) := by decide +kernel
theorem dX6_advance_189 : decode cX6_advance 189 = .ok (.iinc 3 1, 3) := by decide +kernel
theorem dX6_advance_192 : decode cX6_advance 192 = .ok (.goto (-76), 3) := by decide +kernel
theorem dX6_advance_195 : decode cX6_advance 195 = .ok (.aload_n 0, 1) := by decide +kernel
theorem dX6_advance_196 : decode cX6_advance 196 = .ok (.invokevirtual 124, 3) := by decide +kernel
theorem dX6_advance_199 : decode cX6_advance 199 = .ok (.iinc 2 1, 3) := by decide +kernel
theorem dX6_advance_202 : decode cX6_advance 202 = .ok (.goto (-167), 3) := by decide +kernel
theorem dX6_advance_205 : decode cX6_advance 205 = .ok (.aload_n 0, 1) := by decide +kernel
theorem dX6_advance_206 : decode cX6_advance 206 = .ok (.getfield 83, 3) := by decide +kernel
theorem dX6_advance_209 : decode cX6_advance 209 = .ok (.ireturn, 1) := by decide +kernel
theorem dX6_balance_0 : decode cX6_balance 0 = .ok (.aload_n 0, 1) := by decide +kernel
theorem dX6_balance_1 : decode cX6_balance 1 = .ok (.iconst 0, 1) := by decide +kernel
theorem dX6_balance_2 : decode cX6_balance 2 = .ok (.putfield 1, 3) := by decide +kernel
theorem dX6_balance_5 : decode cX6_balance 5 = .ok (.iload_n 1, 1) := by decide +kernel
theorem dX6_balance_6 : decode cX6_balance 6 = .ok (.invokestatic 92, 3) := by decide +kernel
theorem dX6_balance_9 : decode cX6_balance 9 = .ok (.ifCond .eq 7, 3) := by decide +kernel
theorem dX6_balance_12 : decode cX6_balance 12 = .ok (.iconst (-1), 1) := by decide +kernel
theorem dX6_balance_13 : decode cX6_balance 13 = .ok (.goto 9, 3) := by decide +kernel
theorem dX6_balance_16 : decode cX6_balance 16 = .ok (.aload_n 0, 1) := by decide +kernel
theorem dX6_balance_17 : decode cX6_balance 17 = .ok (.getfield 26, 3) := by decide +kernel
theorem dX6_balance_20 : decode cX6_balance 20 = .ok (.iload_n 1, 1) := by decide +kernel
theorem dX6_balance_21 : decode cX6_balance 21 = .ok (.iaload, 1) := by decide +kernel
theorem dX6_balance_22 : decode cX6_balance 22 = .ok (.ireturn, 1) := by decide +kernel
theorem dX6_staked_0 : decode cX6_staked 0 = .ok (.aload_n 0, 1) := by decide +kernel
theorem dX6_staked_1 : decode cX6_staked 1 = .ok (.iconst 0, 1) := by decide +kernel
theorem dX6_staked_2 : decode cX6_staked 2 = .ok (.putfield 1, 3) := by decide +kernel
theorem dX6_staked_5 : decode cX6_staked 5 = .ok (.iload_n 1, 1) := by decide +kernel
theorem dX6_staked_6 : decode cX6_staked 6 = .ok (.invokestatic 92, 3) := by decide +kernel
theorem dX6_staked_9 : decode cX6_staked 9 = .ok (.ifCond .ne 16, 3) := by decide +kernel
theorem dX6_staked_12 : decode cX6_staked 12 = .ok (.iload_n 2, 1) := by decide +kernel
theorem dX6_staked_13 : decode cX6_staked 13 = .ok (.iconst (-1), 1) := by decide +kernel
theorem dX6_staked_14 : decode cX6_staked 14 = .ok (.if_icmp .eq 13, 3) := by decide +kernel
theorem dX6_staked_17 : decode cX6_staked 17 = .ok (.aload_n 0, 1) := by decide +kernel
theorem dX6_staked_18 : decode cX6_staked 18 = .ok (.iload_n 2, 1) := by decide +kernel
theorem dX6_staked_19 : decode cX6_staked 19 = .ok (.invokevirtual 103, 3) := by decide +kernel
theorem dX6_staked_22 : decode cX6_staked 22 = .ok (.ifCond .eq 5, 3) := by decide +kernel
theorem dX6_staked_25 : decode cX6_staked 25 = .ok (.iconst (-1), 1) := by decide +kernel
theorem dX6_staked_26 : decode cX6_staked 26 = .ok (.ireturn, 1) := by decide +kernel
theorem dX6_staked_27 : decode cX6_staked 27 = .ok (.iconst 0, 1) := by decide +kernel
theorem dX6_staked_28 : decode cX6_staked 28 = .ok (.istore_n 3, 1) := by decide +kernel
theorem dX6_staked_29 : decode cX6_staked 29 = .ok (.iconst 0, 1) := by decide +kernel
theorem dX6_staked_30 : decode cX6_staked 30 = .ok (.istore 4, 2) := by decide +kernel
theorem dX6_staked_32 : decode cX6_staked 32 = .ok (.iload 4, 2) := by decide +kernel
theorem dX6_staked_34 : decode cX6_staked 34 = .ok (.aload_n 0, 1) := by decide +kernel
theorem dX6_staked_35 : decode cX6_staked 35 = .ok (.getfield 80, 3) := by decide +kernel
theorem dX6_staked_38 : decode cX6_staked 38 = .ok (.if_icmp .ge 39, 3) := by decide +kernel
theorem dX6_staked_41 : decode cX6_staked 41 = .ok (.iload_n 2, 1) := by decide +kernel
theorem dX6_staked_42 : decode cX6_staked 42 = .ok (.iconst (-1), 1) := by decide +kernel
theorem dX6_staked_43 : decode cX6_staked 43 = .ok (.if_icmp .eq 9, 3) := by decide +kernel
theorem dX6_staked_46 : decode cX6_staked 46 = .ok (.iload_n 2, 1) := by decide +kernel
theorem dX6_staked_47 : decode cX6_staked 47 = .ok (.iload 4, 2) := by decide +kernel
theorem dX6_staked_49 : decode cX6_staked 49 = .ok (.if_icmp .ne 20, 3) := by decide +kernel
theorem dX6_staked_52 : decode cX6_staked 52 = .ok (.iload_n 3, 1) := by decide +kernel
theorem dX6_staked_53 : decode cX6_staked 53 = .ok (.aload_n 0, 1) := by decide +kernel
theorem dX6_staked_54 : decode cX6_staked 54 = .ok (.getfield 46, 3) := by decide +kernel
theorem dX6_staked_57 : decode cX6_staked 57 = .ok (.bipush 10, 2) := by decide +kernel
theorem dX6_staked_59 : decode cX6_staked 59 = .ok (.iload 4, 2) := by decide +kernel
theorem dX6_staked_61 : decode cX6_staked 61 = .ok (.imul, 1) := by decide +kernel
theorem dX6_staked_62 : decode cX6_staked 62 = .ok (.iload_n 1, 1) := by decide +kernel
theorem dX6_staked_63 : decode cX6_staked 63 = .ok (.iadd, 1) := by decide +kernel
theorem dX6_staked_64 : decode cX6_staked 64 = .ok (.iaload, 1) := by decide +kernel
theorem dX6_staked_65 : decode cX6_staked 65 = .ok (.iadd, 1) := by decide +kernel
theorem dX6_staked_66 : decode cX6_staked 66 = .ok (.goto 4, 3) := by decide +kernel
theorem dX6_staked_69 : decode cX6_staked 69 = .ok (.iload_n 3, 1) := by decide +kernel
theorem dX6_staked_70 : decode cX6_staked 70 = .ok (.istore_n 3, 1) := by decide +kernel
theorem dX6_staked_71 : decode cX6_staked 71 = .ok (.iinc 4 1, 3) := by decide +kernel
theorem dX6_staked_74 : decode cX6_staked 74 = .ok (.goto (-42), 3) := by decide +kernel
theorem dX6_staked_77 : decode cX6_staked 77 = .ok (.iload_n 3, 1) := by decide +kernel
theorem dX6_staked_78 : decode cX6_staked 78 = .ok (.ireturn, 1) := by decide +kernel
theorem dX6_drawnOf_0 : decode cX6_drawnOf 0 = .ok (.iconst 0, 1) := by decide +kernel
theorem dX6_drawnOf_1 : decode cX6_drawnOf 1 = .ok (.istore_n 2, 1) := by decide +kernel
theorem dX6_drawnOf_2 : decode cX6_drawnOf 2 = .ok (.iconst 0, 1) := by decide +kernel
theorem dX6_drawnOf_3 : decode cX6_drawnOf 3 = .ok (.istore_n 3, 1) := by decide +kernel
theorem dX6_drawnOf_4 : decode cX6_drawnOf 4 = .ok (.iload_n 3, 1) := by decide +kernel
theorem dX6_drawnOf_5 : decode cX6_drawnOf 5 = .ok (.bipush 110, 2) := by decide +kernel
theorem dX6_drawnOf_7 : decode cX6_drawnOf 7 = .ok (.if_icmp .ge 23, 3) := by decide +kernel
theorem dX6_drawnOf_10 : decode cX6_drawnOf 10 = .ok (.iload_n 2, 1) := by decide +kernel
theorem dX6_drawnOf_11 : decode cX6_drawnOf 11 = .ok (.aload_n 0, 1) := by decide +kernel
theorem dX6_drawnOf_12 : decode cX6_drawnOf 12 = .ok (.getfield 52, 3) := by decide +kernel
theorem dX6_drawnOf_15 : decode cX6_drawnOf 15 = .ok (.bipush 110, 2) := by decide +kernel
theorem dX6_drawnOf_17 : decode cX6_drawnOf 17 = .ok (.iload_n 1, 1) := by decide +kernel
theorem dX6_drawnOf_18 : decode cX6_drawnOf 18 = .ok (.imul, 1) := by decide +kernel
theorem dX6_drawnOf_19 : decode cX6_drawnOf 19 = .ok (.iload_n 3, 1) := by decide +kernel
theorem dX6_drawnOf_20 : decode cX6_drawnOf 20 = .ok (.iadd, 1) := by decide +kernel
theorem dX6_drawnOf_21 : decode cX6_drawnOf 21 = .ok (.iaload, 1) := by decide +kernel
theorem dX6_drawnOf_22 : decode cX6_drawnOf 22 = .ok (.iadd, 1) := by decide +kernel
theorem dX6_drawnOf_23 : decode cX6_drawnOf 23 = .ok (.istore_n 2, 1) := by decide +kernel
theorem dX6_drawnOf_24 : decode cX6_drawnOf 24 = .ok (.iinc 3 1, 3) := by decide +kernel
theorem dX6_drawnOf_27 : decode cX6_drawnOf 27 = .ok (.goto (-23), 3) := by decide +kernel
theorem dX6_drawnOf_30 : decode cX6_drawnOf 30 = .ok (.iload_n 2, 1) := by decide +kernel
theorem dX6_drawnOf_31 : decode cX6_drawnOf 31 = .ok (.ireturn, 1) := by decide +kernel
theorem dX6_drawn_0 : decode cX6_drawn 0 = .ok (.aload_n 0, 1) := by decide +kernel
theorem dX6_drawn_1 : decode cX6_drawn 1 = .ok (.iconst 0, 1) := by decide +kernel
theorem dX6_drawn_2 : decode cX6_drawn 2 = .ok (.putfield 1, 3) := by decide +kernel
theorem dX6_drawn_5 : decode cX6_drawn 5 = .ok (.iload_n 1, 1) := by decide +kernel
theorem dX6_drawn_6 : decode cX6_drawn 6 = .ok (.invokestatic 92, 3) := by decide +kernel
theorem dX6_drawn_9 : decode cX6_drawn 9 = .ok (.ifCond .ne 20, 3) := by decide +kernel
theorem dX6_drawn_12 : decode cX6_drawn 12 = .ok (.iload_n 2, 1) := by decide +kernel
theorem dX6_drawn_13 : decode cX6_drawn 13 = .ok (.iconst (-1), 1) := by decide +kernel
theorem dX6_drawn_14 : decode cX6_drawn 14 = .ok (.if_icmp .eq 17, 3) := by decide +kernel
theorem dX6_drawn_17 : decode cX6_drawn 17 = .ok (.iload_n 2, 1) := by decide +kernel
theorem dX6_drawn_18 : decode cX6_drawn 18 = .ok (.i2l, 1) := by decide +kernel
theorem dX6_drawn_19 : decode cX6_drawn 19 = .ok (.lconst 1, 1) := by decide +kernel
theorem dX6_drawn_20 : decode cX6_drawn 20 = .ok (.ldc2_w 127, 3) := by decide +kernel
theorem dX6_drawn_23 : decode cX6_drawn 23 = .ok (.invokestatic 76, 3) := by decide +kernel
theorem dX6_drawn_26 : decode cX6_drawn 26 = .ok (.ifCond .ne 5, 3) := by decide +kernel
theorem dX6_drawn_29 : decode cX6_drawn 29 = .ok (.iconst (-1), 1) := by decide +kernel
theorem dX6_drawn_30 : decode cX6_drawn 30 = .ok (.ireturn, 1) := by decide +kernel
theorem dX6_drawn_31 : decode cX6_drawn 31 = .ok (.iload_n 2, 1) := by decide +kernel
theorem dX6_drawn_32 : decode cX6_drawn 32 = .ok (.iconst (-1), 1) := by decide +kernel
theorem dX6_drawn_33 : decode cX6_drawn 33 = .ok (.if_icmp .ne 11, 3) := by decide +kernel
theorem dX6_drawn_36 : decode cX6_drawn 36 = .ok (.aload_n 0, 1) := by decide +kernel
theorem dX6_drawn_37 : decode cX6_drawn 37 = .ok (.iload_n 1, 1) := by decide +kernel
theorem dX6_drawn_38 : decode cX6_drawn 38 = .ok (.invokevirtual 129, 3) := by decide +kernel
theorem dX6_drawn_41 : decode cX6_drawn 41 = .ok (.goto 14, 3) := by decide +kernel
theorem dX6_drawn_44 : decode cX6_drawn 44 = .ok (.aload_n 0, 1) := by decide +kernel
theorem dX6_drawn_45 : decode cX6_drawn 45 = .ok (.getfield 52, 3) := by decide +kernel
theorem dX6_drawn_48 : decode cX6_drawn 48 = .ok (.bipush 110, 2) := by decide +kernel
theorem dX6_drawn_50 : decode cX6_drawn 50 = .ok (.iload_n 1, 1) := by decide +kernel
theorem dX6_drawn_51 : decode cX6_drawn 51 = .ok (.imul, 1) := by decide +kernel
theorem dX6_drawn_52 : decode cX6_drawn 52 = .ok (.iload_n 2, 1) := by decide +kernel
theorem dX6_drawn_53 : decode cX6_drawn 53 = .ok (.iadd, 1) := by decide +kernel
theorem dX6_drawn_54 : decode cX6_drawn 54 = .ok (.iaload, 1) := by decide +kernel
theorem dX6_drawn_55 : decode cX6_drawn 55 = .ok (.ireturn, 1) := by decide +kernel
theorem dX6_about_0 : decode cX6_about 0 = .ok (.aload_n 0, 1) := by decide +kernel
theorem dX6_about_1 : decode cX6_about 1 = .ok (.iconst 0, 1) := by decide +kernel
theorem dX6_about_2 : decode cX6_about 2 = .ok (.putfield 1, 3) := by decide +kernel
theorem dX6_about_5 : decode cX6_about 5 = .ok (.aload_n 0, 1) := by decide +kernel
theorem dX6_about_6 : decode cX6_about 6 = .ok (.iload_n 1, 1) := by decide +kernel
theorem dX6_about_7 : decode cX6_about 7 = .ok (.invokevirtual 103, 3) := by decide +kernel
theorem dX6_about_10 : decode cX6_about 10 = .ok (.ifCond .eq 5, 3) := by decide +kernel
theorem dX6_about_13 : decode cX6_about 13 = .ok (.iconst (-1), 1) := by decide +kernel
theorem dX6_about_14 : decode cX6_about 14 = .ok (.ireturn, 1) := by decide +kernel
theorem dX6_about_15 : decode cX6_about 15 = .ok (.iload_n 2, 1) := by decide +kernel
theorem dX6_about_16 : decode cX6_about 16 = .ok (.tableswitch 104 0 5 #[40, 47, 62, 84, 91, 98], 40) := by decide +kernel
theorem dX6_about_56 : decode cX6_about 56 = .ok (.aload_n 0, 1) := by decide +kernel
theorem dX6_about_57 : decode cX6_about 57 = .ok (.getfield 36, 3) := by decide +kernel
theorem dX6_about_60 : decode cX6_about 60 = .ok (.iload_n 1, 1) := by decide +kernel
theorem dX6_about_61 : decode cX6_about 61 = .ok (.iaload, 1) := by decide +kernel
theorem dX6_about_62 : decode cX6_about 62 = .ok (.ireturn, 1) := by decide +kernel
theorem dX6_about_63 : decode cX6_about 63 = .ok (.aload_n 0, 1) := by decide +kernel
theorem dX6_about_64 : decode cX6_about 64 = .ok (.getfield 42, 3) := by decide +kernel
theorem dX6_about_67 : decode cX6_about 67 = .ok (.iload_n 1, 1) := by decide +kernel
theorem dX6_about_68 : decode cX6_about 68 = .ok (.baload, 1) := by decide +kernel
theorem dX6_about_69 : decode cX6_about 69 = .ok (.ifCond .eq 7, 3) := by decide +kernel
theorem dX6_about_72 : decode cX6_about 72 = .ok (.iconst 1, 1) := by decide +kernel
theorem dX6_about_73 : decode cX6_about 73 = .ok (.goto 4, 3) := by decide +kernel
theorem dX6_about_76 : decode cX6_about 76 = .ok (.iconst 0, 1) := by decide +kernel
theorem dX6_about_77 : decode cX6_about 77 = .ok (.ireturn, 1) := by decide +kernel
theorem dX6_about_78 : decode cX6_about 78 = .ok (.aload_n 0, 1) := by decide +kernel
theorem dX6_about_79 : decode cX6_about 79 = .ok (.getfield 36, 3) := by decide +kernel
theorem dX6_about_82 : decode cX6_about 82 = .ok (.iload_n 1, 1) := by decide +kernel
theorem dX6_about_83 : decode cX6_about 83 = .ok (.iaload, 1) := by decide +kernel
theorem dX6_about_84 : decode cX6_about 84 = .ok (.iconst 3, 1) := by decide +kernel
theorem dX6_about_85 : decode cX6_about 85 = .ok (.if_icmp .ne 12, 3) := by decide +kernel
theorem dX6_about_88 : decode cX6_about 88 = .ok (.aload_n 0, 1) := by decide +kernel
theorem dX6_about_89 : decode cX6_about 89 = .ok (.getfield 39, 3) := by decide +kernel
theorem dX6_about_92 : decode cX6_about 92 = .ok (.iload_n 1, 1) := by decide +kernel
theorem dX6_about_93 : decode cX6_about 93 = .ok (.iaload, 1) := by decide +kernel
theorem dX6_about_94 : decode cX6_about 94 = .ok (.goto 5, 3) := by decide +kernel
theorem dX6_about_97 : decode cX6_about 97 = .ok (.bipush (-2), 2) := by decide +kernel
theorem dX6_about_99 : decode cX6_about 99 = .ok (.ireturn, 1) := by decide +kernel
theorem dX6_about_100 : decode cX6_about 100 = .ok (.aload_n 0, 1) := by decide +kernel
theorem dX6_about_101 : decode cX6_about 101 = .ok (.getfield 30, 3) := by decide +kernel
theorem dX6_about_104 : decode cX6_about 104 = .ok (.iload_n 1, 1) := by decide +kernel
theorem dX6_about_105 : decode cX6_about 105 = .ok (.iaload, 1) := by decide +kernel
theorem dX6_about_106 : decode cX6_about 106 = .ok (.ireturn, 1) := by decide +kernel
theorem dX6_about_107 : decode cX6_about 107 = .ok (.aload_n 0, 1) := by decide +kernel
theorem dX6_about_108 : decode cX6_about 108 = .ok (.getfield 33, 3) := by decide +kernel
theorem dX6_about_111 : decode cX6_about 111 = .ok (.iload_n 1, 1) := by decide +kernel
theorem dX6_about_112 : decode cX6_about 112 = .ok (.iaload, 1) := by decide +kernel
theorem dX6_about_113 : decode cX6_about 113 = .ok (.ireturn, 1) := by decide +kernel
theorem dX6_about_114 : decode cX6_about 114 = .ok (.aload_n 0, 1) := by decide +kernel
theorem dX6_about_115 : decode cX6_about 115 = .ok (.iload_n 1, 1) := by decide +kernel
theorem dX6_about_116 : decode cX6_about 116 = .ok (.invokevirtual 117, 3) := by decide +kernel
theorem dX6_about_119 : decode cX6_about 119 = .ok (.ireturn, 1) := by decide +kernel
theorem dX6_about_120 : decode cX6_about 120 = .ok (.iconst (-1), 1) := by decide +kernel
theorem dX6_about_121 : decode cX6_about 121 = .ok (.ireturn, 1) := by decide +kernel
theorem dX6_weight_0 : decode cX6_weight 0 = .ok (.aload_n 0, 1) := by decide +kernel
theorem dX6_weight_1 : decode cX6_weight 1 = .ok (.iconst 0, 1) := by decide +kernel
theorem dX6_weight_2 : decode cX6_weight 2 = .ok (.putfield 1, 3) := by decide +kernel
theorem dX6_weight_5 : decode cX6_weight 5 = .ok (.aload_n 0, 1) := by decide +kernel
theorem dX6_weight_6 : decode cX6_weight 6 = .ok (.iload_n 2, 1) := by decide +kernel
theorem dX6_weight_7 : decode cX6_weight 7 = .ok (.invokevirtual 132, 3) := by decide +kernel
theorem dX6_weight_10 : decode cX6_weight 10 = .ok (.ifCond .ne 16, 3) := by decide +kernel
theorem dX6_weight_13 : decode cX6_weight 13 = .ok (.iload_n 1, 1) := by decide +kernel
theorem dX6_weight_14 : decode cX6_weight 14 = .ok (.iconst (-1), 1) := by decide +kernel
theorem dX6_weight_15 : decode cX6_weight 15 = .ok (.if_icmp .eq 13, 3) := by decide +kernel
theorem dX6_weight_18 : decode cX6_weight 18 = .ok (.aload_n 0, 1) := by decide +kernel
theorem dX6_weight_19 : decode cX6_weight 19 = .ok (.iload_n 1, 1) := by decide +kernel
theorem dX6_weight_20 : decode cX6_weight 20 = .ok (.invokevirtual 103, 3) := by decide +kernel
theorem dX6_weight_23 : decode cX6_weight 23 = .ok (.ifCond .eq 5, 3) := by decide +kernel
theorem dX6_weight_26 : decode cX6_weight 26 = .ok (.iconst (-1), 1) := by decide +kernel
theorem dX6_weight_27 : decode cX6_weight 27 = .ok (.ireturn, 1) := by decide +kernel
theorem dX6_weight_28 : decode cX6_weight 28 = .ok (.iload_n 1, 1) := by decide +kernel
theorem dX6_weight_29 : decode cX6_weight 29 = .ok (.iconst (-1), 1) := by decide +kernel
theorem dX6_weight_30 : decode cX6_weight 30 = .ok (.if_icmp .ne 11, 3) := by decide +kernel
theorem dX6_weight_33 : decode cX6_weight 33 = .ok (.aload_n 0, 1) := by decide +kernel
theorem dX6_weight_34 : decode cX6_weight 34 = .ok (.iload_n 2, 1) := by decide +kernel
theorem dX6_weight_35 : decode cX6_weight 35 = .ok (.invokevirtual 106, 3) := by decide +kernel
theorem dX6_weight_38 : decode cX6_weight 38 = .ok (.goto 14, 3) := by decide +kernel
theorem dX6_weight_41 : decode cX6_weight 41 = .ok (.aload_n 0, 1) := by decide +kernel
theorem dX6_weight_42 : decode cX6_weight 42 = .ok (.getfield 55, 3) := by decide +kernel
theorem dX6_weight_45 : decode cX6_weight 45 = .ok (.bipush 8, 2) := by decide +kernel
theorem dX6_weight_47 : decode cX6_weight 47 = .ok (.iload_n 2, 1) := by decide +kernel
theorem dX6_weight_48 : decode cX6_weight 48 = .ok (.imul, 1) := by decide +kernel
theorem dX6_weight_49 : decode cX6_weight 49 = .ok (.iload_n 1, 1) := by decide +kernel
theorem dX6_weight_50 : decode cX6_weight 50 = .ok (.iadd, 1) := by decide +kernel
theorem dX6_weight_51 : decode cX6_weight 51 = .ok (.iaload, 1) := by decide +kernel
theorem dX6_weight_52 : decode cX6_weight 52 = .ok (.ireturn, 1) := by decide +kernel
theorem dX6_reward_0 : decode cX6_reward 0 = .ok (.aload_n 0, 1) := by decide +kernel
theorem dX6_reward_1 : decode cX6_reward 1 = .ok (.iconst 0, 1) := by decide +kernel
theorem dX6_reward_2 : decode cX6_reward 2 = .ok (.putfield 1, 3) := by decide +kernel
theorem dX6_reward_5 : decode cX6_reward 5 = .ok (.iload_n 2, 1) := by decide +kernel
theorem dX6_reward_6 : decode cX6_reward 6 = .ok (.i2l, 1) := by decide +kernel
theorem dX6_reward_7 : decode cX6_reward 7 = .ok (.lconst 0, 1) := by decide +kernel
theorem dX6_reward_8 : decode cX6_reward 8 = .ok (.aload_n 0, 1) := by decide +kernel
theorem dX6_reward_9 : decode cX6_reward 9 = .ok (.getfield 83, 3) := by decide +kernel
theorem dX6_reward_12 : decode cX6_reward 12 = .ok (.iconst 1, 1) := by decide +kernel
theorem dX6_reward_13 : decode cX6_reward 13 = .ok (.isub, 1) := by decide +kernel
theorem dX6_reward_14 : decode cX6_reward 14 = .ok (.i2l, 1) := by decide +kernel
theorem dX6_reward_15 : decode cX6_reward 15 = .ok (.invokestatic 76, 3) := by decide +kernel
theorem dX6_reward_18 : decode cX6_reward 18 = .ok (.ifCond .eq 16, 3) := by decide +kernel
theorem dX6_reward_21 : decode cX6_reward 21 = .ok (.iload_n 1, 1) := by decide +kernel
theorem dX6_reward_22 : decode cX6_reward 22 = .ok (.iconst (-1), 1) := by decide +kernel
theorem dX6_reward_23 : decode cX6_reward 23 = .ok (.if_icmp .eq 13, 3) := by decide +kernel
theorem dX6_reward_26 : decode cX6_reward 26 = .ok (.aload_n 0, 1) := by decide +kernel
theorem dX6_reward_27 : decode cX6_reward 27 = .ok (.iload_n 1, 1) := by decide +kernel
theorem dX6_reward_28 : decode cX6_reward 28 = .ok (.invokevirtual 103, 3) := by decide +kernel
theorem dX6_reward_31 : decode cX6_reward 31 = .ok (.ifCond .eq 5, 3) := by decide +kernel
theorem dX6_reward_34 : decode cX6_reward 34 = .ok (.iconst (-1), 1) := by decide +kernel
theorem dX6_reward_35 : decode cX6_reward 35 = .ok (.ireturn, 1) := by decide +kernel
theorem dX6_reward_36 : decode cX6_reward 36 = .ok (.iload_n 1, 1) := by decide +kernel
theorem dX6_reward_37 : decode cX6_reward 37 = .ok (.iconst (-1), 1) := by decide +kernel
theorem dX6_reward_38 : decode cX6_reward 38 = .ok (.if_icmp .ne 12, 3) := by decide +kernel
theorem dX6_reward_41 : decode cX6_reward 41 = .ok (.aload_n 0, 1) := by decide +kernel
theorem dX6_reward_42 : decode cX6_reward 42 = .ok (.getfield 61, 3) := by decide +kernel
theorem dX6_reward_45 : decode cX6_reward 45 = .ok (.iload_n 2, 1) := by decide +kernel
theorem dX6_reward_46 : decode cX6_reward 46 = .ok (.iaload, 1) := by decide +kernel
theorem dX6_reward_47 : decode cX6_reward 47 = .ok (.goto 14, 3) := by decide +kernel
theorem dX6_reward_50 : decode cX6_reward 50 = .ok (.aload_n 0, 1) := by decide +kernel
theorem dX6_reward_51 : decode cX6_reward 51 = .ok (.getfield 58, 3) := by decide +kernel
theorem dX6_reward_54 : decode cX6_reward 54 = .ok (.bipush 8, 2) := by decide +kernel
theorem dX6_reward_56 : decode cX6_reward 56 = .ok (.iload_n 2, 1) := by decide +kernel
theorem dX6_reward_57 : decode cX6_reward 57 = .ok (.imul, 1) := by decide +kernel
theorem dX6_reward_58 : decode cX6_reward 58 = .ok (.iload_n 1, 1) := by decide +kernel
theorem dX6_reward_59 : decode cX6_reward 59 = .ok (.iadd, 1) := by decide +kernel
theorem dX6_reward_60 : decode cX6_reward 60 = .ok (.iaload, 1) := by decide +kernel
theorem dX6_reward_61 : decode cX6_reward 61 = .ok (.ireturn, 1) := by decide +kernel
theorem dX6_noBits_0 : decode cX6_noBits 0 = .ok (.iload_n 1, 1) := by decide +kernel
theorem dX6_noBits_1 : decode cX6_noBits 1 = .ok (.i2l, 1) := by decide +kernel
theorem dX6_noBits_2 : decode cX6_noBits 2 = .ok (.lconst 0, 1) := by decide +kernel
theorem dX6_noBits_3 : decode cX6_noBits 3 = .ok (.iconst 1, 1) := by decide +kernel
theorem dX6_noBits_4 : decode cX6_noBits 4 = .ok (.aload_n 0, 1) := by decide +kernel
theorem dX6_noBits_5 : decode cX6_noBits 5 = .ok (.getfield 80, 3) := by decide +kernel
theorem dX6_noBits_8 : decode cX6_noBits 8 = .ok (.ishl, 1) := by decide +kernel
theorem dX6_noBits_9 : decode cX6_noBits 9 = .ok (.iconst 1, 1) := by decide +kernel
theorem dX6_noBits_10 : decode cX6_noBits 10 = .ok (.isub, 1) := by decide +kernel
theorem dX6_noBits_11 : decode cX6_noBits 11 = .ok (.i2l, 1) := by decide +kernel
theorem dX6_noBits_12 : decode cX6_noBits 12 = .ok (.invokestatic 76, 3) := by decide +kernel
theorem dX6_noBits_15 : decode cX6_noBits 15 = .ok (.ifCond .ne 7, 3) := by decide +kernel
theorem dX6_noBits_18 : decode cX6_noBits 18 = .ok (.iconst 1, 1) := by decide +kernel
theorem dX6_noBits_19 : decode cX6_noBits 19 = .ok (.goto 4, 3) := by decide +kernel
theorem dX6_noBits_22 : decode cX6_noBits 22 = .ok (.iconst 0, 1) := by decide +kernel
theorem dX6_noBits_23 : decode cX6_noBits 23 = .ok (.ireturn, 1) := by decide +kernel
theorem dX6_weightOf_0 : decode cX6_weightOf 0 = .ok (.iconst 0, 1) := by decide +kernel
theorem dX6_weightOf_1 : decode cX6_weightOf 1 = .ok (.istore_n 3, 1) := by decide +kernel
theorem dX6_weightOf_2 : decode cX6_weightOf 2 = .ok (.iconst 0, 1) := by decide +kernel
theorem dX6_weightOf_3 : decode cX6_weightOf 3 = .ok (.istore 4, 2) := by decide +kernel
theorem dX6_weightOf_5 : decode cX6_weightOf 5 = .ok (.iload 4, 2) := by decide +kernel
theorem dX6_weightOf_7 : decode cX6_weightOf 7 = .ok (.bipush 8, 2) := by decide +kernel
theorem dX6_weightOf_9 : decode cX6_weightOf 9 = .ok (.if_icmp .ge 38, 3) := by decide +kernel
theorem dX6_weightOf_12 : decode cX6_weightOf 12 = .ok (.iload_n 2, 1) := by decide +kernel
theorem dX6_weightOf_13 : decode cX6_weightOf 13 = .ok (.iload 4, 2) := by decide +kernel
theorem dX6_weightOf_15 : decode cX6_weightOf 15 = .ok (.ishr, 1) := by decide +kernel
theorem dX6_weightOf_16 : decode cX6_weightOf 16 = .ok (.iconst 1, 1) := by decide +kernel
theorem dX6_weightOf_17 : decode cX6_weightOf 17 = .ok (.iand, 1) := by decide +kernel
theorem dX6_weightOf_18 : decode cX6_weightOf 18 = .ok (.iconst 1, 1) := by decide +kernel
theorem dX6_weightOf_19 : decode cX6_weightOf 19 = .ok (.if_icmp .ne 20, 3) := by decide +kernel
theorem dX6_weightOf_22 : decode cX6_weightOf 22 = .ok (.iload_n 3, 1) := by decide +kernel
theorem dX6_weightOf_23 : decode cX6_weightOf 23 = .ok (.aload_n 0, 1) := by decide +kernel
theorem dX6_weightOf_24 : decode cX6_weightOf 24 = .ok (.getfield 55, 3) := by decide +kernel
theorem dX6_weightOf_27 : decode cX6_weightOf 27 = .ok (.bipush 8, 2) := by decide +kernel
theorem dX6_weightOf_29 : decode cX6_weightOf 29 = .ok (.iload_n 1, 1) := by decide +kernel
theorem dX6_weightOf_30 : decode cX6_weightOf 30 = .ok (.imul, 1) := by decide +kernel
theorem dX6_weightOf_31 : decode cX6_weightOf 31 = .ok (.iload 4, 2) := by decide +kernel
theorem dX6_weightOf_33 : decode cX6_weightOf 33 = .ok (.iadd, 1) := by decide +kernel
theorem dX6_weightOf_34 : decode cX6_weightOf 34 = .ok (.iaload, 1) := by decide +kernel
theorem dX6_weightOf_35 : decode cX6_weightOf 35 = .ok (.iadd, 1) := by decide +kernel
theorem dX6_weightOf_36 : decode cX6_weightOf 36 = .ok (.goto 4, 3) := by decide +kernel
theorem dX6_weightOf_39 : decode cX6_weightOf 39 = .ok (.iload_n 3, 1) := by decide +kernel
theorem dX6_weightOf_40 : decode cX6_weightOf 40 = .ok (.istore_n 3, 1) := by decide +kernel
theorem dX6_weightOf_41 : decode cX6_weightOf 41 = .ok (.iinc 4 1, 3) := by decide +kernel
theorem dX6_weightOf_44 : decode cX6_weightOf 44 = .ok (.goto (-39), 3) := by decide +kernel
theorem dX6_weightOf_47 : decode cX6_weightOf 47 = .ok (.iload_n 3, 1) := by decide +kernel
theorem dX6_weightOf_48 : decode cX6_weightOf 48 = .ok (.ireturn, 1) := by decide +kernel
theorem dX6_isGood_0 : decode cX6_isGood 0 = .ok (.ldc2_w 135, 3) := by decide +kernel
theorem dX6_isGood_3 : decode cX6_isGood 3 = .ok (.aload_n 0, 1) := by decide +kernel
theorem dX6_isGood_4 : decode cX6_isGood 4 = .ok (.iload_n 1, 1) := by decide +kernel
theorem dX6_isGood_5 : decode cX6_isGood 5 = .ok (.iload_n 2, 1) := by decide +kernel
theorem dX6_isGood_6 : decode cX6_isGood 6 = .ok (.invokevirtual 137, 3) := by decide +kernel
theorem dX6_isGood_9 : decode cX6_isGood 9 = .ok (.i2l, 1) := by decide +kernel
theorem dX6_isGood_10 : decode cX6_isGood 10 = .ok (.lmul, 1) := by decide +kernel
theorem dX6_isGood_11 : decode cX6_isGood 11 = .ok (.ldc2_w 141, 3) := by decide +kernel
theorem dX6_isGood_14 : decode cX6_isGood 14 = .ok (.aload_n 0, 1) := by decide +kernel
theorem dX6_isGood_15 : decode cX6_isGood 15 = .ok (.iload_n 1, 1) := by decide +kernel
theorem dX6_isGood_16 : decode cX6_isGood 16 = .ok (.invokevirtual 106, 3) := by decide +kernel
theorem dX6_isGood_19 : decode cX6_isGood 19 = .ok (.i2l, 1) := by decide +kernel
theorem dX6_isGood_20 : decode cX6_isGood 20 = .ok (.lmul, 1) := by decide +kernel
theorem dX6_isGood_21 : decode cX6_isGood 21 = .ok (.lcmp, 1) := by decide +kernel
theorem dX6_isGood_22 : decode cX6_isGood 22 = .ok (.ifCond .le 7, 3) := by decide +kernel
theorem dX6_isGood_25 : decode cX6_isGood 25 = .ok (.iconst 1, 1) := by decide +kernel
theorem dX6_isGood_26 : decode cX6_isGood 26 = .ok (.goto 4, 3) := by decide +kernel
theorem dX6_isGood_29 : decode cX6_isGood 29 = .ok (.iconst 0, 1) := by decide +kernel
theorem dX6_isGood_30 : decode cX6_isGood 30 = .ok (.ireturn, 1) := by decide +kernel
theorem dX6_may_0 : decode cX6_may 0 = .ok (.aload_n 0, 1) := by decide +kernel
theorem dX6_may_1 : decode cX6_may 1 = .ok (.iload_n 2, 1) := by decide +kernel
theorem dX6_may_2 : decode cX6_may 2 = .ok (.iload_n 3, 1) := by decide +kernel
theorem dX6_may_3 : decode cX6_may 3 = .ok (.invokevirtual 143, 3) := by decide +kernel
theorem dX6_may_6 : decode cX6_may 6 = .ok (.ifCond .eq 28, 3) := by decide +kernel
theorem dX6_may_9 : decode cX6_may 9 = .ok (.ldc2_w 135, 3) := by decide +kernel
theorem dX6_may_12 : decode cX6_may 12 = .ok (.aload_n 0, 1) := by decide +kernel
theorem dX6_may_13 : decode cX6_may 13 = .ok (.iload_n 1, 1) := by decide +kernel
theorem dX6_may_14 : decode cX6_may 14 = .ok (.iload_n 3, 1) := by decide +kernel
theorem dX6_may_15 : decode cX6_may 15 = .ok (.invokevirtual 137, 3) := by decide +kernel
theorem dX6_may_18 : decode cX6_may 18 = .ok (.i2l, 1) := by decide +kernel
theorem dX6_may_19 : decode cX6_may 19 = .ok (.lmul, 1) := by decide +kernel
theorem dX6_may_20 : decode cX6_may 20 = .ok (.aload_n 0, 1) := by decide +kernel
theorem dX6_may_21 : decode cX6_may 21 = .ok (.iload_n 1, 1) := by decide +kernel
theorem dX6_may_22 : decode cX6_may 22 = .ok (.invokevirtual 106, 3) := by decide +kernel
theorem dX6_may_25 : decode cX6_may 25 = .ok (.i2l, 1) := by decide +kernel
theorem dX6_may_26 : decode cX6_may 26 = .ok (.lcmp, 1) := by decide +kernel
theorem dX6_may_27 : decode cX6_may 27 = .ok (.ifCond .le 7, 3) := by decide +kernel
theorem dX6_may_30 : decode cX6_may 30 = .ok (.iconst 1, 1) := by decide +kernel
theorem dX6_may_31 : decode cX6_may 31 = .ok (.goto 4, 3) := by decide +kernel
theorem dX6_may_34 : decode cX6_may 34 = .ok (.iconst 0, 1) := by decide +kernel
theorem dX6_may_35 : decode cX6_may 35 = .ok (.ireturn, 1) := by decide +kernel
theorem dX6_judge_0 : decode cX6_judge 0 = .ok (.aload_n 0, 1) := by decide +kernel
theorem dX6_judge_1 : decode cX6_judge 1 = .ok (.iconst 0, 1) := by decide +kernel
theorem dX6_judge_2 : decode cX6_judge 2 = .ok (.putfield 1, 3) := by decide +kernel
theorem dX6_judge_5 : decode cX6_judge 5 = .ok (.aload_n 0, 1) := by decide +kernel
theorem dX6_judge_6 : decode cX6_judge 6 = .ok (.iload_n 1, 1) := by decide +kernel
theorem dX6_judge_7 : decode cX6_judge 7 = .ok (.invokevirtual 132, 3) := by decide +kernel
theorem dX6_judge_10 : decode cX6_judge 10 = .ok (.ifCond .ne 11, 3) := by decide +kernel
theorem dX6_judge_13 : decode cX6_judge 13 = .ok (.aload_n 0, 1) := by decide +kernel
theorem dX6_judge_14 : decode cX6_judge 14 = .ok (.iload_n 2, 1) := by decide +kernel
theorem dX6_judge_15 : decode cX6_judge 15 = .ok (.invokevirtual 147, 3) := by decide +kernel
theorem dX6_judge_18 : decode cX6_judge 18 = .ok (.ifCond .eq 7, 3) := by decide +kernel
theorem dX6_judge_21 : decode cX6_judge 21 = .ok (.iconst (-1), 1) := by decide +kernel
theorem dX6_judge_22 : decode cX6_judge 22 = .ok (.goto 17, 3) := by decide +kernel
theorem dX6_judge_25 : decode cX6_judge 25 = .ok (.aload_n 0, 1) := by decide +kernel
theorem dX6_judge_26 : decode cX6_judge 26 = .ok (.iload_n 1, 1) := by decide +kernel
theorem dX6_judge_27 : decode cX6_judge 27 = .ok (.iload_n 2, 1) := by decide +kernel
theorem dX6_judge_28 : decode cX6_judge 28 = .ok (.invokevirtual 143, 3) := by decide +kernel
theorem dX6_judge_31 : decode cX6_judge 31 = .ok (.ifCond .eq 7, 3) := by decide +kernel
theorem dX6_judge_34 : decode cX6_judge 34 = .ok (.iconst 1, 1) := by decide +kernel
theorem dX6_judge_35 : decode cX6_judge 35 = .ok (.goto 4, 3) := by decide +kernel
theorem dX6_judge_38 : decode cX6_judge 38 = .ok (.iconst 0, 1) := by decide +kernel
theorem dX6_judge_39 : decode cX6_judge 39 = .ok (.ireturn, 1) := by decide +kernel
theorem dX6_jump_0 : decode cX6_jump 0 = .ok (.aload_n 0, 1) := by decide +kernel
theorem dX6_jump_1 : decode cX6_jump 1 = .ok (.iconst 0, 1) := by decide +kernel
theorem dX6_jump_2 : decode cX6_jump 2 = .ok (.putfield 1, 3) := by decide +kernel
theorem dX6_jump_5 : decode cX6_jump 5 = .ok (.aload_n 0, 1) := by decide +kernel
theorem dX6_jump_6 : decode cX6_jump 6 = .ok (.iload_n 1, 1) := by decide +kernel
theorem dX6_jump_7 : decode cX6_jump 7 = .ok (.invokevirtual 132, 3) := by decide +kernel
theorem dX6_jump_10 : decode cX6_jump 10 = .ok (.ifCond .ne 24, 3) := by decide +kernel
theorem dX6_jump_13 : decode cX6_jump 13 = .ok (.aload_n 0, 1) := by decide +kernel
theorem dX6_jump_14 : decode cX6_jump 14 = .ok (.iload_n 2, 1) := by decide +kernel
theorem dX6_jump_15 : decode cX6_jump 15 = .ok (.invokevirtual 132, 3) := by decide +kernel
theorem dX6_jump_18 : decode cX6_jump 18 = .ok (.ifCond .ne 16, 3) := by decide +kernel
theorem dX6_jump_21 : decode cX6_jump 21 = .ok (.iload_n 1, 1) := by decide +kernel
theorem dX6_jump_22 : decode cX6_jump 22 = .ok (.iload_n 2, 1) := by decide +kernel
theorem dX6_jump_23 : decode cX6_jump 23 = .ok (.if_icmp .ge 11, 3) := by decide +kernel
theorem dX6_jump_26 : decode cX6_jump 26 = .ok (.aload_n 0, 1) := by decide +kernel
theorem dX6_jump_27 : decode cX6_jump 27 = .ok (.iload_n 3, 1) := by decide +kernel
theorem dX6_jump_28 : decode cX6_jump 28 = .ok (.invokevirtual 147, 3) := by decide +kernel
theorem dX6_jump_31 : decode cX6_jump 31 = .ok (.ifCond .eq 7, 3) := by decide +kernel
theorem dX6_jump_34 : decode cX6_jump 34 = .ok (.iconst (-1), 1) := by decide +kernel
theorem dX6_jump_35 : decode cX6_jump 35 = .ok (.goto 18, 3) := by decide +kernel
theorem dX6_jump_38 : decode cX6_jump 38 = .ok (.aload_n 0, 1) := by decide +kernel
theorem dX6_jump_39 : decode cX6_jump 39 = .ok (.iload_n 1, 1) := by decide +kernel
theorem dX6_jump_40 : decode cX6_jump 40 = .ok (.iload_n 2, 1) := by decide +kernel
theorem dX6_jump_41 : decode cX6_jump 41 = .ok (.iload_n 3, 1) := by decide +kernel
theorem dX6_jump_42 : decode cX6_jump 42 = .ok (.invokevirtual 150, 3) := by decide +kernel
theorem dX6_jump_45 : decode cX6_jump 45 = .ok (.ifCond .eq 7, 3) := by decide +kernel
theorem dX6_jump_48 : decode cX6_jump 48 = .ok (.iconst 1, 1) := by decide +kernel
theorem dX6_jump_49 : decode cX6_jump 49 = .ok (.goto 4, 3) := by decide +kernel
theorem dX6_jump_52 : decode cX6_jump 52 = .ok (.iconst 0, 1) := by decide +kernel
theorem dX6_jump_53 : decode cX6_jump 53 = .ok (.ireturn, 1) := by decide +kernel
theorem dX6_overlap_0 : decode cX6_overlap 0 = .ok (.aload_n 0, 1) := by decide +kernel
theorem dX6_overlap_1 : decode cX6_overlap 1 = .ok (.iconst 0, 1) := by decide +kernel
theorem dX6_overlap_2 : decode cX6_overlap 2 = .ok (.putfield 1, 3) := by decide +kernel
theorem dX6_overlap_5 : decode cX6_overlap 5 = .ok (.aload_n 0, 1) := by decide +kernel
theorem dX6_overlap_6 : decode cX6_overlap 6 = .ok (.iload_n 1, 1) := by decide +kernel
theorem dX6_overlap_7 : decode cX6_overlap 7 = .ok (.invokevirtual 132, 3) := by decide +kernel
theorem dX6_overlap_10 : decode cX6_overlap 10 = .ok (.ifCond .ne 11, 3) := by decide +kernel
theorem dX6_overlap_13 : decode cX6_overlap 13 = .ok (.aload_n 0, 1) := by decide +kernel
theorem dX6_overlap_14 : decode cX6_overlap 14 = .ok (.iload_n 2, 1) := by decide +kernel
theorem dX6_overlap_15 : decode cX6_overlap 15 = .ok (.invokevirtual 132, 3) := by decide +kernel
theorem dX6_overlap_18 : decode cX6_overlap 18 = .ok (.ifCond .eq 5, 3) := by decide +kernel
theorem dX6_overlap_21 : decode cX6_overlap 21 = .ok (.iconst (-1), 1) := by decide +kernel
theorem dX6_overlap_22 : decode cX6_overlap 22 = .ok (.ireturn, 1) := by decide +kernel
theorem dX6_overlap_23 : decode cX6_overlap 23 = .ok (.iconst 0, 1) := by decide +kernel
theorem dX6_overlap_24 : decode cX6_overlap 24 = .ok (.istore_n 3, 1) := by decide +kernel
theorem dX6_overlap_25 : decode cX6_overlap 25 = .ok (.iconst 0, 1) := by decide +kernel
theorem dX6_overlap_26 : decode cX6_overlap 26 = .ok (.istore 4, 2) := by decide +kernel
theorem dX6_overlap_28 : decode cX6_overlap 28 = .ok (.iload 4, 2) := by decide +kernel
theorem dX6_overlap_30 : decode cX6_overlap 30 = .ok (.bipush 8, 2) := by decide +kernel
theorem dX6_overlap_32 : decode cX6_overlap 32 = .ok (.if_icmp .ge 54, 3) := by decide +kernel
theorem dX6_overlap_35 : decode cX6_overlap 35 = .ok (.aload_n 0, 1) := by decide +kernel
theorem dX6_overlap_36 : decode cX6_overlap 36 = .ok (.getfield 55, 3) := by decide +kernel
theorem dX6_overlap_39 : decode cX6_overlap 39 = .ok (.bipush 8, 2) := by decide +kernel
theorem dX6_overlap_41 : decode cX6_overlap 41 = .ok (.iload_n 1, 1) := by decide +kernel
theorem dX6_overlap_42 : decode cX6_overlap 42 = .ok (.imul, 1) := by decide +kernel
theorem dX6_overlap_43 : decode cX6_overlap 43 = .ok (.iload 4, 2) := by decide +kernel
theorem dX6_overlap_45 : decode cX6_overlap 45 = .ok (.iadd, 1) := by decide +kernel
theorem dX6_overlap_46 : decode cX6_overlap 46 = .ok (.iaload, 1) := by decide +kernel
theorem dX6_overlap_47 : decode cX6_overlap 47 = .ok (.istore 5, 2) := by decide +kernel
theorem dX6_overlap_49 : decode cX6_overlap 49 = .ok (.aload_n 0, 1) := by decide +kernel
theorem dX6_overlap_50 : decode cX6_overlap 50 = .ok (.getfield 55, 3) := by decide +kernel
theorem dX6_overlap_53 : decode cX6_overlap 53 = .ok (.bipush 8, 2) := by decide +kernel
theorem dX6_overlap_55 : decode cX6_overlap 55 = .ok (.iload_n 2, 1) := by decide +kernel
theorem dX6_overlap_56 : decode cX6_overlap 56 = .ok (.imul, 1) := by decide +kernel
theorem dX6_overlap_57 : decode cX6_overlap 57 = .ok (.iload 4, 2) := by decide +kernel
theorem dX6_overlap_59 : decode cX6_overlap 59 = .ok (.iadd, 1) := by decide +kernel
theorem dX6_overlap_60 : decode cX6_overlap 60 = .ok (.iaload, 1) := by decide +kernel
theorem dX6_overlap_61 : decode cX6_overlap 61 = .ok (.istore 6, 2) := by decide +kernel
theorem dX6_overlap_63 : decode cX6_overlap 63 = .ok (.iload_n 3, 1) := by decide +kernel
theorem dX6_overlap_64 : decode cX6_overlap 64 = .ok (.iload 5, 2) := by decide +kernel
theorem dX6_overlap_66 : decode cX6_overlap 66 = .ok (.iload 6, 2) := by decide +kernel
theorem dX6_overlap_68 : decode cX6_overlap 68 = .ok (.if_icmp .ge 8, 3) := by decide +kernel
theorem dX6_overlap_71 : decode cX6_overlap 71 = .ok (.iload 5, 2) := by decide +kernel
theorem dX6_overlap_73 : decode cX6_overlap 73 = .ok (.goto 5, 3) := by decide +kernel
theorem dX6_overlap_76 : decode cX6_overlap 76 = .ok (.iload 6, 2) := by decide +kernel
theorem dX6_overlap_78 : decode cX6_overlap 78 = .ok (.iadd, 1) := by decide +kernel
theorem dX6_overlap_79 : decode cX6_overlap 79 = .ok (.istore_n 3, 1) := by decide +kernel
theorem dX6_overlap_80 : decode cX6_overlap 80 = .ok (.iinc 4 1, 3) := by decide +kernel
theorem dX6_overlap_83 : decode cX6_overlap 83 = .ok (.goto (-55), 3) := by decide +kernel
theorem dX6_overlap_86 : decode cX6_overlap 86 = .ok (.iload_n 3, 1) := by decide +kernel
theorem dX6_overlap_87 : decode cX6_overlap 87 = .ok (.ireturn, 1) := by decide +kernel
theorem dX6_present_0 : decode cX6_present 0 = .ok (.iconst 0, 1) := by decide +kernel
theorem dX6_present_1 : decode cX6_present 1 = .ok (.istore_n 2, 1) := by decide +kernel
theorem dX6_present_2 : decode cX6_present 2 = .ok (.iconst 0, 1) := by decide +kernel
theorem dX6_present_3 : decode cX6_present 3 = .ok (.istore_n 3, 1) := by decide +kernel
theorem dX6_present_4 : decode cX6_present 4 = .ok (.iload_n 3, 1) := by decide +kernel
theorem dX6_present_5 : decode cX6_present 5 = .ok (.bipush 8, 2) := by decide +kernel
theorem dX6_present_7 : decode cX6_present 7 = .ok (.if_icmp .ge 33, 3) := by decide +kernel
theorem dX6_present_10 : decode cX6_present 10 = .ok (.aload_n 0, 1) := by decide +kernel
theorem dX6_present_11 : decode cX6_present 11 = .ok (.getfield 55, 3) := by decide +kernel
theorem dX6_present_14 : decode cX6_present 14 = .ok (.bipush 8, 2) := by decide +kernel
theorem dX6_present_16 : decode cX6_present 16 = .ok (.iload_n 1, 1) := by decide +kernel
theorem dX6_present_17 : decode cX6_present 17 = .ok (.imul, 1) := by decide +kernel
theorem dX6_present_18 : decode cX6_present 18 = .ok (.iload_n 3, 1) := by decide +kernel
theorem dX6_present_19 : decode cX6_present 19 = .ok (.iadd, 1) := by decide +kernel
theorem dX6_present_20 : decode cX6_present 20 = .ok (.iaload, 1) := by decide +kernel
theorem dX6_present_21 : decode cX6_present 21 = .ok (.ifCond .le 11, 3) := by decide +kernel
theorem dX6_present_24 : decode cX6_present 24 = .ok (.iload_n 2, 1) := by decide +kernel
theorem dX6_present_25 : decode cX6_present 25 = .ok (.iconst 1, 1) := by decide +kernel
theorem dX6_present_26 : decode cX6_present 26 = .ok (.iload_n 3, 1) := by decide +kernel
theorem dX6_present_27 : decode cX6_present 27 = .ok (.ishl, 1) := by decide +kernel
theorem dX6_present_28 : decode cX6_present 28 = .ok (.ior, 1) := by decide +kernel
theorem dX6_present_29 : decode cX6_present 29 = .ok (.goto 4, 3) := by decide +kernel
theorem dX6_present_32 : decode cX6_present 32 = .ok (.iload_n 2, 1) := by decide +kernel
theorem dX6_present_33 : decode cX6_present 33 = .ok (.istore_n 2, 1) := by decide +kernel
theorem dX6_present_34 : decode cX6_present 34 = .ok (.iinc 3 1, 3) := by decide +kernel
theorem dX6_present_37 : decode cX6_present 37 = .ok (.goto (-33), 3) := by decide +kernel
theorem dX6_present_40 : decode cX6_present 40 = .ok (.iload_n 2, 1) := by decide +kernel
theorem dX6_present_41 : decode cX6_present 41 = .ok (.ireturn, 1) := by decide +kernel
theorem dX6_nextOf_0 : decode cX6_nextOf 0 = .ok (.bipush (-2), 2) := by decide +kernel
theorem dX6_nextOf_2 : decode cX6_nextOf 2 = .ok (.istore_n 3, 1) := by decide +kernel
theorem dX6_nextOf_3 : decode cX6_nextOf 3 = .ok (.iload_n 1, 1) := by decide +kernel
theorem dX6_nextOf_4 : decode cX6_nextOf 4 = .ok (.iconst 1, 1) := by decide +kernel
theorem dX6_nextOf_5 : decode cX6_nextOf 5 = .ok (.iadd, 1) := by decide +kernel
theorem dX6_nextOf_6 : decode cX6_nextOf 6 = .ok (.istore 4, 2) := by decide +kernel
theorem dX6_nextOf_8 : decode cX6_nextOf 8 = .ok (.iload 4, 2) := by decide +kernel
theorem dX6_nextOf_10 : decode cX6_nextOf 10 = .ok (.iload_n 2, 1) := by decide +kernel
theorem dX6_nextOf_11 : decode cX6_nextOf 11 = .ok (.if_icmp .gt 63, 3) := by decide +kernel
theorem dX6_nextOf_14 : decode cX6_nextOf 14 = .ok (.aload_n 0, 1) := by decide +kernel
theorem dX6_nextOf_15 : decode cX6_nextOf 15 = .ok (.getfield 71, 3) := by decide +kernel
theorem dX6_nextOf_18 : decode cX6_nextOf 18 = .ok (.iload 4, 2) := by decide +kernel
theorem dX6_nextOf_20 : decode cX6_nextOf 20 = .ok (.iaload, 1) := by decide +kernel
theorem dX6_nextOf_21 : decode cX6_nextOf 21 = .ok (.sipush 200, 3) := by decide +kernel
theorem dX6_nextOf_24 : decode cX6_nextOf 24 = .ok (.if_icmp .ge 44, 3) := by decide +kernel
theorem dX6_nextOf_27 : decode cX6_nextOf 27 = .ok (.aload_n 0, 1) := by decide +kernel
theorem dX6_nextOf_28 : decode cX6_nextOf 28 = .ok (.iload_n 1, 1) := by decide +kernel
theorem dX6_nextOf_29 : decode cX6_nextOf 29 = .ok (.iload 4, 2) := by decide +kernel
theorem dX6_nextOf_31 : decode cX6_nextOf 31 = .ok (.aload_n 0, 1) := by decide +kernel
theorem dX6_nextOf_32 : decode cX6_nextOf 32 = .ok (.iload 4, 2) := by decide +kernel
theorem dX6_nextOf_34 : decode cX6_nextOf 34 = .ok (.invokevirtual 154, 3) := by decide +kernel
theorem dX6_nextOf_37 : decode cX6_nextOf 37 = .ok (.invokevirtual 150, 3) := by decide +kernel
theorem dX6_nextOf_40 : decode cX6_nextOf 40 = .ok (.ifCond .eq 28, 3) := by decide +kernel
theorem dX6_nextOf_43 : decode cX6_nextOf 43 = .ok (.iload_n 3, 1) := by decide +kernel
theorem dX6_nextOf_44 : decode cX6_nextOf 44 = .ok (.bipush (-2), 2) := by decide +kernel
theorem dX6_nextOf_46 : decode cX6_nextOf 46 = .ok (.if_icmp .eq 19, 3) := by decide +kernel
theorem dX6_nextOf_49 : decode cX6_nextOf 49 = .ok (.aload_n 0, 1) := by decide +kernel
theorem dX6_nextOf_50 : decode cX6_nextOf 50 = .ok (.getfield 71, 3) := by decide +kernel
theorem dX6_nextOf_53 : decode cX6_nextOf 53 = .ok (.iload 4, 2) := by decide +kernel
theorem dX6_nextOf_55 : decode cX6_nextOf 55 = .ok (.iaload, 1) := by decide +kernel
theorem dX6_nextOf_56 : decode cX6_nextOf 56 = .ok (.aload_n 0, 1) := by decide +kernel
theorem dX6_nextOf_57 : decode cX6_nextOf 57 = .ok (.getfield 71, 3) := by decide +kernel
theorem dX6_nextOf_60 : decode cX6_nextOf 60 = .ok (.iload_n 3, 1) := by decide +kernel
theorem dX6_nextOf_61 : decode cX6_nextOf 61 = .ok (.iaload, 1) := by decide +kernel
theorem dX6_nextOf_62 : decode cX6_nextOf 62 = .ok (.if_icmp .gt 6, 3) := by decide +kernel
theorem dX6_nextOf_65 : decode cX6_nextOf 65 = .ok (.iload 4, 2) := by decide +kernel
theorem dX6_nextOf_67 : decode cX6_nextOf 67 = .ok (.istore_n 3, 1) := by decide +kernel
theorem dX6_nextOf_68 : decode cX6_nextOf 68 = .ok (.iinc 4 1, 3) := by decide +kernel
theorem dX6_nextOf_71 : decode cX6_nextOf 71 = .ok (.goto (-63), 3) := by decide +kernel
theorem dX6_nextOf_74 : decode cX6_nextOf 74 = .ok (.iload_n 3, 1) := by decide +kernel
theorem dX6_nextOf_75 : decode cX6_nextOf 75 = .ok (.ireturn, 1) := by decide +kernel
theorem dX6_way_0 : decode cX6_way 0 = .ok (.aload_n 0, 1) := by decide +kernel
theorem dX6_way_1 : decode cX6_way 1 = .ok (.iconst 0, 1) := by decide +kernel
theorem dX6_way_2 : decode cX6_way 2 = .ok (.putfield 1, 3) := by decide +kernel
theorem dX6_way_5 : decode cX6_way 5 = .ok (.aload_n 0, 1) := by decide +kernel
theorem dX6_way_6 : decode cX6_way 6 = .ok (.iload_n 1, 1) := by decide +kernel
theorem dX6_way_7 : decode cX6_way 7 = .ok (.invokevirtual 132, 3) := by decide +kernel
theorem dX6_way_10 : decode cX6_way 10 = .ok (.ifCond .ne 16, 3) := by decide +kernel
theorem dX6_way_13 : decode cX6_way 13 = .ok (.aload_n 0, 1) := by decide +kernel
theorem dX6_way_14 : decode cX6_way 14 = .ok (.iload_n 2, 1) := by decide +kernel
theorem dX6_way_15 : decode cX6_way 15 = .ok (.invokevirtual 132, 3) := by decide +kernel
theorem dX6_way_18 : decode cX6_way 18 = .ok (.ifCond .ne 8, 3) := by decide +kernel
theorem dX6_way_21 : decode cX6_way 21 = .ok (.iload_n 1, 1) := by decide +kernel
theorem dX6_way_22 : decode cX6_way 22 = .ok (.iload_n 2, 1) := by decide +kernel
theorem dX6_way_23 : decode cX6_way 23 = .ok (.if_icmp .lt 5, 3) := by decide +kernel
theorem dX6_way_26 : decode cX6_way 26 = .ok (.iconst (-1), 1) := by decide +kernel
theorem dX6_way_27 : decode cX6_way 27 = .ok (.ireturn, 1) := by decide +kernel
theorem dX6_way_28 : decode cX6_way 28 = .ok (.aload_n 0, 1) := by decide +kernel
theorem dX6_way_29 : decode cX6_way 29 = .ok (.getfield 71, 3) := by decide +kernel
theorem dX6_way_32 : decode cX6_way 32 = .ok (.iload_n 2, 1) := by decide +kernel
theorem dX6_way_33 : decode cX6_way 33 = .ok (.iconst 0, 1) := by decide +kernel
theorem dX6_way_34 : decode cX6_way 34 = .ok (.iastore, 1) := by decide +kernel
theorem dX6_way_35 : decode cX6_way 35 = .ok (.iload_n 2, 1) := by decide +kernel
theorem dX6_way_36 : decode cX6_way 36 = .ok (.iconst 1, 1) := by decide +kernel
theorem dX6_way_37 : decode cX6_way 37 = .ok (.isub, 1) := by decide +kernel
theorem dX6_way_38 : decode cX6_way 38 = .ok (.istore 4, 2) := by decide +kernel
theorem dX6_way_40 : decode cX6_way 40 = .ok (.iload 4, 2) := by decide +kernel
theorem dX6_way_42 : decode cX6_way 42 = .ok (.iload_n 1, 1) := by decide +kernel
theorem dX6_way_43 : decode cX6_way 43 = .ok (.if_icmp .lt 47, 3) := by decide +kernel
theorem dX6_way_46 : decode cX6_way 46 = .ok (.aload_n 0, 1) := by decide +kernel
theorem dX6_way_47 : decode cX6_way 47 = .ok (.iload 4, 2) := by decide +kernel
theorem dX6_way_49 : decode cX6_way 49 = .ok (.iload_n 2, 1) := by decide +kernel
theorem dX6_way_50 : decode cX6_way 50 = .ok (.invokevirtual 157, 3) := by decide +kernel
theorem dX6_way_53 : decode cX6_way 53 = .ok (.istore 5, 2) := by decide +kernel
theorem dX6_way_55 : decode cX6_way 55 = .ok (.aload_n 0, 1) := by decide +kernel
theorem dX6_way_56 : decode cX6_way 56 = .ok (.getfield 71, 3) := by decide +kernel
theorem dX6_way_59 : decode cX6_way 59 = .ok (.iload 4, 2) := by decide +kernel
theorem dX6_way_61 : decode cX6_way 61 = .ok (.iload 5, 2) := by decide +kernel
theorem dX6_way_63 : decode cX6_way 63 = .ok (.bipush (-2), 2) := by decide +kernel
theorem dX6_way_65 : decode cX6_way 65 = .ok (.if_icmp .ne 9, 3) := by decide +kernel
theorem dX6_way_68 : decode cX6_way 68 = .ok (.sipush 200, 3) := by decide +kernel
theorem dX6_way_71 : decode cX6_way 71 = .ok (.goto 12, 3) := by decide +kernel
theorem dX6_way_74 : decode cX6_way 74 = .ok (.iconst 1, 1) := by decide +kernel
theorem dX6_way_75 : decode cX6_way 75 = .ok (.aload_n 0, 1) := by decide +kernel
theorem dX6_way_76 : decode cX6_way 76 = .ok (.getfield 71, 3) := by decide +kernel
theorem dX6_way_79 : decode cX6_way 79 = .ok (.iload 5, 2) := by decide +kernel
theorem dX6_way_81 : decode cX6_way 81 = .ok (.iaload, 1) := by decide +kernel
theorem dX6_way_82 : decode cX6_way 82 = .ok (.iadd, 1) := by decide +kernel
theorem dX6_way_83 : decode cX6_way 83 = .ok (.iastore, 1) := by decide +kernel
theorem dX6_way_84 : decode cX6_way 84 = .ok (.iinc 4 (-1), 3) := by decide +kernel
theorem dX6_way_87 : decode cX6_way 87 = .ok (.goto (-47), 3) := by decide +kernel
theorem dX6_way_90 : decode cX6_way 90 = .ok (.aload_n 0, 1) := by decide +kernel
theorem dX6_way_91 : decode cX6_way 91 = .ok (.getfield 71, 3) := by decide +kernel
theorem dX6_way_94 : decode cX6_way 94 = .ok (.iload_n 1, 1) := by decide +kernel
theorem dX6_way_95 : decode cX6_way 95 = .ok (.iaload, 1) := by decide +kernel
theorem dX6_way_96 : decode cX6_way 96 = .ok (.sipush 200, 3) := by decide +kernel
theorem dX6_way_99 : decode cX6_way 99 = .ok (.if_icmp .ne 6, 3) := by decide +kernel
theorem dX6_way_102 : decode cX6_way 102 = .ok (.bipush (-2), 2) := by decide +kernel
theorem dX6_way_104 : decode cX6_way 104 = .ok (.ireturn, 1) := by decide +kernel
theorem dX6_way_105 : decode cX6_way 105 = .ok (.iload_n 3, 1) := by decide +kernel
theorem dX6_way_106 : decode cX6_way 106 = .ok (.i2l, 1) := by decide +kernel
theorem dX6_way_107 : decode cX6_way 107 = .ok (.ldc2_w 160, 3) := by decide +kernel
theorem dX6_way_110 : decode cX6_way 110 = .ok (.aload_n 0, 1) := by decide +kernel
theorem dX6_way_111 : decode cX6_way 111 = .ok (.getfield 71, 3) := by decide +kernel
theorem dX6_way_114 : decode cX6_way 114 = .ok (.iload_n 1, 1) := by decide +kernel
theorem dX6_way_115 : decode cX6_way 115 = .ok (.iaload, 1) := by decide +kernel
theorem dX6_way_116 : decode cX6_way 116 = .ok (.i2l, 1) := by decide +kernel
theorem dX6_way_117 : decode cX6_way 117 = .ok (.invokestatic 76, 3) := by decide +kernel
theorem dX6_way_120 : decode cX6_way 120 = .ok (.ifCond .ne 5, 3) := by decide +kernel
theorem dX6_way_123 : decode cX6_way 123 = .ok (.iconst (-1), 1) := by decide +kernel
theorem dX6_way_124 : decode cX6_way 124 = .ok (.ireturn, 1) := by decide +kernel
theorem dX6_way_125 : decode cX6_way 125 = .ok (.iload_n 1, 1) := by decide +kernel
theorem dX6_way_126 : decode cX6_way 126 = .ok (.istore 4, 2) := by decide +kernel
theorem dX6_way_128 : decode cX6_way 128 = .ok (.iconst 0, 1) := by decide +kernel
theorem dX6_way_129 : decode cX6_way 129 = .ok (.istore 5, 2) := by decide +kernel
theorem dX6_way_131 : decode cX6_way 131 = .ok (.iload 5, 2) := by decide +kernel
theorem dX6_way_133 : decode cX6_way 133 = .ok (.iload_n 3, 1) := by decide +kernel
theorem dX6_way_134 : decode cX6_way 134 = .ok (.if_icmp .ge 18, 3) := by decide +kernel
theorem dX6_way_137 : decode cX6_way 137 = .ok (.aload_n 0, 1) := by decide +kernel
theorem dX6_way_138 : decode cX6_way 138 = .ok (.iload 4, 2) := by decide +kernel
theorem dX6_way_140 : decode cX6_way 140 = .ok (.iload_n 2, 1) := by decide +kernel
theorem dX6_way_141 : decode cX6_way 141 = .ok (.invokevirtual 157, 3) := by decide +kernel
theorem dX6_way_144 : decode cX6_way 144 = .ok (.istore 4, 2) := by decide +kernel
theorem dX6_way_146 : decode cX6_way 146 = .ok (.iinc 5 1, 3) := by decide +kernel
theorem dX6_way_149 : decode cX6_way 149 = .ok (.goto (-18), 3) := by decide +kernel
theorem dX6_way_152 : decode cX6_way 152 = .ok (.iload_n 3, 1) := by decide +kernel
theorem dX6_way_153 : decode cX6_way 153 = .ok (.iconst (-1), 1) := by decide +kernel
theorem dX6_way_154 : decode cX6_way 154 = .ok (.if_icmp .ne 12, 3) := by decide +kernel
theorem dX6_way_157 : decode cX6_way 157 = .ok (.aload_n 0, 1) := by decide +kernel
theorem dX6_way_158 : decode cX6_way 158 = .ok (.getfield 71, 3) := by decide +kernel
theorem dX6_way_161 : decode cX6_way 161 = .ok (.iload_n 1, 1) := by decide +kernel
theorem dX6_way_162 : decode cX6_way 162 = .ok (.iaload, 1) := by decide +kernel
theorem dX6_way_163 : decode cX6_way 163 = .ok (.goto 5, 3) := by decide +kernel
theorem dX6_way_166 : decode cX6_way 166 = .ok (.iload 4, 2) := by decide +kernel
theorem dX6_way_168 : decode cX6_way 168 = .ok (.ireturn, 1) := by decide +kernel
theorem dX6_count_0 : decode cX6_count 0 = .ok (.aload_n 0, 1) := by decide +kernel
theorem dX6_count_1 : decode cX6_count 1 = .ok (.iconst 0, 1) := by decide +kernel
theorem dX6_count_2 : decode cX6_count 2 = .ok (.putfield 1, 3) := by decide +kernel
theorem dX6_count_5 : decode cX6_count 5 = .ok (.iconst 0, 1) := by decide +kernel
theorem dX6_count_6 : decode cX6_count 6 = .ok (.istore_n 2, 1) := by decide +kernel
theorem dX6_count_7 : decode cX6_count 7 = .ok (.iload_n 1, 1) := by decide +kernel
theorem dX6_count_8 : decode cX6_count 8 = .ok (.tableswitch 179 0 10 #[60, 65, 70, 75, 80, 80, 80, 159, 164, 169, 174], 60) := by decide +kernel
theorem dX6_count_68 : decode cX6_count 68 = .ok (.aload_n 0, 1) := by decide +kernel
theorem dX6_count_69 : decode cX6_count 69 = .ok (.getfield 83, 3) := by decide +kernel
theorem dX6_count_72 : decode cX6_count 72 = .ok (.ireturn, 1) := by decide +kernel
theorem dX6_count_73 : decode cX6_count 73 = .ok (.aload_n 0, 1) := by decide +kernel
theorem dX6_count_74 : decode cX6_count 74 = .ok (.getfield 80, 3) := by decide +kernel
theorem dX6_count_77 : decode cX6_count 77 = .ok (.ireturn, 1) := by decide +kernel
theorem dX6_count_78 : decode cX6_count 78 = .ok (.aload_n 0, 1) := by decide +kernel
theorem dX6_count_79 : decode cX6_count 79 = .ok (.getfield 98, 3) := by decide +kernel
theorem dX6_count_82 : decode cX6_count 82 = .ok (.ireturn, 1) := by decide +kernel
theorem dX6_count_83 : decode cX6_count 83 = .ok (.aload_n 0, 1) := by decide +kernel
theorem dX6_count_84 : decode cX6_count 84 = .ok (.getfield 114, 3) := by decide +kernel
theorem dX6_count_87 : decode cX6_count 87 = .ok (.ireturn, 1) := by decide +kernel
theorem dX6_count_88 : decode cX6_count 88 = .ok (.iconst 0, 1) := by decide +kernel
theorem dX6_count_89 : decode cX6_count 89 = .ok (.istore_n 3, 1) := by decide +kernel
theorem dX6_count_90 : decode cX6_count 90 = .ok (.iload_n 3, 1) := by decide +kernel
theorem dX6_count_91 : decode cX6_count 91 = .ok (.bipush 10, 2) := by decide +kernel
theorem dX6_count_93 : decode cX6_count 93 = .ok (.if_icmp .ge 43, 3) := by decide +kernel
theorem dX6_count_96 : decode cX6_count 96 = .ok (.iload_n 1, 1) := by decide +kernel
theorem dX6_count_97 : decode cX6_count 97 = .ok (.iconst 4, 1) := by decide +kernel
theorem dX6_count_98 : decode cX6_count 98 = .ok (.if_icmp .ne 14, 3) := by decide +kernel
theorem dX6_count_101 : decode cX6_count 101 = .ok (.iload_n 2, 1) := by decide +kernel
theorem dX6_count_102 : decode cX6_count 102 = .ok (.aload_n 0, 1) := by decide +kernel
theorem dX6_count_103 : decode cX6_count 103 = .ok (.getfield 26, 3) := by decide +kernel
theorem dX6_count_106 : decode cX6_count 106 = .ok (.iload_n 3, 1) := by decide +kernel
theorem dX6_count_107 : decode cX6_count 107 = .ok (.iaload, 1) := by decide +kernel
theorem dX6_count_108 : decode cX6_count 108 = .ok (.iadd, 1) := by decide +kernel
theorem dX6_count_109 : decode cX6_count 109 = .ok (.goto 20, 3) := by decide +kernel
theorem dX6_count_112 : decode cX6_count 112 = .ok (.iload_n 1, 1) := by decide +kernel
theorem dX6_count_113 : decode cX6_count 113 = .ok (.bipush 6, 2) := by decide +kernel
theorem dX6_count_115 : decode cX6_count 115 = .ok (.if_icmp .ne 13, 3) := by decide +kernel
theorem dX6_count_118 : decode cX6_count 118 = .ok (.iload_n 2, 1) := by decide +kernel
theorem dX6_count_119 : decode cX6_count 119 = .ok (.aload_n 0, 1) := by decide +kernel
theorem dX6_count_120 : decode cX6_count 120 = .ok (.iload_n 3, 1) := by decide +kernel
theorem dX6_count_121 : decode cX6_count 121 = .ok (.invokevirtual 129, 3) := by decide +kernel
theorem dX6_count_124 : decode cX6_count 124 = .ok (.iadd, 1) := by decide +kernel
theorem dX6_count_125 : decode cX6_count 125 = .ok (.goto 4, 3) := by decide +kernel
theorem dX6_count_128 : decode cX6_count 128 = .ok (.iload_n 2, 1) := by decide +kernel
theorem dX6_count_129 : decode cX6_count 129 = .ok (.istore_n 2, 1) := by decide +kernel
theorem dX6_count_130 : decode cX6_count 130 = .ok (.iinc 3 1, 3) := by decide +kernel
theorem dX6_count_133 : decode cX6_count 133 = .ok (.goto (-43), 3) := by decide +kernel
theorem dX6_count_136 : decode cX6_count 136 = .ok (.iconst 0, 1) := by decide +kernel
theorem dX6_count_137 : decode cX6_count 137 = .ok (.istore_n 3, 1) := by decide +kernel
theorem dX6_count_138 : decode cX6_count 138 = .ok (.iload_n 3, 1) := by decide +kernel
theorem dX6_count_139 : decode cX6_count 139 = .ok (.aload_n 0, 1) := by decide +kernel
theorem dX6_count_140 : decode cX6_count 140 = .ok (.getfield 80, 3) := by decide +kernel
theorem dX6_count_143 : decode cX6_count 143 = .ok (.if_icmp .ge 22, 3) := by decide +kernel
theorem dX6_count_146 : decode cX6_count 146 = .ok (.iload_n 1, 1) := by decide +kernel
theorem dX6_count_147 : decode cX6_count 147 = .ok (.iconst 5, 1) := by decide +kernel
theorem dX6_count_148 : decode cX6_count 148 = .ok (.if_icmp .ne 17, 3) := by decide +kernel
theorem dX6_count_151 : decode cX6_count 151 = .ok (.iload_n 2, 1) := by decide +kernel
theorem dX6_count_152 : decode cX6_count 152 = .ok (.aload_n 0, 1) := by decide +kernel
theorem dX6_count_153 : decode cX6_count 153 = .ok (.iload_n 3, 1) := by decide +kernel
theorem dX6_count_154 : decode cX6_count 154 = .ok (.invokevirtual 117, 3) := by decide +kernel
theorem dX6_count_157 : decode cX6_count 157 = .ok (.iadd, 1) := by decide +kernel
theorem dX6_count_158 : decode cX6_count 158 = .ok (.istore_n 2, 1) := by decide +kernel
theorem dX6_count_159 : decode cX6_count 159 = .ok (.iinc 3 1, 3) := by decide +kernel
theorem dX6_count_162 : decode cX6_count 162 = .ok (.goto (-24), 3) := by decide +kernel
theorem dX6_count_165 : decode cX6_count 165 = .ok (.iload_n 2, 1) := by decide +kernel
theorem dX6_count_166 : decode cX6_count 166 = .ok (.ireturn, 1) := by decide +kernel
theorem dX6_count_167 : decode cX6_count 167 = .ok (.aload_n 0, 1) := by decide +kernel
theorem dX6_count_168 : decode cX6_count 168 = .ok (.getfield 13, 3) := by decide +kernel
theorem dX6_count_171 : decode cX6_count 171 = .ok (.ireturn, 1) := by decide +kernel
theorem dX6_count_172 : decode cX6_count 172 = .ok (.aload_n 0, 1) := by decide +kernel
theorem dX6_count_173 : decode cX6_count 173 = .ok (.getfield 16, 3) := by decide +kernel
theorem dX6_count_176 : decode cX6_count 176 = .ok (.ireturn, 1) := by decide +kernel
theorem dX6_count_177 : decode cX6_count 177 = .ok (.aload_n 0, 1) := by decide +kernel
theorem dX6_count_178 : decode cX6_count 178 = .ok (.getfield 19, 3) := by decide +kernel
theorem dX6_count_181 : decode cX6_count 181 = .ok (.ireturn, 1) := by decide +kernel
theorem dX6_count_182 : decode cX6_count 182 = .ok (.aload_n 0, 1) := by decide +kernel
theorem dX6_count_183 : decode cX6_count 183 = .ok (.getfield 23, 3) := by decide +kernel
theorem dX6_count_186 : decode cX6_count 186 = .ok (.ireturn, 1) := by decide +kernel
theorem dX6_count_187 : decode cX6_count 187 = .ok (.iconst (-1), 1) := by decide +kernel
theorem dX6_count_188 : decode cX6_count 188 = .ok (.ireturn, 1) := by decide +kernel
end
section
def bg_A : List Cond := lw_tbl.filter goodWord
theorem bg_in {w : Cond} (h : w ∈ tables_1) (g : goodWord w = true) : w ∈ bg_A := List.mem_filter.mpr ⟨List.mem_append_right _ h, g⟩
theorem bg_1 {w : Cond} (h : w ∈ tables_1_1) (g : goodWord w = true) : w ∈ bg_A := bg_in (List.mem_append_left _ h) g
theorem bg_2 {w : Cond} (h : w ∈ tables_1_2) (g : goodWord w = true) : w ∈ bg_A := bg_in (List.mem_append_right _ (List.mem_append_left _ h)) g
theorem bg_3 {w : Cond} (h : w ∈ tables_1_3) (g : goodWord w = true) : w ∈ bg_A := bg_in (List.mem_append_right _ (List.mem_append_right _ h)) g
theorem bw_0 : Cond.initialized RL ∈ bg_A := bg_1 (List.mem_of_getElem? (i := 0) rfl) rfl
theorem bw_1 : Cond.initialized RX5 ∈ bg_A := bg_1 (List.mem_of_getElem? (i := 1) rfl) rfl
theorem bw_2 : Cond.initialized RX0 ∈ bg_A := bg_1 (List.mem_of_getElem? (i := 2) rfl) rfl
theorem bw_3 : Cond.initialized RX1 ∈ bg_A := bg_1 (List.mem_of_getElem? (i := 3) rfl) rfl
theorem bw_4 : Cond.initialized RX2 ∈ bg_A := bg_1 (List.mem_of_getElem? (i := 4) rfl) rfl
theorem bw_5 : Cond.initialized RX3 ∈ bg_A := bg_1 (List.mem_of_getElem? (i := 5) rfl) rfl
theorem bw_6 : Cond.initialized RX4 ∈ bg_A := bg_1 (List.mem_of_getElem? (i := 6) rfl) rfl
theorem bw_7 : Cond.initialized RX6 ∈ bg_A := bg_1 (List.mem_of_getElem? (i := 7) rfl) rfl
theorem bw_8 : Cond.initialized "java/lang/System" ∈ bg_A := bg_1 (List.mem_of_getElem? (i := 8) rfl) rfl
theorem bw_9 : Cond.initialized "java/lang/Math" ∈ bg_A := bg_1 (List.mem_of_getElem? (i := 9) rfl) rfl
theorem bw_10 : Cond.classLink RL 7 RX5 ∈ bg_A := bg_1 (List.mem_of_getElem? (i := 10) rfl) rfl
theorem bw_11 : Cond.instantiable RX5 7 ∈ bg_A := bg_1 (List.mem_of_getElem? (i := 11) rfl) rfl
theorem bw_12 : Cond.methodLink RL 9 yX5_init ∈ bg_A := bg_1 (List.mem_of_getElem? (i := 12) rfl) rfl
theorem bw_13 : Cond.instanceMethod yX5_init ∈ bg_A := bg_1 (List.mem_of_getElem? (i := 13) rfl) rfl
theorem bw_14 : Cond.code yX5_init cX5_init 1 (Option.none : Option Jvm.ClassFile.FieldType) ∈ bg_A := bg_1 (List.mem_of_getElem? (i := 14) rfl) rfl
theorem bw_15 : Cond.methodLink RX5 1 objectInit ∈ bg_A := bg_1 (List.mem_of_getElem? (i := 15) rfl) rfl
theorem bw_16 : Cond.instanceMethod objectInit ∈ bg_A := bg_1 (List.mem_of_getElem? (i := 16) rfl) rfl
theorem bw_17 : Cond.code objectInit ⟨#[0xb1]⟩ 1 none ∈ bg_A := bg_1 (List.mem_of_getElem? (i := 17) rfl) rfl
theorem bw_18 : Cond.constant RX5 13 1000000 ∈ bg_A := bg_1 (List.mem_of_getElem? (i := 18) rfl) rfl
theorem bw_19 : Cond.classLink RX5 18 RX0 ∈ bg_A := bg_1 (List.mem_of_getElem? (i := 19) rfl) rfl
theorem bw_20 : Cond.instantiable RX0 5 ∈ bg_A := bg_1 (List.mem_of_getElem? (i := 20) rfl) rfl
theorem bw_22 : Cond.instanceMethod yX0_init ∈ bg_A := bg_1 (List.mem_of_getElem? (i := 22) rfl) rfl
theorem bw_23 : Cond.code yX0_init cX0_init 1 (Option.none : Option Jvm.ClassFile.FieldType) ∈ bg_A := bg_1 (List.mem_of_getElem? (i := 23) rfl) rfl
theorem bw_24 : Cond.methodLink RX0 3 objectInit ∈ bg_A := bg_1 (List.mem_of_getElem? (i := 24) rfl) rfl
theorem bw_25 : Cond.fieldLink RX5 68 "NodeWeights$Book" "funded" "I" ∈ bg_A := bg_1 (List.mem_of_getElem? (i := 25) rfl) rfl
theorem bw_26 : Cond.fieldLink RX5 173 "NodeWeights$Book" "rewarded" "I" ∈ bg_A := bg_1 (List.mem_of_getElem? (i := 26) rfl) rfl
theorem bw_27 : Cond.fieldLink RX0 9 "NodeWeights$Book" "balance" "[I" ∈ bg_A := bg_1 (List.mem_of_getElem? (i := 27) rfl) rfl
theorem bw_28 : Cond.fieldLink RX5 71 "NodeWeights$Book" "balance" "[I" ∈ bg_A := bg_1 (List.mem_of_getElem? (i := 28) rfl) rfl
theorem bw_29 : Cond.fieldLink RX0 15 "NodeWeights$Book" "stakes" "[I" ∈ bg_A := bg_1 (List.mem_of_getElem? (i := 29) rfl) rfl
theorem bw_30 : Cond.fieldLink RX5 87 "NodeWeights$Book" "stakes" "[I" ∈ bg_A := bg_1 (List.mem_of_getElem? (i := 30) rfl) rfl
theorem bw_31 : Cond.fieldLink RX0 18 "NodeWeights$Book" "due" "[I" ∈ bg_A := bg_1 (List.mem_of_getElem? (i := 31) rfl) rfl
theorem bw_32 : Cond.fieldLink RX5 94 "NodeWeights$Book" "due" "[I" ∈ bg_A := bg_1 (List.mem_of_getElem? (i := 32) rfl) rfl
theorem bw_33 : Cond.lays "NodeWeights$Book" "NodeWeights$Book" "funded" "I" ∈ bg_A := bg_1 (List.mem_of_getElem? (i := 33) rfl) rfl
theorem bw_35 : Cond.lays "NodeWeights$Book" "NodeWeights$Book" "rewarded" "I" ∈ bg_A := bg_1 (List.mem_of_getElem? (i := 35) rfl) rfl
theorem bw_37 : Cond.laysFinal "NodeWeights$Book" "NodeWeights$Book" "balance" "[I" ∈ bg_A := bg_1 (List.mem_of_getElem? (i := 37) rfl) rfl
theorem bw_39 : Cond.laysFinal "NodeWeights$Book" "NodeWeights$Book" "stakes" "[I" ∈ bg_A := bg_1 (List.mem_of_getElem? (i := 39) rfl) rfl
theorem bw_41 : Cond.laysFinal "NodeWeights$Book" "NodeWeights$Book" "due" "[I" ∈ bg_A := bg_1 (List.mem_of_getElem? (i := 41) rfl) rfl
theorem bw_44 : Cond.arrayClass FieldType.int ∈ bg_A := bg_1 (List.mem_of_getElem? (i := 44) rfl) rfl
theorem bw_45 : Cond.classLink RX5 25 RX1 ∈ bg_A := bg_1 (List.mem_of_getElem? (i := 45) rfl) rfl
theorem bw_46 : Cond.instantiable RX1 6 ∈ bg_A := bg_1 (List.mem_of_getElem? (i := 46) rfl) rfl
theorem bw_48 : Cond.instanceMethod yX1_init ∈ bg_A := bg_1 (List.mem_of_getElem? (i := 48) rfl) rfl
theorem bw_49 : Cond.code yX1_init cX1_init 1 (Option.none : Option Jvm.ClassFile.FieldType) ∈ bg_A := bg_1 (List.mem_of_getElem? (i := 49) rfl) rfl
theorem bw_50 : Cond.methodLink RX1 3 objectInit ∈ bg_A := bg_1 (List.mem_of_getElem? (i := 50) rfl) rfl
theorem bw_51 : Cond.fieldLink RX1 28 "NodeWeights$Nodes" "size" "I" ∈ bg_A := bg_1 (List.mem_of_getElem? (i := 51) rfl) rfl
theorem bw_52 : Cond.fieldLink RX5 74 "NodeWeights$Nodes" "size" "I" ∈ bg_A := bg_1 (List.mem_of_getElem? (i := 52) rfl) rfl
theorem bw_53 : Cond.fieldLink RX1 9 "NodeWeights$Nodes" "keeper" "[I" ∈ bg_A := bg_1 (List.mem_of_getElem? (i := 53) rfl) rfl
theorem bw_54 : Cond.fieldLink RX5 119 "NodeWeights$Nodes" "keeper" "[I" ∈ bg_A := bg_1 (List.mem_of_getElem? (i := 54) rfl) rfl
theorem bw_55 : Cond.fieldLink RX1 15 "NodeWeights$Nodes" "cut" "[I" ∈ bg_A := bg_1 (List.mem_of_getElem? (i := 55) rfl) rfl
theorem bw_56 : Cond.fieldLink RX5 122 "NodeWeights$Nodes" "cut" "[I" ∈ bg_A := bg_1 (List.mem_of_getElem? (i := 56) rfl) rfl
theorem bw_57 : Cond.fieldLink RX1 18 "NodeWeights$Nodes" "state" "[I" ∈ bg_A := bg_1 (List.mem_of_getElem? (i := 57) rfl) rfl
theorem bw_58 : Cond.fieldLink RX5 103 "NodeWeights$Nodes" "state" "[I" ∈ bg_A := bg_1 (List.mem_of_getElem? (i := 58) rfl) rfl
theorem bw_59 : Cond.fieldLink RX1 21 "NodeWeights$Nodes" "leavesAt" "[I" ∈ bg_A := bg_1 (List.mem_of_getElem? (i := 59) rfl) rfl
theorem bw_60 : Cond.fieldLink RX5 106 "NodeWeights$Nodes" "leavesAt" "[I" ∈ bg_A := bg_1 (List.mem_of_getElem? (i := 60) rfl) rfl
theorem bw_61 : Cond.fieldLink RX1 24 "NodeWeights$Nodes" "frozen" "[Z" ∈ bg_A := bg_1 (List.mem_of_getElem? (i := 61) rfl) rfl
theorem bw_62 : Cond.fieldLink RX5 90 "NodeWeights$Nodes" "frozen" "[Z" ∈ bg_A := bg_1 (List.mem_of_getElem? (i := 62) rfl) rfl
theorem bw_63 : Cond.lays "NodeWeights$Nodes" "NodeWeights$Nodes" "size" "I" ∈ bg_A := bg_1 (List.mem_of_getElem? (i := 63) rfl) rfl
theorem bw_65 : Cond.laysFinal "NodeWeights$Nodes" "NodeWeights$Nodes" "keeper" "[I" ∈ bg_A := bg_1 (List.mem_of_getElem? (i := 65) rfl) rfl
theorem bw_67 : Cond.laysFinal "NodeWeights$Nodes" "NodeWeights$Nodes" "cut" "[I" ∈ bg_A := bg_1 (List.mem_of_getElem? (i := 67) rfl) rfl
theorem bw_69 : Cond.laysFinal "NodeWeights$Nodes" "NodeWeights$Nodes" "state" "[I" ∈ bg_A := bg_1 (List.mem_of_getElem? (i := 69) rfl) rfl
theorem bw_71 : Cond.laysFinal "NodeWeights$Nodes" "NodeWeights$Nodes" "leavesAt" "[I" ∈ bg_A := bg_1 (List.mem_of_getElem? (i := 71) rfl) rfl
theorem bw_73 : Cond.laysFinal "NodeWeights$Nodes" "NodeWeights$Nodes" "frozen" "[Z" ∈ bg_A := bg_1 (List.mem_of_getElem? (i := 73) rfl) rfl
theorem bw_76 : Cond.arrayClass FieldType.boolean ∈ bg_A := bg_1 (List.mem_of_getElem? (i := 76) rfl) rfl
theorem bw_77 : Cond.classLink RX5 32 RX2 ∈ bg_A := bg_1 (List.mem_of_getElem? (i := 77) rfl) rfl
theorem bw_78 : Cond.instantiable RX2 5 ∈ bg_A := bg_1 (List.mem_of_getElem? (i := 78) rfl) rfl
theorem bw_80 : Cond.instanceMethod yX2_init ∈ bg_A := bg_1 (List.mem_of_getElem? (i := 80) rfl) rfl
theorem bw_81 : Cond.code yX2_init cX2_init 1 (Option.none : Option Jvm.ClassFile.FieldType) ∈ bg_A := bg_1 (List.mem_of_getElem? (i := 81) rfl) rfl
theorem bw_82 : Cond.methodLink RX2 3 objectInit ∈ bg_A := bg_1 (List.mem_of_getElem? (i := 82) rfl) rfl
theorem bw_83 : Cond.fieldLink RX2 9 "NodeWeights$Sets" "weights" "[I" ∈ bg_A := bg_1 (List.mem_of_getElem? (i := 83) rfl) rfl
theorem bw_84 : Cond.fieldLink RX5 134 "NodeWeights$Sets" "weights" "[I" ∈ bg_A := bg_1 (List.mem_of_getElem? (i := 84) rfl) rfl
theorem bw_85 : Cond.fieldLink RX2 15 "NodeWeights$Sets" "rewards" "[I" ∈ bg_A := bg_1 (List.mem_of_getElem? (i := 85) rfl) rfl
theorem bw_86 : Cond.fieldLink RX5 143 "NodeWeights$Sets" "rewards" "[I" ∈ bg_A := bg_1 (List.mem_of_getElem? (i := 86) rfl) rfl
theorem bw_87 : Cond.fieldLink RX2 18 "NodeWeights$Sets" "all" "[I" ∈ bg_A := bg_1 (List.mem_of_getElem? (i := 87) rfl) rfl
theorem bw_88 : Cond.fieldLink RX5 131 "NodeWeights$Sets" "all" "[I" ∈ bg_A := bg_1 (List.mem_of_getElem? (i := 88) rfl) rfl
theorem bw_89 : Cond.fieldLink RX2 21 "NodeWeights$Sets" "bearers" "[I" ∈ bg_A := bg_1 (List.mem_of_getElem? (i := 89) rfl) rfl
theorem bw_90 : Cond.fieldLink RX4 26 "NodeWeights$Sets" "bearers" "[I" ∈ bg_A := bg_1 (List.mem_of_getElem? (i := 90) rfl) rfl
theorem bw_91 : Cond.fieldLink RX2 24 "NodeWeights$Sets" "fixedStakes" "[I" ∈ bg_A := bg_1 (List.mem_of_getElem? (i := 91) rfl) rfl
theorem bw_92 : Cond.fieldLink RX5 219 "NodeWeights$Sets" "fixedStakes" "[I" ∈ bg_A := bg_1 (List.mem_of_getElem? (i := 92) rfl) rfl
theorem bw_93 : Cond.laysFinal "NodeWeights$Sets" "NodeWeights$Sets" "weights" "[I" ∈ bg_A := bg_1 (List.mem_of_getElem? (i := 93) rfl) rfl
theorem bw_95 : Cond.laysFinal "NodeWeights$Sets" "NodeWeights$Sets" "rewards" "[I" ∈ bg_A := bg_1 (List.mem_of_getElem? (i := 95) rfl) rfl
theorem bw_97 : Cond.laysFinal "NodeWeights$Sets" "NodeWeights$Sets" "all" "[I" ∈ bg_A := bg_1 (List.mem_of_getElem? (i := 97) rfl) rfl
theorem bw_99 : Cond.laysFinal "NodeWeights$Sets" "NodeWeights$Sets" "bearers" "[I" ∈ bg_A := bg_1 (List.mem_of_getElem? (i := 99) rfl) rfl
theorem bw_101 : Cond.laysFinal "NodeWeights$Sets" "NodeWeights$Sets" "fixedStakes" "[I" ∈ bg_A := bg_1 (List.mem_of_getElem? (i := 101) rfl) rfl
theorem bw_104 : Cond.classLink RX5 39 RX3 ∈ bg_A := bg_1 (List.mem_of_getElem? (i := 104) rfl) rfl
theorem bw_105 : Cond.instantiable RX3 2 ∈ bg_A := bg_1 (List.mem_of_getElem? (i := 105) rfl) rfl
theorem bw_107 : Cond.instanceMethod yX3_init ∈ bg_A := bg_1 (List.mem_of_getElem? (i := 107) rfl) rfl
theorem bw_108 : Cond.code yX3_init cX3_init 1 (Option.none : Option Jvm.ClassFile.FieldType) ∈ bg_A := bg_1 (List.mem_of_getElem? (i := 108) rfl) rfl
theorem bw_109 : Cond.methodLink RX3 3 objectInit ∈ bg_A := bg_1 (List.mem_of_getElem? (i := 109) rfl) rfl
theorem bw_110 : Cond.fieldLink RX3 9 "NodeWeights$Sharer" "given" "[I" ∈ bg_A := bg_1 (List.mem_of_getElem? (i := 110) rfl) rfl
theorem bw_111 : Cond.fieldLink RX5 206 "NodeWeights$Sharer" "given" "[I" ∈ bg_A := bg_1 (List.mem_of_getElem? (i := 111) rfl) rfl
theorem bw_112 : Cond.fieldLink RX3 15 "NodeWeights$Sharer" "rest" "[J" ∈ bg_A := bg_1 (List.mem_of_getElem? (i := 112) rfl) rfl
theorem bw_113 : Cond.laysFinal "NodeWeights$Sharer" "NodeWeights$Sharer" "given" "[I" ∈ bg_A := bg_1 (List.mem_of_getElem? (i := 113) rfl) rfl
theorem bw_115 : Cond.laysFinal "NodeWeights$Sharer" "NodeWeights$Sharer" "rest" "[J" ∈ bg_A := bg_1 (List.mem_of_getElem? (i := 115) rfl) rfl
theorem bw_118 : Cond.arrayClass FieldType.long ∈ bg_A := bg_1 (List.mem_of_getElem? (i := 118) rfl) rfl
theorem bw_119 : Cond.classLink RX5 46 RX4 ∈ bg_A := bg_1 (List.mem_of_getElem? (i := 119) rfl) rfl
theorem bw_120 : Cond.instantiable RX4 2 ∈ bg_A := bg_1 (List.mem_of_getElem? (i := 120) rfl) rfl
theorem bw_122 : Cond.instanceMethod yX4_init ∈ bg_A := bg_1 (List.mem_of_getElem? (i := 122) rfl) rfl
theorem bw_123 : Cond.code yX4_init cX4_init 1 (Option.none : Option Jvm.ClassFile.FieldType) ∈ bg_A := bg_1 (List.mem_of_getElem? (i := 123) rfl) rfl
theorem bw_124 : Cond.methodLink RX4 3 objectInit ∈ bg_A := bg_1 (List.mem_of_getElem? (i := 124) rfl) rfl
theorem bw_125 : Cond.fieldLink RX4 9 "NodeWeights$Ways" "jumps" "[I" ∈ bg_A := bg_1 (List.mem_of_getElem? (i := 125) rfl) rfl
theorem bw_126 : Cond.fieldLink RX5 166 "NodeWeights$Ways" "jumps" "[I" ∈ bg_A := bg_1 (List.mem_of_getElem? (i := 126) rfl) rfl
theorem bw_127 : Cond.fieldLink RX4 15 "NodeWeights$Ways" "next" "[I" ∈ bg_A := bg_1 (List.mem_of_getElem? (i := 127) rfl) rfl
theorem bw_128 : Cond.laysFinal "NodeWeights$Ways" "NodeWeights$Ways" "jumps" "[I" ∈ bg_A := bg_1 (List.mem_of_getElem? (i := 128) rfl) rfl
theorem bw_130 : Cond.laysFinal "NodeWeights$Ways" "NodeWeights$Ways" "next" "[I" ∈ bg_A := bg_1 (List.mem_of_getElem? (i := 130) rfl) rfl
theorem bw_133 : Cond.fieldLink RX5 7 "NodeWeights" "now" "I" ∈ bg_A := bg_1 (List.mem_of_getElem? (i := 133) rfl) rfl
theorem bw_134 : Cond.fieldLink RX5 14 "NodeWeights" "rules" "[I" ∈ bg_A := bg_1 (List.mem_of_getElem? (i := 134) rfl) rfl
theorem bw_135 : Cond.fieldLink RX5 21 "NodeWeights" "book" "LNodeWeights$Book;" ∈ bg_A := bg_1 (List.mem_of_getElem? (i := 135) rfl) rfl
theorem bw_136 : Cond.fieldLink RX5 28 "NodeWeights" "nodes" "LNodeWeights$Nodes;" ∈ bg_A := bg_1 (List.mem_of_getElem? (i := 136) rfl) rfl
theorem bw_137 : Cond.fieldLink RX5 35 "NodeWeights" "sets" "LNodeWeights$Sets;" ∈ bg_A := bg_1 (List.mem_of_getElem? (i := 137) rfl) rfl
theorem bw_138 : Cond.fieldLink RX5 42 "NodeWeights" "sharer" "LNodeWeights$Sharer;" ∈ bg_A := bg_1 (List.mem_of_getElem? (i := 138) rfl) rfl
theorem bw_139 : Cond.fieldLink RX5 49 "NodeWeights" "ways" "LNodeWeights$Ways;" ∈ bg_A := bg_1 (List.mem_of_getElem? (i := 139) rfl) rfl
theorem bw_140 : Cond.lays "NodeWeights" "NodeWeights" "now" "I" ∈ bg_A := bg_1 (List.mem_of_getElem? (i := 140) rfl) rfl
theorem bw_142 : Cond.laysFinal "NodeWeights" "NodeWeights" "rules" "[I" ∈ bg_A := bg_1 (List.mem_of_getElem? (i := 142) rfl) rfl
theorem bw_144 : Cond.laysFinal "NodeWeights" "NodeWeights" "book" "LNodeWeights$Book;" ∈ bg_A := bg_1 (List.mem_of_getElem? (i := 144) rfl) rfl
theorem bw_146 : Cond.laysFinal "NodeWeights" "NodeWeights" "nodes" "LNodeWeights$Nodes;" ∈ bg_A := bg_1 (List.mem_of_getElem? (i := 146) rfl) rfl
theorem bw_148 : Cond.laysFinal "NodeWeights" "NodeWeights" "sets" "LNodeWeights$Sets;" ∈ bg_A := bg_1 (List.mem_of_getElem? (i := 148) rfl) rfl
theorem bw_150 : Cond.laysFinal "NodeWeights" "NodeWeights" "sharer" "LNodeWeights$Sharer;" ∈ bg_A := bg_1 (List.mem_of_getElem? (i := 150) rfl) rfl
theorem bw_152 : Cond.laysFinal "NodeWeights" "NodeWeights" "ways" "LNodeWeights$Ways;" ∈ bg_A := bg_1 (List.mem_of_getElem? (i := 152) rfl) rfl
theorem bw_155 : Cond.methodLink RL 13 yX5_rule ∈ bg_A := bg_1 (List.mem_of_getElem? (i := 155) rfl) rfl
theorem bw_156 : Cond.instanceMethod yX5_rule ∈ bg_A := bg_1 (List.mem_of_getElem? (i := 156) rfl) rfl
theorem bw_157 : Cond.selects RX5 yX5_rule yX5_rule ∈ bg_A := bg_1 (List.mem_of_getElem? (i := 157) rfl) rfl
theorem bw_158 : Cond.code yX5_rule cX5_rule 4 (some FieldType.int) ∈ bg_A := bg_1 (List.mem_of_getElem? (i := 158) rfl) rfl
theorem bw_159 : Cond.fieldLink RX5 53 "NodeWeights" "RULE_LEAST" "[I" ∈ bg_A := bg_1 (List.mem_of_getElem? (i := 159) rfl) rfl
theorem bw_161 : Cond.fieldLink RX5 56 "NodeWeights" "RULE_MOST" "[I" ∈ bg_A := bg_1 (List.mem_of_getElem? (i := 161) rfl) rfl
theorem bw_163 : Cond.methodLink RX5 59 yX5_isWithin ∈ bg_A := bg_1 (List.mem_of_getElem? (i := 163) rfl) rfl
theorem bw_164 : Cond.static yX5_isWithin ∈ bg_A := bg_1 (List.mem_of_getElem? (i := 164) rfl) rfl
theorem bw_165 : Cond.code yX5_isWithin cX5_isWithin 3 (some FieldType.boolean) ∈ bg_A := bg_1 (List.mem_of_getElem? (i := 165) rfl) rfl
theorem bw_166 : Cond.methodLink RL 18 yX5_fund ∈ bg_A := bg_1 (List.mem_of_getElem? (i := 166) rfl) rfl
theorem bw_167 : Cond.instanceMethod yX5_fund ∈ bg_A := bg_1 (List.mem_of_getElem? (i := 167) rfl) rfl
theorem bw_168 : Cond.selects RX5 yX5_fund yX5_fund ∈ bg_A := bg_1 (List.mem_of_getElem? (i := 168) rfl) rfl
theorem bw_169 : Cond.code yX5_fund cX5_fund 3 (some FieldType.int) ∈ bg_A := bg_1 (List.mem_of_getElem? (i := 169) rfl) rfl
theorem bw_170 : Cond.methodLink RX5 63 yX5_isAccount ∈ bg_A := bg_1 (List.mem_of_getElem? (i := 170) rfl) rfl
theorem bw_171 : Cond.static yX5_isAccount ∈ bg_A := bg_1 (List.mem_of_getElem? (i := 171) rfl) rfl
theorem bw_172 : Cond.code yX5_isAccount cX5_isAccount 1 (some FieldType.boolean) ∈ bg_A := bg_1 (List.mem_of_getElem? (i := 172) rfl) rfl
theorem bw_173 : Cond.constant RX5 67 100000 ∈ bg_A := bg_1 (List.mem_of_getElem? (i := 173) rfl) rfl
theorem bw_174 : Cond.methodLink RL 22 yX5_node ∈ bg_A := bg_1 (List.mem_of_getElem? (i := 174) rfl) rfl
theorem bw_175 : Cond.instanceMethod yX5_node ∈ bg_A := bg_1 (List.mem_of_getElem? (i := 175) rfl) rfl
theorem bw_176 : Cond.selects RX5 yX5_node yX5_node ∈ bg_A := bg_1 (List.mem_of_getElem? (i := 176) rfl) rfl
theorem bw_177 : Cond.code yX5_node cX5_node 3 (some FieldType.int) ∈ bg_A := bg_1 (List.mem_of_getElem? (i := 177) rfl) rfl
theorem bw_178 : Cond.methodLink RX5 77 yX1_open ∈ bg_A := bg_1 (List.mem_of_getElem? (i := 178) rfl) rfl
theorem bw_179 : Cond.instanceMethod yX1_open ∈ bg_A := bg_1 (List.mem_of_getElem? (i := 179) rfl) rfl
theorem bw_180 : Cond.selects RX1 yX1_open yX1_open ∈ bg_A := bg_1 (List.mem_of_getElem? (i := 180) rfl) rfl
theorem bw_181 : Cond.code yX1_open cX1_open 4 (some FieldType.int) ∈ bg_A := bg_1 (List.mem_of_getElem? (i := 181) rfl) rfl
theorem bw_182 : Cond.methodLink RL 26 yX5_stake ∈ bg_A := bg_1 (List.mem_of_getElem? (i := 182) rfl) rfl
theorem bw_183 : Cond.instanceMethod yX5_stake ∈ bg_A := bg_1 (List.mem_of_getElem? (i := 183) rfl) rfl
theorem bw_184 : Cond.selects RX5 yX5_stake yX5_stake ∈ bg_A := bg_1 (List.mem_of_getElem? (i := 184) rfl) rfl
theorem bw_185 : Cond.code yX5_stake cX5_stake 5 (some FieldType.int) ∈ bg_A := bg_1 (List.mem_of_getElem? (i := 185) rfl) rfl
theorem bw_186 : Cond.methodLink RX5 81 yX5_isMove ∈ bg_A := bg_1 (List.mem_of_getElem? (i := 186) rfl) rfl
theorem bw_188 : Cond.instanceMethod yX5_isMove ∈ bg_A := bg_1 (List.mem_of_getElem? (i := 188) rfl) rfl
theorem bw_189 : Cond.code yX5_isMove cX5_isMove 4 (some FieldType.boolean) ∈ bg_A := bg_1 (List.mem_of_getElem? (i := 189) rfl) rfl
theorem bw_190 : Cond.methodLink RX5 100 yX1_has ∈ bg_A := bg_1 (List.mem_of_getElem? (i := 190) rfl) rfl
theorem bw_191 : Cond.instanceMethod yX1_has ∈ bg_A := bg_1 (List.mem_of_getElem? (i := 191) rfl) rfl
theorem bw_192 : Cond.selects RX1 yX1_has yX1_has ∈ bg_A := bg_1 (List.mem_of_getElem? (i := 192) rfl) rfl
theorem bw_193 : Cond.code yX1_has cX1_has 2 (some FieldType.boolean) ∈ bg_A := bg_1 (List.mem_of_getElem? (i := 193) rfl) rfl
theorem bw_194 : Cond.methodLink RX5 84 yX5_stakePlace ∈ bg_A := bg_1 (List.mem_of_getElem? (i := 194) rfl) rfl
theorem bw_195 : Cond.static yX5_stakePlace ∈ bg_A := bg_1 (List.mem_of_getElem? (i := 195) rfl) rfl
theorem bw_196 : Cond.code yX5_stakePlace cX5_stakePlace 2 (some FieldType.int) ∈ bg_A := bg_1 (List.mem_of_getElem? (i := 196) rfl) rfl
theorem bw_197 : Cond.methodLink RL 31 yX5_draw ∈ bg_A := bg_1 (List.mem_of_getElem? (i := 197) rfl) rfl
theorem bw_198 : Cond.instanceMethod yX5_draw ∈ bg_A := bg_1 (List.mem_of_getElem? (i := 198) rfl) rfl
theorem bw_199 : Cond.selects RX5 yX5_draw yX5_draw ∈ bg_A := bg_1 (List.mem_of_getElem? (i := 199) rfl) rfl
theorem bw_200 : Cond.code yX5_draw cX5_draw 5 (some FieldType.int) ∈ bg_A := bg_1 (List.mem_of_getElem? (i := 200) rfl) rfl
theorem bw_201 : Cond.methodLink RX5 97 yX5_duePlace ∈ bg_A := bg_1 (List.mem_of_getElem? (i := 201) rfl) rfl
theorem bw_202 : Cond.static yX5_duePlace ∈ bg_A := bg_1 (List.mem_of_getElem? (i := 202) rfl) rfl
theorem bw_203 : Cond.code yX5_duePlace cX5_duePlace 2 (some FieldType.int) ∈ bg_A := bg_1 (List.mem_of_getElem? (i := 203) rfl) rfl
theorem bw_204 : Cond.methodLink RL 35 yX5_join ∈ bg_A := bg_1 (List.mem_of_getElem? (i := 204) rfl) rfl
theorem bw_205 : Cond.instanceMethod yX5_join ∈ bg_A := bg_1 (List.mem_of_getElem? (i := 205) rfl) rfl
theorem bw_206 : Cond.selects RX5 yX5_join yX5_join ∈ bg_A := bg_1 (List.mem_of_getElem? (i := 206) rfl) rfl
theorem bw_207 : Cond.code yX5_join cX5_join 2 (some FieldType.int) ∈ bg_A := bg_1 (List.mem_of_getElem? (i := 207) rfl) rfl
theorem bw_208 : Cond.methodLink RL 40 yX5_leave ∈ bg_A := bg_1 (List.mem_of_getElem? (i := 208) rfl) rfl
theorem bw_209 : Cond.instanceMethod yX5_leave ∈ bg_A := bg_1 (List.mem_of_getElem? (i := 209) rfl) rfl
theorem bw_210 : Cond.selects RX5 yX5_leave yX5_leave ∈ bg_A := bg_1 (List.mem_of_getElem? (i := 210) rfl) rfl
theorem bw_211 : Cond.code yX5_leave cX5_leave 2 (some FieldType.int) ∈ bg_A := bg_1 (List.mem_of_getElem? (i := 211) rfl) rfl
theorem bw_212 : Cond.methodLink RL 44 yX5_freeze ∈ bg_A := bg_1 (List.mem_of_getElem? (i := 212) rfl) rfl
theorem bw_213 : Cond.instanceMethod yX5_freeze ∈ bg_A := bg_1 (List.mem_of_getElem? (i := 213) rfl) rfl
theorem bw_214 : Cond.selects RX5 yX5_freeze yX5_freeze ∈ bg_A := bg_1 (List.mem_of_getElem? (i := 214) rfl) rfl
theorem bw_215 : Cond.code yX5_freeze cX5_freeze 4 (some FieldType.int) ∈ bg_A := bg_1 (List.mem_of_getElem? (i := 215) rfl) rfl
theorem bw_216 : Cond.methodLink RL 49 yX5_advance ∈ bg_A := bg_1 (List.mem_of_getElem? (i := 216) rfl) rfl
theorem bw_217 : Cond.instanceMethod yX5_advance ∈ bg_A := bg_1 (List.mem_of_getElem? (i := 217) rfl) rfl
theorem bw_218 : Cond.selects RX5 yX5_advance yX5_advance ∈ bg_A := bg_1 (List.mem_of_getElem? (i := 218) rfl) rfl
theorem bw_219 : Cond.code yX5_advance cX5_advance 3 (some FieldType.int) ∈ bg_A := bg_1 (List.mem_of_getElem? (i := 219) rfl) rfl
theorem bw_220 : Cond.methodLink RX5 109 yX5_beginNextHeight ∈ bg_A := bg_1 (List.mem_of_getElem? (i := 220) rfl) rfl
theorem bw_222 : Cond.instanceMethod yX5_beginNextHeight ∈ bg_A := bg_1 (List.mem_of_getElem? (i := 222) rfl) rfl
theorem bw_223 : Cond.code yX5_beginNextHeight cX5_beginNextHeight 1 (Option.none : Option Jvm.ClassFile.FieldType) ∈ bg_A := bg_1 (List.mem_of_getElem? (i := 223) rfl) rfl
theorem bw_224 : Cond.methodLink RX5 186 yX5_giveRewards ∈ bg_A := bg_1 (List.mem_of_getElem? (i := 224) rfl) rfl
theorem bw_226 : Cond.instanceMethod yX5_giveRewards ∈ bg_A := bg_1 (List.mem_of_getElem? (i := 226) rfl) rfl
theorem bw_227 : Cond.code yX5_giveRewards cX5_giveRewards 3 (Option.none : Option Jvm.ClassFile.FieldType) ∈ bg_A := bg_1 (List.mem_of_getElem? (i := 227) rfl) rfl
theorem bw_228 : Cond.methodLink RX5 137 yX5_setPlace ∈ bg_A := bg_1 (List.mem_of_getElem? (i := 228) rfl) rfl
theorem bw_229 : Cond.static yX5_setPlace ∈ bg_A := bg_1 (List.mem_of_getElem? (i := 229) rfl) rfl
theorem bw_230 : Cond.code yX5_setPlace cX5_setPlace 2 (some FieldType.int) ∈ bg_A := bg_1 (List.mem_of_getElem? (i := 230) rfl) rfl
theorem bw_231 : Cond.methodLink RX5 199 yX5_pot ∈ bg_A := bg_1 (List.mem_of_getElem? (i := 231) rfl) rfl
theorem bw_233 : Cond.instanceMethod yX5_pot ∈ bg_A := bg_1 (List.mem_of_getElem? (i := 233) rfl) rfl
theorem bw_234 : Cond.code yX5_pot cX5_pot 3 (some FieldType.int) ∈ bg_A := bg_1 (List.mem_of_getElem? (i := 234) rfl) rfl
theorem bw_235 : Cond.methodLink RX5 202 yX3_split ∈ bg_A := bg_1 (List.mem_of_getElem? (i := 235) rfl) rfl
theorem bw_236 : Cond.instanceMethod yX3_split ∈ bg_A := bg_1 (List.mem_of_getElem? (i := 236) rfl) rfl
theorem bw_237 : Cond.selects RX3 yX3_split yX3_split ∈ bg_A := bg_1 (List.mem_of_getElem? (i := 237) rfl) rfl
theorem bw_238 : Cond.code yX3_split cX3_split 11 (Option.none : Option Jvm.ClassFile.FieldType) ∈ bg_A := bg_1 (List.mem_of_getElem? (i := 238) rfl) rfl
theorem bw_239 : Cond.methodLink RX3 19 yX3_giveOneByRest ∈ bg_A := bg_1 (List.mem_of_getElem? (i := 239) rfl) rfl
theorem bw_240 : Cond.instanceMethod yX3_giveOneByRest ∈ bg_A := bg_2 (List.mem_of_getElem? (i := 0) rfl) rfl
theorem bw_241 : Cond.selects RX3 yX3_giveOneByRest yX3_giveOneByRest ∈ bg_A := bg_2 (List.mem_of_getElem? (i := 1) rfl) rfl
theorem bw_242 : Cond.code yX3_giveOneByRest cX3_giveOneByRest 4 (Option.none : Option Jvm.ClassFile.FieldType) ∈ bg_A := bg_2 (List.mem_of_getElem? (i := 2) rfl) rfl
theorem bw_243 : Cond.constantLong RX3 23 (-1) ∈ bg_A := bg_2 (List.mem_of_getElem? (i := 3) rfl) rfl
theorem bw_244 : Cond.methodLink RX5 209 arraycopyName ∈ bg_A := bg_2 (List.mem_of_getElem? (i := 4) rfl) rfl
theorem bw_245 : Cond.static arraycopyName ∈ bg_A := bg_2 (List.mem_of_getElem? (i := 5) rfl) rfl
theorem bw_246 : Cond.native arraycopyName ∈ bg_A := bg_2 (List.mem_of_getElem? (i := 6) rfl) rfl
theorem bw_247 : Cond.methodLink RX5 215 yX5_payNode ∈ bg_A := bg_2 (List.mem_of_getElem? (i := 7) rfl) rfl
theorem bw_249 : Cond.instanceMethod yX5_payNode ∈ bg_A := bg_2 (List.mem_of_getElem? (i := 9) rfl) rfl
theorem bw_250 : Cond.code yX5_payNode cX5_payNode 5 (Option.none : Option Jvm.ClassFile.FieldType) ∈ bg_A := bg_2 (List.mem_of_getElem? (i := 10) rfl) rfl
theorem bw_251 : Cond.methodLink RX5 189 yX0_payDue ∈ bg_A := bg_2 (List.mem_of_getElem? (i := 11) rfl) rfl
theorem bw_252 : Cond.instanceMethod yX0_payDue ∈ bg_A := bg_2 (List.mem_of_getElem? (i := 12) rfl) rfl
theorem bw_253 : Cond.selects RX0 yX0_payDue yX0_payDue ∈ bg_A := bg_2 (List.mem_of_getElem? (i := 13) rfl) rfl
theorem bw_254 : Cond.code yX0_payDue cX0_payDue 4 (Option.none : Option Jvm.ClassFile.FieldType) ∈ bg_A := bg_2 (List.mem_of_getElem? (i := 14) rfl) rfl
theorem bw_256 : Cond.methodLink RX5 193 yX1_settle ∈ bg_A := bg_2 (List.mem_of_getElem? (i := 16) rfl) rfl
theorem bw_257 : Cond.instanceMethod yX1_settle ∈ bg_A := bg_2 (List.mem_of_getElem? (i := 17) rfl) rfl
theorem bw_258 : Cond.selects RX1 yX1_settle yX1_settle ∈ bg_A := bg_2 (List.mem_of_getElem? (i := 18) rfl) rfl
theorem bw_259 : Cond.code yX1_settle cX1_settle 3 (Option.none : Option Jvm.ClassFile.FieldType) ∈ bg_A := bg_2 (List.mem_of_getElem? (i := 19) rfl) rfl
theorem bw_260 : Cond.methodLink RX5 196 yX5_fixSet ∈ bg_A := bg_2 (List.mem_of_getElem? (i := 20) rfl) rfl
theorem bw_262 : Cond.instanceMethod yX5_fixSet ∈ bg_A := bg_2 (List.mem_of_getElem? (i := 22) rfl) rfl
theorem bw_263 : Cond.code yX5_fixSet cX5_fixSet 2 (Option.none : Option Jvm.ClassFile.FieldType) ∈ bg_A := bg_2 (List.mem_of_getElem? (i := 23) rfl) rfl
theorem bw_264 : Cond.methodLink RX5 222 yX1_counts ∈ bg_A := bg_2 (List.mem_of_getElem? (i := 24) rfl) rfl
theorem bw_265 : Cond.instanceMethod yX1_counts ∈ bg_A := bg_2 (List.mem_of_getElem? (i := 25) rfl) rfl
theorem bw_266 : Cond.selects RX1 yX1_counts yX1_counts ∈ bg_A := bg_2 (List.mem_of_getElem? (i := 26) rfl) rfl
theorem bw_267 : Cond.code yX1_counts cX1_counts 2 (some FieldType.boolean) ∈ bg_A := bg_2 (List.mem_of_getElem? (i := 27) rfl) rfl
theorem bw_268 : Cond.methodLink RX5 125 yX0_stakesOfNode ∈ bg_A := bg_2 (List.mem_of_getElem? (i := 28) rfl) rfl
theorem bw_269 : Cond.instanceMethod yX0_stakesOfNode ∈ bg_A := bg_2 (List.mem_of_getElem? (i := 29) rfl) rfl
theorem bw_270 : Cond.selects RX0 yX0_stakesOfNode yX0_stakesOfNode ∈ bg_A := bg_2 (List.mem_of_getElem? (i := 30) rfl) rfl
theorem bw_271 : Cond.code yX0_stakesOfNode cX0_stakesOfNode 4 (some FieldType.int) ∈ bg_A := bg_2 (List.mem_of_getElem? (i := 31) rfl) rfl
theorem bw_273 : Cond.methodLink RX5 225 Lib.Math.min.name ∈ bg_A := bg_2 (List.mem_of_getElem? (i := 33) rfl) rfl
theorem bw_274 : Cond.static Lib.Math.min.name ∈ bg_A := bg_2 (List.mem_of_getElem? (i := 34) rfl) rfl
theorem bw_275 : Cond.code Lib.Math.min.name Lib.Math.min.code 2 (some .int) ∈ bg_A := bg_2 (List.mem_of_getElem? (i := 35) rfl) rfl
theorem bw_276 : Cond.methodLink RX5 230 yX2_enter ∈ bg_A := bg_2 (List.mem_of_getElem? (i := 36) rfl) rfl
theorem bw_277 : Cond.instanceMethod yX2_enter ∈ bg_A := bg_2 (List.mem_of_getElem? (i := 37) rfl) rfl
theorem bw_278 : Cond.selects RX2 yX2_enter yX2_enter ∈ bg_A := bg_2 (List.mem_of_getElem? (i := 38) rfl) rfl
theorem bw_279 : Cond.code yX2_enter cX2_enter 4 (Option.none : Option Jvm.ClassFile.FieldType) ∈ bg_A := bg_2 (List.mem_of_getElem? (i := 39) rfl) rfl
theorem bw_281 : Cond.methodLink RL 53 yX5_balance ∈ bg_A := bg_2 (List.mem_of_getElem? (i := 41) rfl) rfl
theorem bw_282 : Cond.instanceMethod yX5_balance ∈ bg_A := bg_2 (List.mem_of_getElem? (i := 42) rfl) rfl
theorem bw_283 : Cond.selects RX5 yX5_balance yX5_balance ∈ bg_A := bg_2 (List.mem_of_getElem? (i := 43) rfl) rfl
theorem bw_284 : Cond.code yX5_balance cX5_balance 2 (some FieldType.int) ∈ bg_A := bg_2 (List.mem_of_getElem? (i := 44) rfl) rfl
theorem bw_285 : Cond.methodLink RL 57 yX5_staked ∈ bg_A := bg_2 (List.mem_of_getElem? (i := 45) rfl) rfl
theorem bw_286 : Cond.instanceMethod yX5_staked ∈ bg_A := bg_2 (List.mem_of_getElem? (i := 46) rfl) rfl
theorem bw_287 : Cond.selects RX5 yX5_staked yX5_staked ∈ bg_A := bg_2 (List.mem_of_getElem? (i := 47) rfl) rfl
theorem bw_288 : Cond.code yX5_staked cX5_staked 3 (some FieldType.int) ∈ bg_A := bg_2 (List.mem_of_getElem? (i := 48) rfl) rfl
theorem bw_289 : Cond.methodLink RX5 112 yX0_stakesOfAccount ∈ bg_A := bg_2 (List.mem_of_getElem? (i := 49) rfl) rfl
theorem bw_290 : Cond.instanceMethod yX0_stakesOfAccount ∈ bg_A := bg_2 (List.mem_of_getElem? (i := 50) rfl) rfl
theorem bw_291 : Cond.selects RX0 yX0_stakesOfAccount yX0_stakesOfAccount ∈ bg_A := bg_2 (List.mem_of_getElem? (i := 51) rfl) rfl
theorem bw_292 : Cond.code yX0_stakesOfAccount cX0_stakesOfAccount 4 (some FieldType.int) ∈ bg_A := bg_2 (List.mem_of_getElem? (i := 52) rfl) rfl
theorem bw_293 : Cond.methodLink RL 61 yX5_drawn ∈ bg_A := bg_2 (List.mem_of_getElem? (i := 53) rfl) rfl
theorem bw_294 : Cond.instanceMethod yX5_drawn ∈ bg_A := bg_2 (List.mem_of_getElem? (i := 54) rfl) rfl
theorem bw_295 : Cond.selects RX5 yX5_drawn yX5_drawn ∈ bg_A := bg_2 (List.mem_of_getElem? (i := 55) rfl) rfl
theorem bw_296 : Cond.code yX5_drawn cX5_drawn 3 (some FieldType.int) ∈ bg_A := bg_2 (List.mem_of_getElem? (i := 56) rfl) rfl
theorem bw_297 : Cond.methodLink RX5 116 yX0_dueOfAccount ∈ bg_A := bg_2 (List.mem_of_getElem? (i := 57) rfl) rfl
theorem bw_298 : Cond.instanceMethod yX0_dueOfAccount ∈ bg_A := bg_2 (List.mem_of_getElem? (i := 58) rfl) rfl
theorem bw_299 : Cond.selects RX0 yX0_dueOfAccount yX0_dueOfAccount ∈ bg_A := bg_2 (List.mem_of_getElem? (i := 59) rfl) rfl
theorem bw_300 : Cond.code yX0_dueOfAccount cX0_dueOfAccount 4 (some FieldType.int) ∈ bg_A := bg_2 (List.mem_of_getElem? (i := 60) rfl) rfl
theorem bw_301 : Cond.methodLink RL 65 yX5_about ∈ bg_A := bg_2 (List.mem_of_getElem? (i := 61) rfl) rfl
theorem bw_302 : Cond.instanceMethod yX5_about ∈ bg_A := bg_2 (List.mem_of_getElem? (i := 62) rfl) rfl
theorem bw_303 : Cond.selects RX5 yX5_about yX5_about ∈ bg_A := bg_2 (List.mem_of_getElem? (i := 63) rfl) rfl
theorem bw_304 : Cond.code yX5_about cX5_about 3 (some FieldType.int) ∈ bg_A := bg_2 (List.mem_of_getElem? (i := 64) rfl) rfl
theorem bw_305 : Cond.methodLink RL 69 yX5_weight ∈ bg_A := bg_2 (List.mem_of_getElem? (i := 65) rfl) rfl
theorem bw_306 : Cond.instanceMethod yX5_weight ∈ bg_A := bg_2 (List.mem_of_getElem? (i := 66) rfl) rfl
theorem bw_307 : Cond.selects RX5 yX5_weight yX5_weight ∈ bg_A := bg_2 (List.mem_of_getElem? (i := 67) rfl) rfl
theorem bw_308 : Cond.code yX5_weight cX5_weight 3 (some FieldType.int) ∈ bg_A := bg_2 (List.mem_of_getElem? (i := 68) rfl) rfl
theorem bw_309 : Cond.methodLink RX5 128 yX5_hasSet ∈ bg_A := bg_2 (List.mem_of_getElem? (i := 69) rfl) rfl
theorem bw_311 : Cond.instanceMethod yX5_hasSet ∈ bg_A := bg_2 (List.mem_of_getElem? (i := 71) rfl) rfl
theorem bw_312 : Cond.code yX5_hasSet cX5_hasSet 2 (some FieldType.boolean) ∈ bg_A := bg_2 (List.mem_of_getElem? (i := 72) rfl) rfl
theorem bw_313 : Cond.methodLink RL 73 yX5_reward ∈ bg_A := bg_2 (List.mem_of_getElem? (i := 73) rfl) rfl
theorem bw_314 : Cond.instanceMethod yX5_reward ∈ bg_A := bg_2 (List.mem_of_getElem? (i := 74) rfl) rfl
theorem bw_315 : Cond.selects RX5 yX5_reward yX5_reward ∈ bg_A := bg_2 (List.mem_of_getElem? (i := 75) rfl) rfl
theorem bw_316 : Cond.code yX5_reward cX5_reward 3 (some FieldType.int) ∈ bg_A := bg_2 (List.mem_of_getElem? (i := 76) rfl) rfl
theorem bw_317 : Cond.methodLink RX5 140 yX2_rewardsOf ∈ bg_A := bg_2 (List.mem_of_getElem? (i := 77) rfl) rfl
theorem bw_318 : Cond.instanceMethod yX2_rewardsOf ∈ bg_A := bg_2 (List.mem_of_getElem? (i := 78) rfl) rfl
theorem bw_319 : Cond.selects RX2 yX2_rewardsOf yX2_rewardsOf ∈ bg_A := bg_2 (List.mem_of_getElem? (i := 79) rfl) rfl
theorem bw_320 : Cond.code yX2_rewardsOf cX2_rewardsOf 4 (some FieldType.int) ∈ bg_A := bg_2 (List.mem_of_getElem? (i := 80) rfl) rfl
theorem bw_321 : Cond.methodLink RL 77 yX5_judge ∈ bg_A := bg_2 (List.mem_of_getElem? (i := 81) rfl) rfl
theorem bw_322 : Cond.instanceMethod yX5_judge ∈ bg_A := bg_2 (List.mem_of_getElem? (i := 82) rfl) rfl
theorem bw_323 : Cond.selects RX5 yX5_judge yX5_judge ∈ bg_A := bg_2 (List.mem_of_getElem? (i := 83) rfl) rfl
theorem bw_324 : Cond.code yX5_judge cX5_judge 3 (some FieldType.int) ∈ bg_A := bg_2 (List.mem_of_getElem? (i := 84) rfl) rfl
theorem bw_325 : Cond.methodLink RX5 146 yX1_haveAll ∈ bg_A := bg_2 (List.mem_of_getElem? (i := 85) rfl) rfl
theorem bw_326 : Cond.instanceMethod yX1_haveAll ∈ bg_A := bg_2 (List.mem_of_getElem? (i := 86) rfl) rfl
theorem bw_327 : Cond.selects RX1 yX1_haveAll yX1_haveAll ∈ bg_A := bg_2 (List.mem_of_getElem? (i := 87) rfl) rfl
theorem bw_328 : Cond.code yX1_haveAll cX1_haveAll 2 (some FieldType.boolean) ∈ bg_A := bg_2 (List.mem_of_getElem? (i := 88) rfl) rfl
theorem bw_329 : Cond.methodLink RX5 149 yX2_isGood ∈ bg_A := bg_2 (List.mem_of_getElem? (i := 89) rfl) rfl
theorem bw_330 : Cond.instanceMethod yX2_isGood ∈ bg_A := bg_2 (List.mem_of_getElem? (i := 90) rfl) rfl
theorem bw_331 : Cond.selects RX2 yX2_isGood yX2_isGood ∈ bg_A := bg_2 (List.mem_of_getElem? (i := 91) rfl) rfl
theorem bw_332 : Cond.code yX2_isGood cX2_isGood 3 (some FieldType.boolean) ∈ bg_A := bg_2 (List.mem_of_getElem? (i := 92) rfl) rfl
theorem bw_333 : Cond.methodLink RX2 36 yX2_weightOf ∈ bg_A := bg_2 (List.mem_of_getElem? (i := 93) rfl) rfl
theorem bw_334 : Cond.instanceMethod yX2_weightOf ∈ bg_A := bg_2 (List.mem_of_getElem? (i := 94) rfl) rfl
theorem bw_335 : Cond.selects RX2 yX2_weightOf yX2_weightOf ∈ bg_A := bg_2 (List.mem_of_getElem? (i := 95) rfl) rfl
theorem bw_336 : Cond.code yX2_weightOf cX2_weightOf 5 (some FieldType.int) ∈ bg_A := bg_2 (List.mem_of_getElem? (i := 96) rfl) rfl
theorem bw_337 : Cond.methodLink RL 81 yX5_jump ∈ bg_A := bg_2 (List.mem_of_getElem? (i := 97) rfl) rfl
theorem bw_338 : Cond.instanceMethod yX5_jump ∈ bg_A := bg_2 (List.mem_of_getElem? (i := 98) rfl) rfl
theorem bw_339 : Cond.selects RX5 yX5_jump yX5_jump ∈ bg_A := bg_2 (List.mem_of_getElem? (i := 99) rfl) rfl
theorem bw_340 : Cond.code yX5_jump cX5_jump 4 (some FieldType.int) ∈ bg_A := bg_2 (List.mem_of_getElem? (i := 100) rfl) rfl
theorem bw_341 : Cond.methodLink RX5 153 yX5_isUpward ∈ bg_A := bg_2 (List.mem_of_getElem? (i := 101) rfl) rfl
theorem bw_343 : Cond.instanceMethod yX5_isUpward ∈ bg_A := bg_2 (List.mem_of_getElem? (i := 103) rfl) rfl
theorem bw_344 : Cond.code yX5_isUpward cX5_isUpward 3 (some FieldType.boolean) ∈ bg_A := bg_2 (List.mem_of_getElem? (i := 104) rfl) rfl
theorem bw_345 : Cond.methodLink RX5 156 yX2_allowsJump ∈ bg_A := bg_2 (List.mem_of_getElem? (i := 105) rfl) rfl
theorem bw_346 : Cond.instanceMethod yX2_allowsJump ∈ bg_A := bg_2 (List.mem_of_getElem? (i := 106) rfl) rfl
theorem bw_347 : Cond.selects RX2 yX2_allowsJump yX2_allowsJump ∈ bg_A := bg_2 (List.mem_of_getElem? (i := 107) rfl) rfl
theorem bw_348 : Cond.code yX2_allowsJump cX2_allowsJump 4 (some FieldType.boolean) ∈ bg_A := bg_2 (List.mem_of_getElem? (i := 108) rfl) rfl
theorem bw_349 : Cond.methodLink RX2 39 yX2_isGood ∈ bg_A := bg_2 (List.mem_of_getElem? (i := 109) rfl) rfl
theorem bw_350 : Cond.methodLink RL 85 yX5_overlap ∈ bg_A := bg_2 (List.mem_of_getElem? (i := 110) rfl) rfl
theorem bw_351 : Cond.instanceMethod yX5_overlap ∈ bg_A := bg_2 (List.mem_of_getElem? (i := 111) rfl) rfl
theorem bw_352 : Cond.selects RX5 yX5_overlap yX5_overlap ∈ bg_A := bg_2 (List.mem_of_getElem? (i := 112) rfl) rfl
theorem bw_353 : Cond.code yX5_overlap cX5_overlap 3 (some FieldType.int) ∈ bg_A := bg_2 (List.mem_of_getElem? (i := 113) rfl) rfl
theorem bw_354 : Cond.methodLink RX5 159 yX2_commonWeight ∈ bg_A := bg_2 (List.mem_of_getElem? (i := 114) rfl) rfl
theorem bw_355 : Cond.instanceMethod yX2_commonWeight ∈ bg_A := bg_2 (List.mem_of_getElem? (i := 115) rfl) rfl
theorem bw_356 : Cond.selects RX2 yX2_commonWeight yX2_commonWeight ∈ bg_A := bg_2 (List.mem_of_getElem? (i := 116) rfl) rfl
theorem bw_357 : Cond.code yX2_commonWeight cX2_commonWeight 5 (some FieldType.int) ∈ bg_A := bg_2 (List.mem_of_getElem? (i := 117) rfl) rfl
theorem bw_358 : Cond.methodLink RX2 31 Lib.Math.min.name ∈ bg_A := bg_2 (List.mem_of_getElem? (i := 118) rfl) rfl
theorem bw_359 : Cond.methodLink RL 89 yX5_way ∈ bg_A := bg_2 (List.mem_of_getElem? (i := 119) rfl) rfl
theorem bw_360 : Cond.instanceMethod yX5_way ∈ bg_A := bg_2 (List.mem_of_getElem? (i := 120) rfl) rfl
theorem bw_361 : Cond.selects RX5 yX5_way yX5_way ∈ bg_A := bg_2 (List.mem_of_getElem? (i := 121) rfl) rfl
theorem bw_362 : Cond.code yX5_way cX5_way 5 (some FieldType.int) ∈ bg_A := bg_2 (List.mem_of_getElem? (i := 122) rfl) rfl
theorem bw_363 : Cond.methodLink RX5 162 yX4_plan ∈ bg_A := bg_2 (List.mem_of_getElem? (i := 123) rfl) rfl
theorem bw_364 : Cond.instanceMethod yX4_plan ∈ bg_A := bg_2 (List.mem_of_getElem? (i := 124) rfl) rfl
theorem bw_365 : Cond.selects RX4 yX4_plan yX4_plan ∈ bg_A := bg_2 (List.mem_of_getElem? (i := 125) rfl) rfl
theorem bw_366 : Cond.code yX4_plan cX4_plan 5 (Option.none : Option Jvm.ClassFile.FieldType) ∈ bg_A := bg_2 (List.mem_of_getElem? (i := 126) rfl) rfl
theorem bw_367 : Cond.methodLink RX4 18 yX4_planFrom ∈ bg_A := bg_2 (List.mem_of_getElem? (i := 127) rfl) rfl
theorem bw_368 : Cond.instanceMethod yX4_planFrom ∈ bg_A := bg_2 (List.mem_of_getElem? (i := 128) rfl) rfl
theorem bw_369 : Cond.selects RX4 yX4_planFrom yX4_planFrom ∈ bg_A := bg_2 (List.mem_of_getElem? (i := 129) rfl) rfl
theorem bw_370 : Cond.code yX4_planFrom cX4_planFrom 5 (Option.none : Option Jvm.ClassFile.FieldType) ∈ bg_A := bg_2 (List.mem_of_getElem? (i := 130) rfl) rfl
theorem bw_371 : Cond.methodLink RX4 22 yX4_isShorter ∈ bg_A := bg_2 (List.mem_of_getElem? (i := 131) rfl) rfl
theorem bw_372 : Cond.instanceMethod yX4_isShorter ∈ bg_A := bg_2 (List.mem_of_getElem? (i := 132) rfl) rfl
theorem bw_373 : Cond.selects RX4 yX4_isShorter yX4_isShorter ∈ bg_A := bg_2 (List.mem_of_getElem? (i := 133) rfl) rfl
theorem bw_374 : Cond.code yX4_isShorter cX4_isShorter 3 (some FieldType.boolean) ∈ bg_A := bg_2 (List.mem_of_getElem? (i := 134) rfl) rfl
theorem bw_375 : Cond.methodLink RX4 31 yX2_allowsJump ∈ bg_A := bg_2 (List.mem_of_getElem? (i := 135) rfl) rfl
theorem bw_376 : Cond.methodLink RX5 169 yX4_heightAt ∈ bg_A := bg_2 (List.mem_of_getElem? (i := 136) rfl) rfl
theorem bw_377 : Cond.instanceMethod yX4_heightAt ∈ bg_A := bg_2 (List.mem_of_getElem? (i := 137) rfl) rfl
theorem bw_378 : Cond.selects RX4 yX4_heightAt yX4_heightAt ∈ bg_A := bg_2 (List.mem_of_getElem? (i := 138) rfl) rfl
theorem bw_379 : Cond.code yX4_heightAt cX4_heightAt 6 (some FieldType.int) ∈ bg_A := bg_2 (List.mem_of_getElem? (i := 139) rfl) rfl
theorem bw_380 : Cond.methodLink RL 93 yX5_count ∈ bg_A := bg_2 (List.mem_of_getElem? (i := 140) rfl) rfl
theorem bw_381 : Cond.instanceMethod yX5_count ∈ bg_A := bg_2 (List.mem_of_getElem? (i := 141) rfl) rfl
theorem bw_382 : Cond.selects RX5 yX5_count yX5_count ∈ bg_A := bg_2 (List.mem_of_getElem? (i := 142) rfl) rfl
theorem bw_383 : Cond.code yX5_count cX5_count 2 (some FieldType.int) ∈ bg_A := bg_2 (List.mem_of_getElem? (i := 143) rfl) rfl
theorem bw_384 : Cond.methodLink RX5 176 yX0_allBalances ∈ bg_A := bg_2 (List.mem_of_getElem? (i := 144) rfl) rfl
theorem bw_385 : Cond.instanceMethod yX0_allBalances ∈ bg_A := bg_2 (List.mem_of_getElem? (i := 145) rfl) rfl
theorem bw_386 : Cond.selects RX0 yX0_allBalances yX0_allBalances ∈ bg_A := bg_2 (List.mem_of_getElem? (i := 146) rfl) rfl
theorem bw_387 : Cond.code yX0_allBalances cX0_allBalances 3 (some FieldType.int) ∈ bg_A := bg_2 (List.mem_of_getElem? (i := 147) rfl) rfl
theorem bw_388 : Cond.methodLink RX5 180 yX0_allStakes ∈ bg_A := bg_2 (List.mem_of_getElem? (i := 148) rfl) rfl
theorem bw_389 : Cond.instanceMethod yX0_allStakes ∈ bg_A := bg_2 (List.mem_of_getElem? (i := 149) rfl) rfl
theorem bw_390 : Cond.selects RX0 yX0_allStakes yX0_allStakes ∈ bg_A := bg_2 (List.mem_of_getElem? (i := 150) rfl) rfl
theorem bw_391 : Cond.code yX0_allStakes cX0_allStakes 3 (some FieldType.int) ∈ bg_A := bg_2 (List.mem_of_getElem? (i := 151) rfl) rfl
theorem bw_392 : Cond.methodLink RX0 28 yX0_stakesOfNode ∈ bg_A := bg_2 (List.mem_of_getElem? (i := 152) rfl) rfl
theorem bw_393 : Cond.methodLink RX5 183 yX0_allDue ∈ bg_A := bg_2 (List.mem_of_getElem? (i := 153) rfl) rfl
theorem bw_394 : Cond.instanceMethod yX0_allDue ∈ bg_A := bg_2 (List.mem_of_getElem? (i := 154) rfl) rfl
theorem bw_395 : Cond.selects RX0 yX0_allDue yX0_allDue ∈ bg_A := bg_2 (List.mem_of_getElem? (i := 155) rfl) rfl
theorem bw_396 : Cond.code yX0_allDue cX0_allDue 3 (some FieldType.int) ∈ bg_A := bg_2 (List.mem_of_getElem? (i := 156) rfl) rfl
theorem bw_397 : Cond.methodLink RX0 32 yX0_dueOfAccount ∈ bg_A := bg_2 (List.mem_of_getElem? (i := 157) rfl) rfl
theorem bw_398 : Cond.classLink RL 10 RX6 ∈ bg_A := bg_2 (List.mem_of_getElem? (i := 158) rfl) rfl
theorem bw_399 : Cond.instantiable RX6 24 ∈ bg_A := bg_2 (List.mem_of_getElem? (i := 159) rfl) rfl
theorem bw_400 : Cond.methodLink RL 12 yX6_init ∈ bg_A := bg_2 (List.mem_of_getElem? (i := 160) rfl) rfl
theorem bw_401 : Cond.instanceMethod yX6_init ∈ bg_A := bg_2 (List.mem_of_getElem? (i := 161) rfl) rfl
theorem bw_402 : Cond.code yX6_init cX6_init 1 (Option.none : Option Jvm.ClassFile.FieldType) ∈ bg_A := bg_2 (List.mem_of_getElem? (i := 162) rfl) rfl
theorem bw_403 : Cond.methodLink RX6 7 objectInit ∈ bg_A := bg_2 (List.mem_of_getElem? (i := 163) rfl) rfl
theorem bw_404 : Cond.constant RX6 22 1000000 ∈ bg_A := bg_2 (List.mem_of_getElem? (i := 164) rfl) rfl
theorem bw_405 : Cond.fieldLink RX6 1 "NodeWeightsModel" "thrown" "I" ∈ bg_A := bg_2 (List.mem_of_getElem? (i := 165) rfl) rfl
theorem bw_406 : Cond.fieldLink RX6 83 "NodeWeightsModel" "height" "I" ∈ bg_A := bg_2 (List.mem_of_getElem? (i := 166) rfl) rfl
theorem bw_407 : Cond.fieldLink RX6 13 "NodeWeightsModel" "wait" "I" ∈ bg_A := bg_2 (List.mem_of_getElem? (i := 167) rfl) rfl
theorem bw_408 : Cond.fieldLink RX6 16 "NodeWeightsModel" "reward" "I" ∈ bg_A := bg_2 (List.mem_of_getElem? (i := 168) rfl) rfl
theorem bw_409 : Cond.fieldLink RX6 19 "NodeWeightsModel" "halving" "I" ∈ bg_A := bg_2 (List.mem_of_getElem? (i := 169) rfl) rfl
theorem bw_410 : Cond.fieldLink RX6 23 "NodeWeightsModel" "bound" "I" ∈ bg_A := bg_2 (List.mem_of_getElem? (i := 170) rfl) rfl
theorem bw_411 : Cond.fieldLink RX6 26 "NodeWeightsModel" "balance" "[I" ∈ bg_A := bg_2 (List.mem_of_getElem? (i := 171) rfl) rfl
theorem bw_412 : Cond.fieldLink RX6 98 "NodeWeightsModel" "given" "I" ∈ bg_A := bg_2 (List.mem_of_getElem? (i := 172) rfl) rfl
theorem bw_413 : Cond.fieldLink RX6 114 "NodeWeightsModel" "rewarded" "I" ∈ bg_A := bg_2 (List.mem_of_getElem? (i := 173) rfl) rfl
theorem bw_414 : Cond.fieldLink RX6 80 "NodeWeightsModel" "nodes" "I" ∈ bg_A := bg_2 (List.mem_of_getElem? (i := 174) rfl) rfl
theorem bw_415 : Cond.fieldLink RX6 30 "NodeWeightsModel" "keeper" "[I" ∈ bg_A := bg_2 (List.mem_of_getElem? (i := 175) rfl) rfl
theorem bw_416 : Cond.fieldLink RX6 33 "NodeWeightsModel" "cut" "[I" ∈ bg_A := bg_2 (List.mem_of_getElem? (i := 176) rfl) rfl
theorem bw_417 : Cond.fieldLink RX6 36 "NodeWeightsModel" "state" "[I" ∈ bg_A := bg_2 (List.mem_of_getElem? (i := 177) rfl) rfl
theorem bw_418 : Cond.fieldLink RX6 39 "NodeWeightsModel" "due" "[I" ∈ bg_A := bg_2 (List.mem_of_getElem? (i := 178) rfl) rfl
theorem bw_419 : Cond.fieldLink RX6 42 "NodeWeightsModel" "isFrozen" "[Z" ∈ bg_A := bg_2 (List.mem_of_getElem? (i := 179) rfl) rfl
theorem bw_420 : Cond.fieldLink RX6 46 "NodeWeightsModel" "stake" "[I" ∈ bg_A := bg_2 (List.mem_of_getElem? (i := 180) rfl) rfl
theorem bw_421 : Cond.fieldLink RX6 49 "NodeWeightsModel" "then" "[I" ∈ bg_A := bg_2 (List.mem_of_getElem? (i := 181) rfl) rfl
theorem bw_422 : Cond.fieldLink RX6 52 "NodeWeightsModel" "drawn" "[I" ∈ bg_A := bg_2 (List.mem_of_getElem? (i := 182) rfl) rfl
theorem bw_423 : Cond.fieldLink RX6 55 "NodeWeightsModel" "weight" "[I" ∈ bg_A := bg_2 (List.mem_of_getElem? (i := 183) rfl) rfl
theorem bw_424 : Cond.fieldLink RX6 58 "NodeWeightsModel" "share" "[I" ∈ bg_A := bg_2 (List.mem_of_getElem? (i := 184) rfl) rfl
theorem bw_425 : Cond.fieldLink RX6 61 "NodeWeightsModel" "pots" "[I" ∈ bg_A := bg_2 (List.mem_of_getElem? (i := 185) rfl) rfl
theorem bw_426 : Cond.fieldLink RX6 64 "NodeWeightsModel" "part" "[J" ∈ bg_A := bg_2 (List.mem_of_getElem? (i := 186) rfl) rfl
theorem bw_427 : Cond.fieldLink RX6 68 "NodeWeightsModel" "dealt" "[I" ∈ bg_A := bg_2 (List.mem_of_getElem? (i := 187) rfl) rfl
theorem bw_428 : Cond.fieldLink RX6 71 "NodeWeightsModel" "jumps" "[I" ∈ bg_A := bg_2 (List.mem_of_getElem? (i := 188) rfl) rfl
theorem bw_429 : Cond.lays "NodeWeightsModel" "NodeWeightsModel" "thrown" "I" ∈ bg_A := bg_2 (List.mem_of_getElem? (i := 189) rfl) rfl
theorem bw_431 : Cond.lays "NodeWeightsModel" "NodeWeightsModel" "height" "I" ∈ bg_A := bg_2 (List.mem_of_getElem? (i := 191) rfl) rfl
theorem bw_433 : Cond.lays "NodeWeightsModel" "NodeWeightsModel" "wait" "I" ∈ bg_A := bg_2 (List.mem_of_getElem? (i := 193) rfl) rfl
theorem bw_435 : Cond.lays "NodeWeightsModel" "NodeWeightsModel" "reward" "I" ∈ bg_A := bg_2 (List.mem_of_getElem? (i := 195) rfl) rfl
theorem bw_437 : Cond.lays "NodeWeightsModel" "NodeWeightsModel" "halving" "I" ∈ bg_A := bg_2 (List.mem_of_getElem? (i := 197) rfl) rfl
theorem bw_439 : Cond.lays "NodeWeightsModel" "NodeWeightsModel" "bound" "I" ∈ bg_A := bg_2 (List.mem_of_getElem? (i := 199) rfl) rfl
theorem bw_441 : Cond.laysFinal "NodeWeightsModel" "NodeWeightsModel" "balance" "[I" ∈ bg_A := bg_2 (List.mem_of_getElem? (i := 201) rfl) rfl
theorem bw_443 : Cond.lays "NodeWeightsModel" "NodeWeightsModel" "given" "I" ∈ bg_A := bg_2 (List.mem_of_getElem? (i := 203) rfl) rfl
theorem bw_445 : Cond.lays "NodeWeightsModel" "NodeWeightsModel" "rewarded" "I" ∈ bg_A := bg_2 (List.mem_of_getElem? (i := 205) rfl) rfl
theorem bw_447 : Cond.lays "NodeWeightsModel" "NodeWeightsModel" "nodes" "I" ∈ bg_A := bg_2 (List.mem_of_getElem? (i := 207) rfl) rfl
theorem bw_449 : Cond.laysFinal "NodeWeightsModel" "NodeWeightsModel" "keeper" "[I" ∈ bg_A := bg_2 (List.mem_of_getElem? (i := 209) rfl) rfl
theorem bw_451 : Cond.laysFinal "NodeWeightsModel" "NodeWeightsModel" "cut" "[I" ∈ bg_A := bg_2 (List.mem_of_getElem? (i := 211) rfl) rfl
theorem bw_453 : Cond.laysFinal "NodeWeightsModel" "NodeWeightsModel" "state" "[I" ∈ bg_A := bg_2 (List.mem_of_getElem? (i := 213) rfl) rfl
theorem bw_455 : Cond.laysFinal "NodeWeightsModel" "NodeWeightsModel" "due" "[I" ∈ bg_A := bg_2 (List.mem_of_getElem? (i := 215) rfl) rfl
theorem bw_457 : Cond.laysFinal "NodeWeightsModel" "NodeWeightsModel" "isFrozen" "[Z" ∈ bg_A := bg_2 (List.mem_of_getElem? (i := 217) rfl) rfl
theorem bw_459 : Cond.laysFinal "NodeWeightsModel" "NodeWeightsModel" "stake" "[I" ∈ bg_A := bg_2 (List.mem_of_getElem? (i := 219) rfl) rfl
theorem bw_461 : Cond.laysFinal "NodeWeightsModel" "NodeWeightsModel" "then" "[I" ∈ bg_A := bg_2 (List.mem_of_getElem? (i := 221) rfl) rfl
theorem bw_463 : Cond.laysFinal "NodeWeightsModel" "NodeWeightsModel" "drawn" "[I" ∈ bg_A := bg_2 (List.mem_of_getElem? (i := 223) rfl) rfl
theorem bw_465 : Cond.laysFinal "NodeWeightsModel" "NodeWeightsModel" "weight" "[I" ∈ bg_A := bg_2 (List.mem_of_getElem? (i := 225) rfl) rfl
theorem bw_467 : Cond.laysFinal "NodeWeightsModel" "NodeWeightsModel" "share" "[I" ∈ bg_A := bg_2 (List.mem_of_getElem? (i := 227) rfl) rfl
theorem bw_469 : Cond.laysFinal "NodeWeightsModel" "NodeWeightsModel" "pots" "[I" ∈ bg_A := bg_2 (List.mem_of_getElem? (i := 229) rfl) rfl
theorem bw_471 : Cond.laysFinal "NodeWeightsModel" "NodeWeightsModel" "part" "[J" ∈ bg_A := bg_2 (List.mem_of_getElem? (i := 231) rfl) rfl
theorem bw_473 : Cond.laysFinal "NodeWeightsModel" "NodeWeightsModel" "dealt" "[I" ∈ bg_A := bg_2 (List.mem_of_getElem? (i := 233) rfl) rfl
theorem bw_475 : Cond.laysFinal "NodeWeightsModel" "NodeWeightsModel" "jumps" "[I" ∈ bg_A := bg_2 (List.mem_of_getElem? (i := 235) rfl) rfl
theorem bw_478 : Cond.methodLink RL 17 yX6_rule ∈ bg_A := bg_2 (List.mem_of_getElem? (i := 238) rfl) rfl
theorem bw_479 : Cond.instanceMethod yX6_rule ∈ bg_A := bg_2 (List.mem_of_getElem? (i := 239) rfl) rfl
theorem bw_480 : Cond.selects RX6 yX6_rule yX6_rule ∈ bg_A := bg_3 (List.mem_of_getElem? (i := 0) rfl) rfl
theorem bw_481 : Cond.code yX6_rule cX6_rule 5 (some FieldType.int) ∈ bg_A := bg_3 (List.mem_of_getElem? (i := 1) rfl) rfl
theorem bw_482 : Cond.constantLong RX6 74 9 ∈ bg_A := bg_3 (List.mem_of_getElem? (i := 2) rfl) rfl
theorem bw_483 : Cond.methodLink RX6 76 yX6_in ∈ bg_A := bg_3 (List.mem_of_getElem? (i := 3) rfl) rfl
theorem bw_484 : Cond.static yX6_in ∈ bg_A := bg_3 (List.mem_of_getElem? (i := 4) rfl) rfl
theorem bw_485 : Cond.code yX6_in cX6_in 6 (some FieldType.boolean) ∈ bg_A := bg_3 (List.mem_of_getElem? (i := 5) rfl) rfl
theorem bw_486 : Cond.constantLong RX6 86 10000 ∈ bg_A := bg_3 (List.mem_of_getElem? (i := 6) rfl) rfl
theorem bw_487 : Cond.constantLong RX6 88 50 ∈ bg_A := bg_3 (List.mem_of_getElem? (i := 7) rfl) rfl
theorem bw_488 : Cond.constantLong RX6 90 1000000 ∈ bg_A := bg_3 (List.mem_of_getElem? (i := 8) rfl) rfl
theorem bw_489 : Cond.methodLink RL 21 yX6_fund ∈ bg_A := bg_3 (List.mem_of_getElem? (i := 9) rfl) rfl
theorem bw_490 : Cond.instanceMethod yX6_fund ∈ bg_A := bg_3 (List.mem_of_getElem? (i := 10) rfl) rfl
theorem bw_491 : Cond.selects RX6 yX6_fund yX6_fund ∈ bg_A := bg_3 (List.mem_of_getElem? (i := 11) rfl) rfl
theorem bw_492 : Cond.code yX6_fund cX6_fund 3 (some FieldType.int) ∈ bg_A := bg_3 (List.mem_of_getElem? (i := 12) rfl) rfl
theorem bw_493 : Cond.methodLink RX6 92 yX6_noAccount ∈ bg_A := bg_3 (List.mem_of_getElem? (i := 13) rfl) rfl
theorem bw_494 : Cond.static yX6_noAccount ∈ bg_A := bg_3 (List.mem_of_getElem? (i := 14) rfl) rfl
theorem bw_495 : Cond.code yX6_noAccount cX6_noAccount 1 (some FieldType.boolean) ∈ bg_A := bg_3 (List.mem_of_getElem? (i := 15) rfl) rfl
theorem bw_496 : Cond.constantLong RX6 96 100000 ∈ bg_A := bg_3 (List.mem_of_getElem? (i := 16) rfl) rfl
theorem bw_497 : Cond.methodLink RL 25 yX6_node ∈ bg_A := bg_3 (List.mem_of_getElem? (i := 17) rfl) rfl
theorem bw_498 : Cond.instanceMethod yX6_node ∈ bg_A := bg_3 (List.mem_of_getElem? (i := 18) rfl) rfl
theorem bw_499 : Cond.selects RX6 yX6_node yX6_node ∈ bg_A := bg_3 (List.mem_of_getElem? (i := 19) rfl) rfl
theorem bw_500 : Cond.code yX6_node cX6_node 3 (some FieldType.int) ∈ bg_A := bg_3 (List.mem_of_getElem? (i := 20) rfl) rfl
theorem bw_501 : Cond.constantLong RX6 101 100 ∈ bg_A := bg_3 (List.mem_of_getElem? (i := 21) rfl) rfl
theorem bw_502 : Cond.methodLink RL 30 yX6_stake ∈ bg_A := bg_3 (List.mem_of_getElem? (i := 22) rfl) rfl
theorem bw_503 : Cond.instanceMethod yX6_stake ∈ bg_A := bg_3 (List.mem_of_getElem? (i := 23) rfl) rfl
theorem bw_504 : Cond.selects RX6 yX6_stake yX6_stake ∈ bg_A := bg_3 (List.mem_of_getElem? (i := 24) rfl) rfl
theorem bw_505 : Cond.code yX6_stake cX6_stake 4 (some FieldType.int) ∈ bg_A := bg_3 (List.mem_of_getElem? (i := 25) rfl) rfl
theorem bw_506 : Cond.methodLink RX6 103 yX6_noNode ∈ bg_A := bg_3 (List.mem_of_getElem? (i := 26) rfl) rfl
theorem bw_508 : Cond.instanceMethod yX6_noNode ∈ bg_A := bg_3 (List.mem_of_getElem? (i := 28) rfl) rfl
theorem bw_509 : Cond.code yX6_noNode cX6_noNode 2 (some FieldType.boolean) ∈ bg_A := bg_3 (List.mem_of_getElem? (i := 29) rfl) rfl
theorem bw_510 : Cond.methodLink RL 34 yX6_draw ∈ bg_A := bg_3 (List.mem_of_getElem? (i := 30) rfl) rfl
theorem bw_511 : Cond.instanceMethod yX6_draw ∈ bg_A := bg_3 (List.mem_of_getElem? (i := 31) rfl) rfl
theorem bw_512 : Cond.selects RX6 yX6_draw yX6_draw ∈ bg_A := bg_3 (List.mem_of_getElem? (i := 32) rfl) rfl
theorem bw_513 : Cond.code yX6_draw cX6_draw 4 (some FieldType.int) ∈ bg_A := bg_3 (List.mem_of_getElem? (i := 33) rfl) rfl
theorem bw_514 : Cond.methodLink RL 39 yX6_join ∈ bg_A := bg_3 (List.mem_of_getElem? (i := 34) rfl) rfl
theorem bw_515 : Cond.instanceMethod yX6_join ∈ bg_A := bg_3 (List.mem_of_getElem? (i := 35) rfl) rfl
theorem bw_516 : Cond.selects RX6 yX6_join yX6_join ∈ bg_A := bg_3 (List.mem_of_getElem? (i := 36) rfl) rfl
theorem bw_517 : Cond.code yX6_join cX6_join 2 (some FieldType.int) ∈ bg_A := bg_3 (List.mem_of_getElem? (i := 37) rfl) rfl
theorem bw_518 : Cond.methodLink RL 43 yX6_leave ∈ bg_A := bg_3 (List.mem_of_getElem? (i := 38) rfl) rfl
theorem bw_519 : Cond.instanceMethod yX6_leave ∈ bg_A := bg_3 (List.mem_of_getElem? (i := 39) rfl) rfl
theorem bw_520 : Cond.selects RX6 yX6_leave yX6_leave ∈ bg_A := bg_3 (List.mem_of_getElem? (i := 40) rfl) rfl
theorem bw_521 : Cond.code yX6_leave cX6_leave 2 (some FieldType.int) ∈ bg_A := bg_3 (List.mem_of_getElem? (i := 41) rfl) rfl
theorem bw_522 : Cond.methodLink RL 48 yX6_freeze ∈ bg_A := bg_3 (List.mem_of_getElem? (i := 42) rfl) rfl
theorem bw_523 : Cond.instanceMethod yX6_freeze ∈ bg_A := bg_3 (List.mem_of_getElem? (i := 43) rfl) rfl
theorem bw_524 : Cond.selects RX6 yX6_freeze yX6_freeze ∈ bg_A := bg_3 (List.mem_of_getElem? (i := 44) rfl) rfl
theorem bw_525 : Cond.code yX6_freeze cX6_freeze 4 (some FieldType.int) ∈ bg_A := bg_3 (List.mem_of_getElem? (i := 45) rfl) rfl
theorem bw_526 : Cond.methodLink RL 52 yX6_advance ∈ bg_A := bg_3 (List.mem_of_getElem? (i := 46) rfl) rfl
theorem bw_527 : Cond.instanceMethod yX6_advance ∈ bg_A := bg_3 (List.mem_of_getElem? (i := 47) rfl) rfl
theorem bw_528 : Cond.selects RX6 yX6_advance yX6_advance ∈ bg_A := bg_3 (List.mem_of_getElem? (i := 48) rfl) rfl
theorem bw_529 : Cond.code yX6_advance cX6_advance 5 (some FieldType.int) ∈ bg_A := bg_3 (List.mem_of_getElem? (i := 49) rfl) rfl
theorem bw_530 : Cond.methodLink RX6 120 yX6_payFor ∈ bg_A := bg_3 (List.mem_of_getElem? (i := 50) rfl) rfl
theorem bw_532 : Cond.instanceMethod yX6_payFor ∈ bg_A := bg_3 (List.mem_of_getElem? (i := 52) rfl) rfl
theorem bw_533 : Cond.code yX6_payFor cX6_payFor 6 (Option.none : Option Jvm.ClassFile.FieldType) ∈ bg_A := bg_3 (List.mem_of_getElem? (i := 53) rfl) rfl
theorem bw_534 : Cond.methodLink RX6 106 yX6_allOf ∈ bg_A := bg_3 (List.mem_of_getElem? (i := 54) rfl) rfl
theorem bw_536 : Cond.instanceMethod yX6_allOf ∈ bg_A := bg_3 (List.mem_of_getElem? (i := 56) rfl) rfl
theorem bw_537 : Cond.code yX6_allOf cX6_allOf 4 (some FieldType.int) ∈ bg_A := bg_3 (List.mem_of_getElem? (i := 57) rfl) rfl
theorem bw_538 : Cond.methodLink RX6 110 yX6_deal ∈ bg_A := bg_3 (List.mem_of_getElem? (i := 58) rfl) rfl
theorem bw_540 : Cond.instanceMethod yX6_deal ∈ bg_A := bg_3 (List.mem_of_getElem? (i := 60) rfl) rfl
theorem bw_541 : Cond.code yX6_deal cX6_deal 12 (Option.none : Option Jvm.ClassFile.FieldType) ∈ bg_A := bg_3 (List.mem_of_getElem? (i := 61) rfl) rfl
theorem bw_542 : Cond.methodLink RX6 124 yX6_fix ∈ bg_A := bg_3 (List.mem_of_getElem? (i := 62) rfl) rfl
theorem bw_544 : Cond.instanceMethod yX6_fix ∈ bg_A := bg_3 (List.mem_of_getElem? (i := 64) rfl) rfl
theorem bw_545 : Cond.code yX6_fix cX6_fix 4 (Option.none : Option Jvm.ClassFile.FieldType) ∈ bg_A := bg_3 (List.mem_of_getElem? (i := 65) rfl) rfl
theorem bw_546 : Cond.methodLink RX6 117 yX6_about5 ∈ bg_A := bg_3 (List.mem_of_getElem? (i := 66) rfl) rfl
theorem bw_548 : Cond.instanceMethod yX6_about5 ∈ bg_A := bg_3 (List.mem_of_getElem? (i := 68) rfl) rfl
theorem bw_549 : Cond.code yX6_about5 cX6_about5 4 (some FieldType.int) ∈ bg_A := bg_3 (List.mem_of_getElem? (i := 69) rfl) rfl
theorem bw_550 : Cond.methodLink RL 56 yX6_balance ∈ bg_A := bg_3 (List.mem_of_getElem? (i := 70) rfl) rfl
theorem bw_551 : Cond.instanceMethod yX6_balance ∈ bg_A := bg_3 (List.mem_of_getElem? (i := 71) rfl) rfl
theorem bw_552 : Cond.selects RX6 yX6_balance yX6_balance ∈ bg_A := bg_3 (List.mem_of_getElem? (i := 72) rfl) rfl
theorem bw_553 : Cond.code yX6_balance cX6_balance 2 (some FieldType.int) ∈ bg_A := bg_3 (List.mem_of_getElem? (i := 73) rfl) rfl
theorem bw_554 : Cond.methodLink RL 60 yX6_staked ∈ bg_A := bg_3 (List.mem_of_getElem? (i := 74) rfl) rfl
theorem bw_555 : Cond.instanceMethod yX6_staked ∈ bg_A := bg_3 (List.mem_of_getElem? (i := 75) rfl) rfl
theorem bw_556 : Cond.selects RX6 yX6_staked yX6_staked ∈ bg_A := bg_3 (List.mem_of_getElem? (i := 76) rfl) rfl
theorem bw_557 : Cond.code yX6_staked cX6_staked 5 (some FieldType.int) ∈ bg_A := bg_3 (List.mem_of_getElem? (i := 77) rfl) rfl
theorem bw_558 : Cond.methodLink RL 64 yX6_drawn ∈ bg_A := bg_3 (List.mem_of_getElem? (i := 78) rfl) rfl
theorem bw_559 : Cond.instanceMethod yX6_drawn ∈ bg_A := bg_3 (List.mem_of_getElem? (i := 79) rfl) rfl
theorem bw_560 : Cond.selects RX6 yX6_drawn yX6_drawn ∈ bg_A := bg_3 (List.mem_of_getElem? (i := 80) rfl) rfl
theorem bw_561 : Cond.code yX6_drawn cX6_drawn 3 (some FieldType.int) ∈ bg_A := bg_3 (List.mem_of_getElem? (i := 81) rfl) rfl
theorem bw_562 : Cond.constantLong RX6 127 109 ∈ bg_A := bg_3 (List.mem_of_getElem? (i := 82) rfl) rfl
theorem bw_563 : Cond.methodLink RX6 129 yX6_drawnOf ∈ bg_A := bg_3 (List.mem_of_getElem? (i := 83) rfl) rfl
theorem bw_565 : Cond.instanceMethod yX6_drawnOf ∈ bg_A := bg_3 (List.mem_of_getElem? (i := 85) rfl) rfl
theorem bw_566 : Cond.code yX6_drawnOf cX6_drawnOf 4 (some FieldType.int) ∈ bg_A := bg_3 (List.mem_of_getElem? (i := 86) rfl) rfl
theorem bw_567 : Cond.methodLink RL 68 yX6_about ∈ bg_A := bg_3 (List.mem_of_getElem? (i := 87) rfl) rfl
theorem bw_568 : Cond.instanceMethod yX6_about ∈ bg_A := bg_3 (List.mem_of_getElem? (i := 88) rfl) rfl
theorem bw_569 : Cond.selects RX6 yX6_about yX6_about ∈ bg_A := bg_3 (List.mem_of_getElem? (i := 89) rfl) rfl
theorem bw_570 : Cond.code yX6_about cX6_about 3 (some FieldType.int) ∈ bg_A := bg_3 (List.mem_of_getElem? (i := 90) rfl) rfl
theorem bw_571 : Cond.methodLink RL 72 yX6_weight ∈ bg_A := bg_3 (List.mem_of_getElem? (i := 91) rfl) rfl
theorem bw_572 : Cond.instanceMethod yX6_weight ∈ bg_A := bg_3 (List.mem_of_getElem? (i := 92) rfl) rfl
theorem bw_573 : Cond.selects RX6 yX6_weight yX6_weight ∈ bg_A := bg_3 (List.mem_of_getElem? (i := 93) rfl) rfl
theorem bw_574 : Cond.code yX6_weight cX6_weight 3 (some FieldType.int) ∈ bg_A := bg_3 (List.mem_of_getElem? (i := 94) rfl) rfl
theorem bw_575 : Cond.methodLink RX6 132 yX6_noHeight ∈ bg_A := bg_3 (List.mem_of_getElem? (i := 95) rfl) rfl
theorem bw_577 : Cond.instanceMethod yX6_noHeight ∈ bg_A := bg_3 (List.mem_of_getElem? (i := 97) rfl) rfl
theorem bw_578 : Cond.code yX6_noHeight cX6_noHeight 2 (some FieldType.boolean) ∈ bg_A := bg_3 (List.mem_of_getElem? (i := 98) rfl) rfl
theorem bw_579 : Cond.methodLink RL 76 yX6_reward ∈ bg_A := bg_3 (List.mem_of_getElem? (i := 99) rfl) rfl
theorem bw_580 : Cond.instanceMethod yX6_reward ∈ bg_A := bg_3 (List.mem_of_getElem? (i := 100) rfl) rfl
theorem bw_581 : Cond.selects RX6 yX6_reward yX6_reward ∈ bg_A := bg_3 (List.mem_of_getElem? (i := 101) rfl) rfl
theorem bw_582 : Cond.code yX6_reward cX6_reward 3 (some FieldType.int) ∈ bg_A := bg_3 (List.mem_of_getElem? (i := 102) rfl) rfl
theorem bw_583 : Cond.methodLink RL 80 yX6_judge ∈ bg_A := bg_3 (List.mem_of_getElem? (i := 103) rfl) rfl
theorem bw_584 : Cond.instanceMethod yX6_judge ∈ bg_A := bg_3 (List.mem_of_getElem? (i := 104) rfl) rfl
theorem bw_585 : Cond.selects RX6 yX6_judge yX6_judge ∈ bg_A := bg_3 (List.mem_of_getElem? (i := 105) rfl) rfl
theorem bw_586 : Cond.code yX6_judge cX6_judge 3 (some FieldType.int) ∈ bg_A := bg_3 (List.mem_of_getElem? (i := 106) rfl) rfl
theorem bw_587 : Cond.methodLink RX6 147 yX6_noBits ∈ bg_A := bg_3 (List.mem_of_getElem? (i := 107) rfl) rfl
theorem bw_589 : Cond.instanceMethod yX6_noBits ∈ bg_A := bg_3 (List.mem_of_getElem? (i := 109) rfl) rfl
theorem bw_590 : Cond.code yX6_noBits cX6_noBits 2 (some FieldType.boolean) ∈ bg_A := bg_3 (List.mem_of_getElem? (i := 110) rfl) rfl
theorem bw_591 : Cond.methodLink RX6 143 yX6_isGood ∈ bg_A := bg_3 (List.mem_of_getElem? (i := 111) rfl) rfl
theorem bw_593 : Cond.instanceMethod yX6_isGood ∈ bg_A := bg_3 (List.mem_of_getElem? (i := 113) rfl) rfl
theorem bw_594 : Cond.code yX6_isGood cX6_isGood 3 (some FieldType.boolean) ∈ bg_A := bg_3 (List.mem_of_getElem? (i := 114) rfl) rfl
theorem bw_595 : Cond.constantLong RX6 135 3 ∈ bg_A := bg_3 (List.mem_of_getElem? (i := 115) rfl) rfl
theorem bw_596 : Cond.methodLink RX6 137 yX6_weightOf ∈ bg_A := bg_3 (List.mem_of_getElem? (i := 116) rfl) rfl
theorem bw_598 : Cond.instanceMethod yX6_weightOf ∈ bg_A := bg_3 (List.mem_of_getElem? (i := 118) rfl) rfl
theorem bw_599 : Cond.code yX6_weightOf cX6_weightOf 5 (some FieldType.int) ∈ bg_A := bg_3 (List.mem_of_getElem? (i := 119) rfl) rfl
theorem bw_600 : Cond.constantLong RX6 141 2 ∈ bg_A := bg_3 (List.mem_of_getElem? (i := 120) rfl) rfl
theorem bw_601 : Cond.methodLink RL 84 yX6_jump ∈ bg_A := bg_3 (List.mem_of_getElem? (i := 121) rfl) rfl
theorem bw_602 : Cond.instanceMethod yX6_jump ∈ bg_A := bg_3 (List.mem_of_getElem? (i := 122) rfl) rfl
theorem bw_603 : Cond.selects RX6 yX6_jump yX6_jump ∈ bg_A := bg_3 (List.mem_of_getElem? (i := 123) rfl) rfl
theorem bw_604 : Cond.code yX6_jump cX6_jump 4 (some FieldType.int) ∈ bg_A := bg_3 (List.mem_of_getElem? (i := 124) rfl) rfl
theorem bw_605 : Cond.methodLink RX6 150 yX6_may ∈ bg_A := bg_3 (List.mem_of_getElem? (i := 125) rfl) rfl
theorem bw_607 : Cond.instanceMethod yX6_may ∈ bg_A := bg_3 (List.mem_of_getElem? (i := 127) rfl) rfl
theorem bw_608 : Cond.code yX6_may cX6_may 4 (some FieldType.boolean) ∈ bg_A := bg_3 (List.mem_of_getElem? (i := 128) rfl) rfl
theorem bw_609 : Cond.methodLink RL 88 yX6_overlap ∈ bg_A := bg_3 (List.mem_of_getElem? (i := 129) rfl) rfl
theorem bw_610 : Cond.instanceMethod yX6_overlap ∈ bg_A := bg_3 (List.mem_of_getElem? (i := 130) rfl) rfl
theorem bw_611 : Cond.selects RX6 yX6_overlap yX6_overlap ∈ bg_A := bg_3 (List.mem_of_getElem? (i := 131) rfl) rfl
theorem bw_612 : Cond.code yX6_overlap cX6_overlap 7 (some FieldType.int) ∈ bg_A := bg_3 (List.mem_of_getElem? (i := 132) rfl) rfl
theorem bw_613 : Cond.methodLink RL 92 yX6_way ∈ bg_A := bg_3 (List.mem_of_getElem? (i := 133) rfl) rfl
theorem bw_614 : Cond.instanceMethod yX6_way ∈ bg_A := bg_3 (List.mem_of_getElem? (i := 134) rfl) rfl
theorem bw_615 : Cond.selects RX6 yX6_way yX6_way ∈ bg_A := bg_3 (List.mem_of_getElem? (i := 135) rfl) rfl
theorem bw_616 : Cond.code yX6_way cX6_way 6 (some FieldType.int) ∈ bg_A := bg_3 (List.mem_of_getElem? (i := 136) rfl) rfl
theorem bw_617 : Cond.methodLink RX6 157 yX6_nextOf ∈ bg_A := bg_3 (List.mem_of_getElem? (i := 137) rfl) rfl
theorem bw_619 : Cond.instanceMethod yX6_nextOf ∈ bg_A := bg_3 (List.mem_of_getElem? (i := 139) rfl) rfl
theorem bw_620 : Cond.code yX6_nextOf cX6_nextOf 5 (some FieldType.int) ∈ bg_A := bg_3 (List.mem_of_getElem? (i := 140) rfl) rfl
theorem bw_621 : Cond.methodLink RX6 154 yX6_present ∈ bg_A := bg_3 (List.mem_of_getElem? (i := 141) rfl) rfl
theorem bw_623 : Cond.instanceMethod yX6_present ∈ bg_A := bg_3 (List.mem_of_getElem? (i := 143) rfl) rfl
theorem bw_624 : Cond.code yX6_present cX6_present 4 (some FieldType.int) ∈ bg_A := bg_3 (List.mem_of_getElem? (i := 144) rfl) rfl
theorem bw_625 : Cond.constantLong RX6 160 (-1) ∈ bg_A := bg_3 (List.mem_of_getElem? (i := 145) rfl) rfl
theorem bw_626 : Cond.methodLink RL 96 yX6_count ∈ bg_A := bg_3 (List.mem_of_getElem? (i := 146) rfl) rfl
theorem bw_627 : Cond.instanceMethod yX6_count ∈ bg_A := bg_3 (List.mem_of_getElem? (i := 147) rfl) rfl
theorem bw_628 : Cond.selects RX6 yX6_count yX6_count ∈ bg_A := bg_3 (List.mem_of_getElem? (i := 148) rfl) rfl
theorem bw_629 : Cond.code yX6_count cX6_count 4 (some FieldType.int) ∈ bg_A := bg_3 (List.mem_of_getElem? (i := 149) rfl) rfl
theorem bs_0 : Cond.selects RX5 yX5_isMove yX5_isMove ∈ bg_A := List.mem_filter.mpr ⟨List.mem_append_left _ (List.mem_of_getElem? (i := 0) rfl), rfl⟩
theorem bs_1 : Cond.selects RX5 yX5_beginNextHeight yX5_beginNextHeight ∈ bg_A := List.mem_filter.mpr ⟨List.mem_append_left _ (List.mem_of_getElem? (i := 1) rfl), rfl⟩
theorem bs_2 : Cond.selects RX5 yX5_giveRewards yX5_giveRewards ∈ bg_A := List.mem_filter.mpr ⟨List.mem_append_left _ (List.mem_of_getElem? (i := 2) rfl), rfl⟩
theorem bs_3 : Cond.selects RX5 yX5_pot yX5_pot ∈ bg_A := List.mem_filter.mpr ⟨List.mem_append_left _ (List.mem_of_getElem? (i := 3) rfl), rfl⟩
theorem bs_4 : Cond.selects RX5 yX5_payNode yX5_payNode ∈ bg_A := List.mem_filter.mpr ⟨List.mem_append_left _ (List.mem_of_getElem? (i := 4) rfl), rfl⟩
theorem bs_5 : Cond.selects RX5 yX5_fixSet yX5_fixSet ∈ bg_A := List.mem_filter.mpr ⟨List.mem_append_left _ (List.mem_of_getElem? (i := 5) rfl), rfl⟩
theorem bs_6 : Cond.selects RX5 yX5_hasSet yX5_hasSet ∈ bg_A := List.mem_filter.mpr ⟨List.mem_append_left _ (List.mem_of_getElem? (i := 6) rfl), rfl⟩
theorem bs_7 : Cond.selects RX5 yX5_isUpward yX5_isUpward ∈ bg_A := List.mem_filter.mpr ⟨List.mem_append_left _ (List.mem_of_getElem? (i := 7) rfl), rfl⟩
theorem bs_8 : Cond.selects RX6 yX6_noNode yX6_noNode ∈ bg_A := List.mem_filter.mpr ⟨List.mem_append_left _ (List.mem_of_getElem? (i := 8) rfl), rfl⟩
theorem bs_9 : Cond.selects RX6 yX6_payFor yX6_payFor ∈ bg_A := List.mem_filter.mpr ⟨List.mem_append_left _ (List.mem_of_getElem? (i := 9) rfl), rfl⟩
theorem bs_10 : Cond.selects RX6 yX6_allOf yX6_allOf ∈ bg_A := List.mem_filter.mpr ⟨List.mem_append_left _ (List.mem_of_getElem? (i := 10) rfl), rfl⟩
theorem bs_11 : Cond.selects RX6 yX6_deal yX6_deal ∈ bg_A := List.mem_filter.mpr ⟨List.mem_append_left _ (List.mem_of_getElem? (i := 11) rfl), rfl⟩
theorem bs_12 : Cond.selects RX6 yX6_fix yX6_fix ∈ bg_A := List.mem_filter.mpr ⟨List.mem_append_left _ (List.mem_of_getElem? (i := 12) rfl), rfl⟩
theorem bs_13 : Cond.selects RX6 yX6_about5 yX6_about5 ∈ bg_A := List.mem_filter.mpr ⟨List.mem_append_left _ (List.mem_of_getElem? (i := 13) rfl), rfl⟩
theorem bs_14 : Cond.selects RX6 yX6_drawnOf yX6_drawnOf ∈ bg_A := List.mem_filter.mpr ⟨List.mem_append_left _ (List.mem_of_getElem? (i := 14) rfl), rfl⟩
theorem bs_15 : Cond.selects RX6 yX6_noHeight yX6_noHeight ∈ bg_A := List.mem_filter.mpr ⟨List.mem_append_left _ (List.mem_of_getElem? (i := 15) rfl), rfl⟩
theorem bs_16 : Cond.selects RX6 yX6_noBits yX6_noBits ∈ bg_A := List.mem_filter.mpr ⟨List.mem_append_left _ (List.mem_of_getElem? (i := 16) rfl), rfl⟩
theorem bs_17 : Cond.selects RX6 yX6_isGood yX6_isGood ∈ bg_A := List.mem_filter.mpr ⟨List.mem_append_left _ (List.mem_of_getElem? (i := 17) rfl), rfl⟩
theorem bs_18 : Cond.selects RX6 yX6_weightOf yX6_weightOf ∈ bg_A := List.mem_filter.mpr ⟨List.mem_append_left _ (List.mem_of_getElem? (i := 18) rfl), rfl⟩
theorem bs_19 : Cond.selects RX6 yX6_may yX6_may ∈ bg_A := List.mem_filter.mpr ⟨List.mem_append_left _ (List.mem_of_getElem? (i := 19) rfl), rfl⟩
theorem bs_20 : Cond.selects RX6 yX6_nextOf yX6_nextOf ∈ bg_A := List.mem_filter.mpr ⟨List.mem_append_left _ (List.mem_of_getElem? (i := 20) rfl), rfl⟩
theorem bs_21 : Cond.selects RX6 yX6_present yX6_present ∈ bg_A := List.mem_filter.mpr ⟨List.mem_append_left _ (List.mem_of_getElem? (i := 21) rfl), rfl⟩
theorem bi_0 : ∀ w ∈ wsX00, w ∈ bg_A := by
  intro w h
  refine List.mem_filter.mpr ⟨List.mem_append_right _ ?_, ?_⟩
  · revert w; decide +kernel
  · revert w; decide +kernel
theorem bi_1 : ∀ w ∈ wsX10, w ∈ bg_A := by
  intro w h
  refine List.mem_filter.mpr ⟨List.mem_append_right _ ?_, ?_⟩
  · revert w; decide +kernel
  · revert w; decide +kernel
theorem bi_2 : ∀ w ∈ wsX20, w ∈ bg_A := by
  intro w h
  refine List.mem_filter.mpr ⟨List.mem_append_right _ ?_, ?_⟩
  · revert w; decide +kernel
  · revert w; decide +kernel
theorem bi_3 : ∀ w ∈ wsX30, w ∈ bg_A := by
  intro w h
  refine List.mem_filter.mpr ⟨List.mem_append_right _ ?_, ?_⟩
  · revert w; decide +kernel
  · revert w; decide +kernel
theorem bi_4 : ∀ w ∈ wsX40, w ∈ bg_A := by
  intro w h
  refine List.mem_filter.mpr ⟨List.mem_append_right _ ?_, ?_⟩
  · revert w; decide +kernel
  · revert w; decide +kernel
theorem bi_5 : ∀ w ∈ wsX50, w ∈ bg_A := by
  intro w h
  refine List.mem_filter.mpr ⟨List.mem_append_right _ ?_, ?_⟩
  · revert w; decide +kernel
  · revert w; decide +kernel
theorem bi_6 : ∀ w ∈ wsX60, w ∈ bg_A := by
  intro w h
  refine List.mem_filter.mpr ⟨List.mem_append_right _ ?_, ?_⟩
  · revert w; decide +kernel
  · revert w; decide +kernel
end
section
/-! the base of the rows: contracts, entry, calls with cut and join, ends, arrays by natural numbers -/
abbrev cl_A : List vw_C := [(RX0, TX0, 5), (RX1, TX1, 6), (RX2, TX2, 5), (RX3, TX3, 2), (RX4, TX4, 2), (RX5, TX5, 7), (RX6, TX6, 24)]
abbrev ty_A (cI cJ cZ : ClassId) : List (ClassId × FieldType) := [(cI, .int), (cJ, .long), (cZ, .boolean)]
abbrev ar_I (a : Nat) (cI : ClassId) (n : Nat) (f : Nat → Int32) : Nat × va_E := (a, .inl (cI, n, .inl f))
abbrev ar_L (a : Nat) (cJ : ClassId) (n : Nat) (f : Nat → Int64) : Nat × va_E := (a, .inl (cJ, n, .inr (.inl f)))
abbrev ob_J (a ci : Nat) (fs : List Value) : Nat × va_E := (a, .inr (ci, fs))
/-- the links between nest mates -/
def hw_N (U : State) : Prop := va_Nw (.methodLinkNest RX0 21 yX5_duePlace RX5) U ∧ va_Nw (.methodLinkNest RX0 25 yX5_stakePlace RX5) U ∧ va_Nw (.methodLinkNest RX2 27 yX5_setPlace RX5) U ∧ va_Nw (.methodLinkNest RX5 20 yX0_init RX5) U ∧ va_Nw (.methodLinkNest RX5 27 yX1_init RX5) U ∧ va_Nw (.methodLinkNest RX5 34 yX2_init RX5) U ∧ va_Nw (.methodLinkNest RX5 41 yX3_init RX5) U ∧ va_Nw (.methodLinkNest RX5 48 yX4_init RX5) U
theorem hw_N.warm {s U : State} (hW : s.WarmedH U.vm) (h : hw_N s) : hw_N U :=
  ⟨h.1.warmM hW, h.2.1.warmM hW, h.2.2.1.warmM hW, h.2.2.2.1.warmM hW, h.2.2.2.2.1.warmM hW, h.2.2.2.2.2.1.warmM hW, h.2.2.2.2.2.2.1.warmM hW, h.2.2.2.2.2.2.2.warmM hW⟩
theorem hw_N.same {u U : State} (e : u.vm = U.vm) (h : hw_N u) : hw_N U :=
  ⟨h.1.same rfl e, h.2.1.same rfl e, h.2.2.1.same rfl e, h.2.2.2.1.same rfl e, h.2.2.2.2.1.same rfl e, h.2.2.2.2.2.1.same rfl e, h.2.2.2.2.2.2.1.same rfl e, h.2.2.2.2.2.2.2.same rfl e⟩
def pr_W (D : va_G) (cI cJ cZ : ClassId) (ws : va_W) (sz : Nat) (U : State) : Prop := U.heap.size = sz ∧ va_P D cl_A ws U.heap ∧ va_K D cl_A (ty_A cI cJ cZ) U ∧ va_D (fun _ => True) ws ∧ hw_N U
def af_W (D : va_G) (cI cJ cZ : ClassId) (A : Nat → Prop) (ws : va_W) (t : State) : Prop := va_P D cl_A ws t.heap ∧ va_K D cl_A (ty_A cI cJ cZ) t ∧ va_D A ws
abbrev rm_M (fr lo : Nat) : Room := { frames := fr, cells := 0, slots := 0, locals := lo }
/-- a contract: an answer of one word -/
def mt_I (l : Launch) (y : MethodName) (cc : ByteArray) (maxL : Nat) (rt : FieldType) (fr lo : Nat) (D : va_G) (cI cJ cZ : ClassId) (ws : va_W) (av : List Value) {S : Type} (post : Int32 → S → Prop) (w1 : S → va_W) : Prop :=
  ∀ sz : Nat, Met l y (.code y cc maxL (some rt) :: bg_A) (rm_M fr lo) (va_Pc av (pr_W D cI cJ cZ ws sz)) (va_Qi post (fun u => af_W D cI cJ cZ (va_A ws sz) (w1 u)) (va_A ws sz)) 0 0 (va_A ws sz)
/-- a contract: no answer -/
def mt_V (l : Launch) (y : MethodName) (cc : ByteArray) (maxL : Nat) (fr lo : Nat) (D : va_G) (cI cJ cZ : ClassId) (ws : va_W) (av : List Value) {S : Type} (post : S → Prop) (w1 : S → va_W) : Prop :=
  ∀ sz : Nat, Met l y (.code y cc maxL none :: bg_A) (rm_M fr lo) (va_Pc av (pr_W D cI cJ cZ ws sz)) (va_Qv post (fun u => af_W D cI cJ cZ (va_A ws sz) (w1 u)) (va_A ws sz)) 0 0 (va_A ws sz)
theorem gd_C {y : MethodName} {cb : ByteArray} {n : Nat} {r : Option FieldType} (hc : Cond.code y cb n r ∈ bg_A) : GoodIn bg_A (Cond.code y cb n r :: bg_A) := fun w hw => by
  have h : w ∈ bg_A := (List.mem_cons.mp hw).elim (fun e => e ▸ hc) id
  exact ⟨h, good_of_word (List.mem_filter.mp h).2⟩
theorem bl_W {D : va_G} {cI cJ cZ : ClassId} {ws : va_W} {sz : Nat} {av : List Value} : FrameBlind (va_Pc av (pr_W D cI cJ cZ ws sz)) := by
  intro a U g mk q
  obtain ⟨q0, q1, qP, qK, qD, qN⟩ := q
  exact ⟨q0, q1, qP, va_K.moved (u := U) (U := U.calling g mk a) (Vm.Alike.refl U.vm) qK, qD, qN.same rfl⟩
/-! numbers -/
abbrev tn_X (x : Int32) : Nat := x.toNatClampNeg
theorem nn_add {x y : Int32} {a b : Nat} (hx : x = nI a) (hy : y = nI b) : x + y = nI (a + b) := by rw [hx, hy, nI_add]
theorem nn_mul {x y : Int32} {a b : Nat} (hx : x = nI a) (hy : y = nI b) : x * y = nI (a * b) := by rw [hx, hy, pk_mul]
theorem nn_sub {x y : Int32} {a b : Nat} (hx : x = nI a) (hy : y = nI b) (h : b ≤ a) : x - y = nI (a - b) := by rw [hx, hy, pk_sub h]
theorem nn_dec {a : Nat} (h : 0 < a) : nI a + Int32.ofInt (-1) = nI (a - 1) := sb_m1 h
theorem qq_eq {a b : Nat} (h : nI a = nI b) (ha : a < 2 ^ 31) (hb : b < 2 ^ 31) : a = b := (nI_eq ha hb).mp h
theorem qq_ne {a b : Nat} (h : ¬ nI a = nI b) (ha : a < 2 ^ 31) (hb : b < 2 ^ 31) : ¬ a = b := fun z => h ((nI_eq ha hb).mpr z)
theorem qq_lt {a b : Nat} (h : nI a < nI b) (ha : a < 2 ^ 31) (hb : b < 2 ^ 31) : a < b := (nI_ltI ha hb).mp h
theorem qq_nlt {a b : Nat} (h : ¬ nI a < nI b) (ha : a < 2 ^ 31) (hb : b < 2 ^ 31) : b ≤ a := Nat.not_lt.mp fun z => h ((nI_ltI ha hb).mpr z)
theorem qq_ge {a b : Nat} (h : nI b ≤ nI a) (ha : a < 2 ^ 31) (hb : b < 2 ^ 31) : b ≤ a := (nI_leI hb ha).mp h
theorem qq_nge {a b : Nat} (h : ¬ nI b ≤ nI a) (ha : a < 2 ^ 31) (hb : b < 2 ^ 31) : a < b := Nat.not_le.mp fun z => h ((nI_leI hb ha).mpr z)
theorem qq_gt {a b : Nat} (h : nI b < nI a) (ha : a < 2 ^ 31) (hb : b < 2 ^ 31) : b < a := (nI_ltI hb ha).mp h
theorem qq_ngt {a b : Nat} (h : ¬ nI b < nI a) (ha : a < 2 ^ 31) (hb : b < 2 ^ 31) : a ≤ b := Nat.not_lt.mp fun z => h ((nI_ltI hb ha).mpr z)
theorem qq_le {a b : Nat} (h : nI a ≤ nI b) (ha : a < 2 ^ 31) (hb : b < 2 ^ 31) : a ≤ b := (nI_leI ha hb).mp h
theorem qq_nle {a b : Nat} (h : ¬ nI a ≤ nI b) (ha : a < 2 ^ 31) (hb : b < 2 ^ 31) : b < a := Nat.not_le.mp fun z => h ((nI_leI ha hb).mpr z)
theorem lc_lt {x y : Int64} (h : lg_cmp x y < 0) : x < y := by
  unfold lg_cmp at h
  split at h
  · exact absurd h (by decide)
  · split at h
    · exact absurd h (by decide)
    · rename_i h1 h2
      exact Int64.lt_of_le_of_ne (Int64.not_lt.mp h1) h2
theorem lc_nlt {x y : Int64} (h : ¬ lg_cmp x y < 0) : ¬ x < y := by
  intro z
  have h1 : ¬ y < x := Int64.not_lt.mpr (Int64.le_of_lt z)
  have h2 : ¬ x = y := Int64.ne_of_lt z
  exact h (by simp [lg_cmp, h1, h2])
theorem lc_gt {x y : Int64} (h : 0 < lg_cmp x y) : y < x := by
  unfold lg_cmp at h
  split at h
  · assumption
  · split at h
    · exact absurd h (by decide)
    · exact absurd h (by decide)
theorem lc_ngt {x y : Int64} (h : ¬ 0 < lg_cmp x y) : ¬ y < x := fun z => h (by simp [lg_cmp, z])
theorem lc_le {x y : Int64} (h : lg_cmp x y ≤ 0) : ¬ y < x := fun z => by simp [lg_cmp, z] at h
theorem lc_nle {x y : Int64} (h : ¬ lg_cmp x y ≤ 0) : y < x := by
  apply Decidable.byContradiction
  intro z
  apply h
  by_cases e : x = y
  · simp [lg_cmp, e]
  · simp [lg_cmp, e, z]
theorem lc_ge {x y : Int64} (h : 0 ≤ lg_cmp x y) : ¬ x < y := lc_nlt (Int32.not_lt.mpr h)
theorem lc_nge {x y : Int64} (h : ¬ 0 ≤ lg_cmp x y) : x < y := lc_lt (Int32.not_le.mp h)
theorem lc_eq {x y : Int64} (h : lg_cmp x y = 0) : x = y := by
  unfold lg_cmp at h
  split at h
  · exact absurd h (by decide)
  · split at h
    · assumption
    · exact absurd h (by decide)
theorem lc_ne {x y : Int64} (h : ¬ lg_cmp x y = 0) : ¬ x = y := fun z => h (by simp [lg_cmp, z])
theorem sw_out {x : Int32} (n : Nat) (h : ∀ z : Nat, z ≤ n → ¬ x = nI z) : x.toInt < 0 ∨ (n : Int) < x.toInt := by
  apply Decidable.byContradiction
  intro q
  have h1 : 0 ≤ x.toInt := by omega
  have h2 : x.toInt ≤ n := by omega
  refine h x.toInt.toNat (by omega) ?_
  apply Int32.toInt_inj.mp
  have h3 : x.toInt < 2 ^ 31 := Int32.toInt_lt x
  rw [nI_toInt (by omega)]
  omega
section BS
variable {p : Program} {l : Launch} {e : Env} {R : Room} {s : State} {m : MethodId} {args : Array Value} {below : List Frame} {meth : Method} {c : Code} {H : Heap} {locs : List Loc} {cells slots : Nat} {Q : State → Prop}
variable {D : va_G} {cI cJ cZ : ClassId} {A : Nat → Prop} {ws wc wr : va_W} {cc cb : ByteArray} {pc : Nat} {ls : Array Slot} {rest st0 As : List Value} {own C : String} {y : MethodName} {index maxB nL n fr lo b ci q0 : Nat}
theorem en_I {S : Type} {post : Int32 → S → Prop} {w1 : S → va_W} {rt : FieldType} {maxL : Nat} {av : List Value} (hy : plainName y.cls = true) (hlen : (lg_sl av).length ≤ maxL)
    (k : ∀ (p : Program) (e : Env) (s : State) (m : MethodId) (below : List Frame) (meth : Method) (c : Code) (A : Nat → Prop) (ls : Array Slot) (H : Heap) (locs : List Loc), p.tables.exec = Jvm.exec → c.code = cc → meth.sig.returnType = some rt → c.maxLocals = maxL → (∀ w ∈ bg_A, w.before av.toArray s = true) → s.vm.findClass y.cls = some m.cls → meth.locks = false → hw_N s → va_K D cl_A (ty_A cI cJ cZ) s → (∀ q, s.heap.size ≤ q → A q) → va_P D cl_A ws H → va_D A ws → va_S A s.heap H locs → lv_has ls maxL (lv_args 0 av) →
      W p l e (rm_M fr lo) s m av.toArray below meth c H locs 0 0 (MQ below (va_Qi post (fun u => af_W D cI cJ cZ A (w1 u)) A) av.toArray s 0 0 A) (F0 m 0 ls [])) : mt_I l y cc maxL rt fr lo D cI cJ cZ ws av post w1 := by
  intro sz
  refine Met.ofW (cc := cc) (maxL := maxL) (ret := some rt) hy rfl ?_
  intro p e s m args below meth c s₁ B hml hv
  obtain ⟨rfl, hsz, hP, hK, hD0, hN⟩ := hv
  subst hsz
  have hts := atoms_spec (ws := .code y cc maxL (some rt) :: bg_A) B.pre
  rw [lg_entry_eq]
  exact k p e s m below meth c (va_A ws s.heap.size) _ s.heap [] B.exec B.bytes B.returns hml (fun w h => hts w (List.mem_cons_of_mem _ h)) (findClass_of_methodNamed B.named) B.notSynchronized hN hK (fun q h => Or.inr h) hP hD0.self va_S.rf (lv_entry av hlen)
theorem en_V {S : Type} {post : S → Prop} {w1 : S → va_W} {maxL : Nat} {av : List Value} (hy : plainName y.cls = true) (hlen : (lg_sl av).length ≤ maxL)
    (k : ∀ (p : Program) (e : Env) (s : State) (m : MethodId) (below : List Frame) (meth : Method) (c : Code) (A : Nat → Prop) (ls : Array Slot) (H : Heap) (locs : List Loc), p.tables.exec = Jvm.exec → c.code = cc → meth.sig.returnType = none → c.maxLocals = maxL → (∀ w ∈ bg_A, w.before av.toArray s = true) → s.vm.findClass y.cls = some m.cls → meth.locks = false → hw_N s → va_K D cl_A (ty_A cI cJ cZ) s → (∀ q, s.heap.size ≤ q → A q) → va_P D cl_A ws H → va_D A ws → va_S A s.heap H locs → lv_has ls maxL (lv_args 0 av) →
      W p l e (rm_M fr lo) s m av.toArray below meth c H locs 0 0 (MQ below (va_Qv post (fun u => af_W D cI cJ cZ A (w1 u)) A) av.toArray s 0 0 A) (F0 m 0 ls [])) : mt_V l y cc maxL fr lo D cI cJ cZ ws av post w1 := by
  intro sz
  refine Met.ofW (cc := cc) (maxL := maxL) (ret := none) hy rfl ?_
  intro p e s m args below meth c s₁ B hml hv
  obtain ⟨rfl, hsz, hP, hK, hD0, hN⟩ := hv
  subst hsz
  have hts := atoms_spec (ws := .code y cc maxL none :: bg_A) B.pre
  rw [lg_entry_eq]
  exact k p e s m below meth c (va_A ws s.heap.size) _ s.heap [] B.exec B.bytes B.returns hml (fun w h => hts w (List.mem_cons_of_mem _ h)) (findClass_of_methodNamed B.named) B.notSynchronized hN hK (fun q h => Or.inr h) hP hD0.self va_S.rf (lv_entry av hlen)
/-- the end with an answer -/
theorem re_I {S : Type} {post : Int32 → S → Prop} {w1 : S → va_W} {v : Int32} {rt : FieldType} (hexec : p.tables.exec = Jvm.exec) (hb : c.code = cc) (hr : meth.sig.returnType = some rt) (hlk : meth.locks = false) (hK : va_K D cl_A (ty_A cI cJ cZ) s) (hS : va_S A s.heap H locs) (hn : narrow rt (.int v) = .int v) (u : S) (hP : va_P D cl_A (w1 u) H) (hD : va_D A (w1 u)) (hpost : post v u) (hdg : decode cc pc = .ok (.ireturn, 1)) :
    W p l e R s m args below meth c H locs cells slots (MQ below (va_Qi post (fun u => af_W D cI cJ cZ A (w1 u)) A) args s cells slots A) (F0 m pc ls [.int v]) :=
  W.zret hexec hb hr hn (fun _ ht hW => ⟨⟨v, u, rfl, hpost, by rw [ht]; exact hP, va_K.moved hW.alike hK, hD⟩, hS.F ht⟩) hS.2.2 hdg hlk
theorem re_V {S : Type} {post : S → Prop} {w1 : S → va_W} (hexec : p.tables.exec = Jvm.exec) (hb : c.code = cc) (hr : meth.sig.returnType = none) (hlk : meth.locks = false) (hK : va_K D cl_A (ty_A cI cJ cZ) s) (hS : va_S A s.heap H locs) (u : S) (hP : va_P D cl_A (w1 u) H) (hD : va_D A (w1 u)) (hpost : post u) (hdg : decode cc pc = .ok (.return_, 1)) :
    W p l e R s m args below meth c H locs cells slots (MQ below (va_Qv post (fun u => af_W D cI cJ cZ A (w1 u)) A) args s cells slots A) (F0 m pc ls []) :=
  W.vret hexec hb hr (fun _ ht hW => ⟨⟨u, rfl, hpost, by rw [ht]; exact hP, va_K.moved hW.alike hK, hD⟩, hS.F ht⟩) hS.2.2 hdg hlk
/-- the same top, said otherwise -/
theorem tp_i {x x' : Int32} (h : x = x') (k : W p l e R s m args below meth c H locs cells slots Q (F0 m pc ls (.int x' :: rest))) : W p l e R s m args below meth c H locs cells slots Q (F0 m pc ls (.int x :: rest)) := h ▸ k
theorem tp_l {x x' : Int64} (h : x = x') (k : W p l e R s m args below meth c H locs cells slots Q (F0 m pc ls (.long x' :: rest))) : W p l e R s m args below meth c H locs cells slots Q (F0 m pc ls (.long x :: rest)) := h ▸ k
theorem lv_ct {n : Nat} {l1 l2 : List (Nat × Value)} (h : lv_has ls n l1) (e : l1 = l2) : lv_has ls n l2 := e ▸ h
/-- arrays, by natural numbers -/
theorem ar_ld (hexec : p.tables.exec = Jvm.exec) (hb : c.code = cc) (hK : va_K D cl_A (ty_A cI cJ cZ) s) (hP : va_P D cl_A ws H) (q0 : Nat) {n k : Nat} {f : Nat → Int32} {a : Nat} (ha : ws[q0]? = some (ar_I a cI n f)) {i : Int32} (hi : i = nI k) (hk : k < n) (hn : n < 2 ^ 31) (hdg : decode cc pc = .ok (.iaload, 1))
    (kk : W p l e R s m args below meth c H locs cells slots Q (F0 m (pc + 1) ls (.int (f k) :: rest))) : W p l e R s m args below meth c H locs cells slots Q (F0 m pc ls (.int i :: .ref a :: rest)) := by
  subst hi
  refine va_iald hexec hb hK hP q0 0 ha rfl (vp_in_nI hk hn) hdg ?_
  rw [nI_clamp (Nat.lt_trans hk hn)]; exact kk
theorem ar_zd (hexec : p.tables.exec = Jvm.exec) (hb : c.code = cc) (hK : va_K D cl_A (ty_A cI cJ cZ) s) (hP : va_P D cl_A ws H) (q0 : Nat) {n k : Nat} {f : Nat → Int32} {a : Nat} (ha : ws[q0]? = some (ar_I a cZ n f)) {i : Int32} (hi : i = nI k) (hk : k < n) (hn : n < 2 ^ 31) (hdg : decode cc pc = .ok (.baload, 1))
    (kk : W p l e R s m args below meth c H locs cells slots Q (F0 m (pc + 1) ls (.int (f k) :: rest))) : W p l e R s m args below meth c H locs cells slots Q (F0 m pc ls (.int i :: .ref a :: rest)) := by
  subst hi
  refine va_zald hexec hb hK hP q0 2 ha rfl (vp_in_nI hk hn) hdg ?_
  rw [nI_clamp (Nat.lt_trans hk hn)]; exact kk
theorem ar_lld (hexec : p.tables.exec = Jvm.exec) (hb : c.code = cc) (hK : va_K D cl_A (ty_A cI cJ cZ) s) (hP : va_P D cl_A ws H) (q0 : Nat) {n k : Nat} {f : Nat → Int64} {a : Nat} (ha : ws[q0]? = some (ar_L a cJ n f)) {i : Int32} (hi : i = nI k) (hk : k < n) (hn : n < 2 ^ 31) (hdg : decode cc pc = .ok (.laload, 1))
    (kk : W p l e R s m args below meth c H locs cells slots Q (F0 m (pc + 1) ls (.long (f k) :: rest))) : W p l e R s m args below meth c H locs cells slots Q (F0 m pc ls (.int i :: .ref a :: rest)) := by
  subst hi
  refine va_lald hexec hb hK hP q0 1 ha rfl (vp_in_nI hk hn) hdg ?_
  rw [nI_clamp (Nat.lt_trans hk hn)]; exact kk
theorem ar_st (hexec : p.tables.exec = Jvm.exec) (hb : c.code = cc) (hK : va_K D cl_A (ty_A cI cJ cZ) s) (hP : va_P D cl_A ws H) (hD : va_D A ws) (hS : va_S A s.heap H locs) (q0 : Nat) {n k : Nat} {f : Nat → Int32} {a : Nat} (ha : ws[q0]? = some (ar_I a cI n f)) {i x : Int32} (hi : i = nI k) (hk : k < n) (hn : n < 2 ^ 31) (hdg : decode cc pc = .ok (.iastore, 1)) (w2 : va_W) (h2 : ws.set q0 (ar_I a cI n (upd f k x)) = w2)
    (kk : ∀ (H1 : Heap) (locs1 : List Loc), va_P D cl_A w2 H1 → va_D A w2 → va_S A s.heap H1 locs1 → W p l e R s m args below meth c H1 locs1 cells slots Q (F0 m (pc + 1) ls rest)) : W p l e R s m args below meth c H locs cells slots Q (F0 m pc ls (.int x :: .int i :: .ref a :: rest)) := by
  subst hi; subst h2
  refine va_iast hexec hb hK hP hD hS q0 0 ha rfl (vp_in_nI hk hn) hdg ?_
  rw [nI_clamp (Nat.lt_trans hk hn)]; exact kk
theorem ar_lst (hexec : p.tables.exec = Jvm.exec) (hb : c.code = cc) (hK : va_K D cl_A (ty_A cI cJ cZ) s) (hP : va_P D cl_A ws H) (hD : va_D A ws) (hS : va_S A s.heap H locs) (q0 : Nat) {n k : Nat} {f : Nat → Int64} {a : Nat} (ha : ws[q0]? = some (ar_L a cJ n f)) {i : Int32} {x : Int64} (hi : i = nI k) (hk : k < n) (hn : n < 2 ^ 31) (hdg : decode cc pc = .ok (.lastore, 1)) (w2 : va_W) (h2 : ws.set q0 (ar_L a cJ n (vp_updL f k x)) = w2)
    (kk : ∀ (H1 : Heap) (locs1 : List Loc), va_P D cl_A w2 H1 → va_D A w2 → va_S A s.heap H1 locs1 → W p l e R s m args below meth c H1 locs1 cells slots Q (F0 m (pc + 1) ls rest)) : W p l e R s m args below meth c H locs cells slots Q (F0 m pc ls (.long x :: .int i :: .ref a :: rest)) := by
  subst hi; subst h2
  refine va_last hexec hb hK hP hD hS q0 1 ha rfl (vp_in_nI hk hn) hdg ?_
  rw [nI_clamp (Nat.lt_trans hk hn)]; exact kk
theorem ar_zst (hexec : p.tables.exec = Jvm.exec) (hb : c.code = cc) (hK : va_K D cl_A (ty_A cI cJ cZ) s) (hP : va_P D cl_A ws H) (hD : va_D A ws) (hS : va_S A s.heap H locs) (q0 : Nat) {n k : Nat} {f : Nat → Int32} {a : Nat} (ha : ws[q0]? = some (ar_I a cZ n f)) {i x : Int32} (hi : i = nI k) (hk : k < n) (hn : n < 2 ^ 31) (hx1 : vp_nar .boolean x = x) (hdg : decode cc pc = .ok (.bastore, 1)) (w2 : va_W) (h2 : ws.set q0 (ar_I a cZ n (upd f k x)) = w2)
    (kk : ∀ (H1 : Heap) (locs1 : List Loc), va_P D cl_A w2 H1 → va_D A w2 → va_S A s.heap H1 locs1 → W p l e R s m args below meth c H1 locs1 cells slots Q (F0 m (pc + 1) ls rest)) : W p l e R s m args below meth c H locs cells slots Q (F0 m pc ls (.int x :: .int i :: .ref a :: rest)) := by
  subst hi; subst h2
  refine va_zast hexec hb hK hP hD hS q0 2 ha rfl (vp_in_nI hk hn) hdg ?_
  rw [nI_clamp (Nat.lt_trans hk hn), hx1]; exact kk
theorem ar_cp (hexec : p.tables.exec = Jvm.exec) (hb : c.code = cc) (hml : c.maxLocals = ls.size) (hown : s.vm.findClass own = some m.cls) (hlink : (Cond.methodLink own index arraycopyName).before args s = true) (hnat : (Cond.native arraycopyName).before args s = true) (hstat : (Cond.static arraycopyName).before args s = true) (hini : (Cond.initialized "java/lang/System").before args s = true)
    (hK : va_K D cl_A (ty_A cI cJ cZ) s) (hP : va_P D cl_A ws H) (hD : va_D A ws) (hS : va_S A s.heap H locs) (q0 q1 : Nat) {a a0 n0 n1 : Nat} {f g : Nat → Int32} (ha0 : ws[q0]? = some (ar_I a0 cI n0 f)) (ha1 : ws[q1]? = some (ar_I a cI n1 g)) {sp dp n : Nat} {xs xd xn : Int32} (h1 : xs = nI sp) (h2 : xd = nI dp) (h3 : xn = nI n) (h4 : sp + n ≤ n0) (h5 : dp + n ≤ n1) (h6 : n0 < 2 ^ 31 ∧ n1 < 2 ^ 31)
    (hfr : 1 ≤ R.frames ∧ (rest.map fun v => v.category).sum + (nativeFrameWords "java/lang/System" "arraycopy" 5 + 11) ≤ R.locals) (hdg : decode cc pc = .ok (.invokestatic index, 3)) (w2 : va_W) (hw2 : ws.set q1 (ar_I a cI n1 (va_cpy f g sp dp n)) = w2)
    (kk : ∀ (H1 : Heap) (locs1 : List Loc), va_P D cl_A w2 H1 → va_D A w2 → va_S A s.heap H1 locs1 → W p l e R s m args below meth c H1 locs1 cells slots Q (F0 m (pc + 3) ls rest)) : W p l e R s m args below meth c H locs cells slots Q (F0 m pc ls (.int xn :: .int xd :: .ref a :: .int xs :: .ref a0 :: rest)) := by
  subst h1; subst h2; subst h3; subst hw2
  have b1 : sp < 2 ^ 31 := by omega
  have b2 : dp < 2 ^ 31 := by omega
  have b3 : n < 2 ^ 31 := by omega
  refine va_copyi hexec hb hml hown hlink hnat hstat hini hK hP hD hS q0 q1 0 0 (ty := .int) ha0 ha1 rfl rfl rfl (nI_pos b1) (nI_pos b2) (nI_pos b3) (by rw [nI_clamp b1, nI_clamp b3]; exact h4) (by rw [nI_clamp b2, nI_clamp b3]; exact h5) (fun _ _ => rfl) hfr.1 hfr.2 hdg ?_
  rw [nI_clamp b1, nI_clamp b2, nI_clamp b3]
  exact kk
/-- a loop: the state at its head is a function of a value; a measure falls -/
theorem lp_g {σ : Type} {nL : Nat} {stk : List Value} (μ : σ → Nat) (W1 : σ → va_W) (L1 : σ → List (Nat × Value)) (F : σ → Prop)
    (body : ∀ (x : σ) (H : Heap) (locs : List Loc) (ls : Array Slot), F x → va_P D cl_A (W1 x) H → va_D A (W1 x) → va_S A s.heap H locs → lv_has ls nL (L1 x) →
      (∀ y : σ, μ y < μ x → F y → ∀ (H : Heap) (locs : List Loc) (ls : Array Slot), va_P D cl_A (W1 y) H → va_D A (W1 y) → va_S A s.heap H locs → lv_has ls nL (L1 y) → W p l e R s m args below meth c H locs cells slots Q (F0 m pc ls stk)) → W p l e R s m args below meth c H locs cells slots Q (F0 m pc ls stk))
    (x : σ) (hF : F x) (hP : va_P D cl_A (W1 x) H) (hD : va_D A (W1 x)) (hS : va_S A s.heap H locs) (hl : lv_has ls nL (L1 x)) : W p l e R s m args below meth c H locs cells slots Q (F0 m pc ls stk) := by
  have key : ∀ (n : Nat) (x : σ), μ x < n → F x → ∀ (H : Heap) (locs : List Loc) (ls : Array Slot), va_P D cl_A (W1 x) H → va_D A (W1 x) → va_S A s.heap H locs → lv_has ls nL (L1 x) → W p l e R s m args below meth c H locs cells slots Q (F0 m pc ls stk) := by
    intro n
    induction n with
    | zero => intro x h; exact absurd h (Nat.not_lt_zero _)
    | succ n ih => intro x hx hF H locs ls hP hD hS hl; exact body x H locs ls hF hP hD hS hl (fun y hy hFy => ih y (by omega) hFy)
  exact key (μ x + 1) x (Nat.lt_succ_self _) hF H locs ls hP hD hS hl
/-- a point that several roads reach -/
theorem mg_g {σ : Type} {nL : Nat} (W1 : σ → va_W) (L1 : σ → List (Nat × Value)) (F : σ → Prop) (stk : σ → List Value) (pj : Nat)
    (body : ∀ (x : σ) (H : Heap) (locs : List Loc) (ls : Array Slot), F x → va_P D cl_A (W1 x) H → va_D A (W1 x) → va_S A s.heap H locs → lv_has ls nL (L1 x) → W p l e R s m args below meth c H locs cells slots Q (F0 m pj ls (stk x)))
    (main : (∀ (x : σ) (H : Heap) (locs : List Loc) (ls : Array Slot), F x → va_P D cl_A (W1 x) H → va_D A (W1 x) → va_S A s.heap H locs → lv_has ls nL (L1 x) → W p l e R s m args below meth c H locs cells slots Q (F0 m pj ls (stk x))) → W p l e R s m args below meth c H locs cells slots Q (F0 m pc ls st0)) : W p l e R s m args below meth c H locs cells slots Q (F0 m pc ls st0) := main body
theorem cs_W {α : Type} {x y : α} (w : α → va_W) (h : x = y) (hP : va_P D cl_A (w x) H) (hD : va_D A (w x)) : va_P D cl_A (w y) H ∧ va_D A (w y) := by subst h; exact ⟨hP, hD⟩
theorem cs_L {α : Type} {x y : α} {n : Nat} (w : α → List (Nat × Value)) (h : x = y) (hl : lv_has ls n (w x)) : lv_has ls n (w y) := by subst h; exact hl
/-- what a call leaves: the rest of the caller's cells beside the callee's, in the caller's order -/
theorem jn_W {S : Type} {w1 w2 : S → va_W} {u : S} {H1 : Heap} (hP : va_P D cl_A ws H) (hD : va_D A ws) (hS : va_S A s.heap H locs) (hA : ∀ q, s.heap.size ≤ q → A q) (isC isR isP : List Nat) (hC : isC.map (fun i => ws[i]?) = wc.map some) (hR : isR.map (fun i => ws[i]?) = wr.map some) (hn : va_nd isR = true) (hdis : ∀ i ∈ isR, i ∉ isC) (hp : isP.map (fun i => (wr ++ w1 u)[i]?) = (w2 u).map some) (hpn : va_nd isP = true)
    (hk : ∀ q : Nat, q < H.size → ¬ va_A wc H.size q → H1[q]? = H[q]?) (hP1 : va_P D cl_A (w1 u) H1) (hD1 : va_D (va_A wc H.size) (w1 u)) : va_P D cl_A (w2 u) H1 ∧ va_D A (w2 u) := by
  obtain ⟨h1, h2⟩ := va_join hP hD isC isR hC hR hn hdis hk (va_free hD hS hA isC hC) hP1 hD1
  refine ⟨h1.sub isP ?_, h2.sub isP hpn hp⟩
  have key : ∀ (L : List Nat) (w : va_W) (v : va_W), L.map (fun i => w[i]?) = v.map some → L.filterMap (fun i => w[i]?) = v := by
    intro L w v h
    have h3 : (L.map (fun i => w[i]?)).filterMap id = (v.map some).filterMap id := by rw [h]
    simpa [List.filterMap_map, Function.comp_def] using h3
  exact key _ _ _ hp
theorem ct_D (hD : va_D A ws) (isC : List Nat) (hn : va_nd isC = true) (hC : isC.map (fun i => ws[i]?) = wc.map some) : va_D (fun _ => True) wc := (hD.sub isC hn hC).weaken (fun _ _ _ _ => trivial)
theorem ct_P (hP : va_P D cl_A ws H) (isC : List Nat) (hC : isC.map (fun i => ws[i]?) = wc.map some) : va_P D cl_A wc H := by
  intro k q hk
  have h1 : (isC.map (fun i => ws[i]?))[k]? = some (some q) := by rw [hC, List.getElem?_map, hk]; rfl
  rw [List.getElem?_map] at h1
  cases hi : isC[k]? with
  | none => rw [hi] at h1; cases h1
  | some i => rw [hi] at h1; exact hP i q (Option.some.inj h1)
theorem ct_pre (hP : va_P D cl_A ws H) (hD : va_D A ws) (hK : va_K D cl_A (ty_A cI cJ cZ) s) (hN : hw_N s) (isC : List Nat) (hn : va_nd isC = true) (hC : isC.map (fun i => ws[i]?) = wc.map some) (av : List Value) : ∀ U : State, U.heap = H → s.WarmedH U.vm → va_Pc av (pr_W D cI cJ cZ wc H.size) av.toArray U := fun U hU hW =>
  ⟨rfl, by rw [hU], by rw [hU]; exact ct_P hP isC hC, va_K.moved hW.alike hK, ct_D hD isC hn hC, hN.warm hW⟩
/-- a call of an instance method, with an answer -/
theorem ca_VI {S : Type} {post : Int32 → S → Prop} {w1 w2 : S → va_W} {rt : FieldType} {fs : List Value} {T : u_T} {N : Nat} (hM : mt_I l y cb maxB rt fr lo D cI cJ cZ wc (.ref b :: As) post w1) (hx : p.tables.exec = Jvm.exec) (hb : c.code = cc) (hml : c.maxLocals = nL) (hown : s.vm.findClass own = some m.cls) (hts : ∀ w ∈ bg_A, w.before args s = true) (hN : hw_N s) (hK : va_K D cl_A (ty_A cI cJ cZ) s) (hA : ∀ q, s.heap.size ≤ q → A q) (hP : va_P D cl_A ws H) (hD : va_D A ws) (hS : va_S A s.heap H locs)
    (ci q0 : Nat) (hci : cl_A[ci]? = some (C, T, N)) (hq0 : wc[q0]? = some (ob_J b ci fs)) (hlink : Cond.methodLink own index y ∈ bg_A) (hinst : Cond.instanceMethod y ∈ bg_A) (hsel : Cond.selects C y y ∈ bg_A) (hini : Cond.initialized y.cls ∈ bg_A) (hcode : Cond.code y cb maxB (some rt) ∈ bg_A)
    (nA : Nat) (hnA : As.length = nA) (hd : y.cls ≠ "java/lang/invoke/MethodHandle" ∧ y.cls ≠ "java/lang/invoke/VarHandle" ∧ (parseMethodDescriptor y.desc).map (fun d => d.parameters.length) = some nA) (hR : fr + 1 ≤ R.frames ∧ 8 + (maxB + 11) + lo ≤ R.locals)
    (isC isR isP : List Nat) (hC : isC.map (fun i => ws[i]?) = wc.map some) (hRr : isR.map (fun i => ws[i]?) = wr.map some) (hnd : (va_nd isC && va_nd isR && va_nd isP && isR.all (fun i => !isC.contains i)) = true) (hp : ∀ u, isP.map (fun i => (wr ++ w1 u)[i]?) = (w2 u).map some)
    (hsz : ls.size = nL) (hst : st0 = As.reverse ++ .ref b :: rest) (hrm : (rest.map fun v => v.category).sum ≤ 8) (hdg : decode cc pc = .ok (.invokevirtual index, 3)) (hcs : cells ≤ R.cells ∧ slots ≤ R.slots)
    (kk : ∀ (r : Int32) (u : S) (H1 : Heap) (locs1 : List Loc), post r u → va_P D cl_A (w2 u) H1 → va_D A (w2 u) → va_S A s.heap H1 locs1 → W p l e R s m args below meth c H1 locs1 cells slots Q (F0 m (pc + 3) ls (.int r :: rest))) : W p l e R s m args below meth c H locs cells slots Q (F0 m pc ls st0) := by
  simp only [Bool.and_eq_true, List.all_eq_true, Bool.not_eq_true'] at hnd
  obtain ⟨⟨⟨n1, n2⟩, n3⟩, n4⟩ := hnd
  have hdis : ∀ i ∈ isR, i ∉ isC := fun i hi hm => by have := n4 i hi; rw [List.contains_iff_mem.mpr hm] at this; cases this
  have hFc := va_free hD hS hA isC hC
  refine va_calli (va_runV (As := As) (rest := rest) ⟨hx, hb, hml, hown, hts⟩ (hM H.size) ⟨callB_of nA hts (gd_C hcode) rfl rfl rfl (hts _ hini) (hts _ hlink) hd hR, hts _ hinst, hts _ hsel⟩ ⟨bl_W, va_recv hK (ct_P hP isC hC) hci hq0, ct_pre hP hD hK hN isC n1 hC _⟩ rfl hnA hsz hst (lv_room hrm) hdg hcs) hS (fun q _ h => hFc q h) hFc (fun r u t H1 locs1 ht hvm hw hB hz1 hk1 hS1 => ?_)
  obtain ⟨hP1, hK1, hD1⟩ := hB
  rw [ht] at hP1
  obtain ⟨h1, h2⟩ := jn_W (w1 := w1) (w2 := w2) (u := u) hP hD hS hA isC isR isP hC hRr n2 hdis (hp u) n3 hk1 hP1 hD1
  exact kk r u H1 locs1 hw h1 h2 hS1
theorem ca_VV {S : Type} {post : S → Prop} {w1 w2 : S → va_W} {fs : List Value} {T : u_T} {N : Nat} (hM : mt_V l y cb maxB fr lo D cI cJ cZ wc (.ref b :: As) post w1) (hx : p.tables.exec = Jvm.exec) (hb : c.code = cc) (hml : c.maxLocals = nL) (hown : s.vm.findClass own = some m.cls) (hts : ∀ w ∈ bg_A, w.before args s = true) (hN : hw_N s) (hK : va_K D cl_A (ty_A cI cJ cZ) s) (hA : ∀ q, s.heap.size ≤ q → A q) (hP : va_P D cl_A ws H) (hD : va_D A ws) (hS : va_S A s.heap H locs)
    (ci q0 : Nat) (hci : cl_A[ci]? = some (C, T, N)) (hq0 : wc[q0]? = some (ob_J b ci fs)) (hlink : Cond.methodLink own index y ∈ bg_A) (hinst : Cond.instanceMethod y ∈ bg_A) (hsel : Cond.selects C y y ∈ bg_A) (hini : Cond.initialized y.cls ∈ bg_A) (hcode : Cond.code y cb maxB none ∈ bg_A)
    (nA : Nat) (hnA : As.length = nA) (hd : y.cls ≠ "java/lang/invoke/MethodHandle" ∧ y.cls ≠ "java/lang/invoke/VarHandle" ∧ (parseMethodDescriptor y.desc).map (fun d => d.parameters.length) = some nA) (hR : fr + 1 ≤ R.frames ∧ 8 + (maxB + 11) + lo ≤ R.locals)
    (isC isR isP : List Nat) (hC : isC.map (fun i => ws[i]?) = wc.map some) (hRr : isR.map (fun i => ws[i]?) = wr.map some) (hnd : (va_nd isC && va_nd isR && va_nd isP && isR.all (fun i => !isC.contains i)) = true) (hp : ∀ u, isP.map (fun i => (wr ++ w1 u)[i]?) = (w2 u).map some)
    (hsz : ls.size = nL) (hst : st0 = As.reverse ++ .ref b :: rest) (hrm : (rest.map fun v => v.category).sum ≤ 8) (hdg : decode cc pc = .ok (.invokevirtual index, 3)) (hcs : cells ≤ R.cells ∧ slots ≤ R.slots)
    (kk : ∀ (u : S) (H1 : Heap) (locs1 : List Loc), post u → va_P D cl_A (w2 u) H1 → va_D A (w2 u) → va_S A s.heap H1 locs1 → W p l e R s m args below meth c H1 locs1 cells slots Q (F0 m (pc + 3) ls rest)) : W p l e R s m args below meth c H locs cells slots Q (F0 m pc ls st0) := by
  simp only [Bool.and_eq_true, List.all_eq_true, Bool.not_eq_true'] at hnd
  obtain ⟨⟨⟨n1, n2⟩, n3⟩, n4⟩ := hnd
  have hdis : ∀ i ∈ isR, i ∉ isC := fun i hi hm => by have := n4 i hi; rw [List.contains_iff_mem.mpr hm] at this; cases this
  have hFc := va_free hD hS hA isC hC
  refine va_callv (va_runV (As := As) (rest := rest) ⟨hx, hb, hml, hown, hts⟩ (hM H.size) ⟨callB_of nA hts (gd_C hcode) rfl rfl rfl (hts _ hini) (hts _ hlink) hd hR, hts _ hinst, hts _ hsel⟩ ⟨bl_W, va_recv hK (ct_P hP isC hC) hci hq0, ct_pre hP hD hK hN isC n1 hC _⟩ rfl hnA hsz hst (lv_room hrm) hdg hcs) hS (fun q _ h => hFc q h) hFc (fun u t H1 locs1 ht hvm hw hB hz1 hk1 hS1 => ?_)
  obtain ⟨hP1, hK1, hD1⟩ := hB
  rw [ht] at hP1
  obtain ⟨h1, h2⟩ := jn_W (w1 := w1) (w2 := w2) (u := u) hP hD hS hA isC isR isP hC hRr n2 hdis (hp u) n3 hk1 hP1 hD1
  exact kk u H1 locs1 hw h1 h2 hS1
/-- a static method without cells, with an answer: of the same class, of a nest mate -/
theorem ca_SI {S : Type} {post : Int32 → S → Prop} {rt : FieldType} (hM : mt_I l y cb maxB rt fr lo D cI cJ cZ [] As post (fun _ => [])) (hx : p.tables.exec = Jvm.exec) (hb : c.code = cc) (hml : c.maxLocals = nL) (hown : s.vm.findClass own = some m.cls) (hts : ∀ w ∈ bg_A, w.before args s = true) (hN : hw_N s) (hK : va_K D cl_A (ty_A cI cJ cZ) s) (hA : ∀ q, s.heap.size ≤ q → A q) (hP : va_P D cl_A ws H) (hD : va_D A ws) (hS : va_S A s.heap H locs)
    (hlink : Cond.methodLink own index y ∈ bg_A) (hstat : Cond.static y ∈ bg_A) (hini : Cond.initialized y.cls ∈ bg_A) (hcode : Cond.code y cb maxB (some rt) ∈ bg_A)
    (nA : Nat) (hnA : As.length = nA) (hd : y.cls ≠ "java/lang/invoke/MethodHandle" ∧ y.cls ≠ "java/lang/invoke/VarHandle" ∧ (parseMethodDescriptor y.desc).map (fun d => d.parameters.length) = some nA) (hR : fr + 1 ≤ R.frames ∧ 8 + (maxB + 11) + lo ≤ R.locals)
    (hsz : ls.size = nL) (hst : st0 = As.reverse ++ rest) (hrm : (rest.map fun v => v.category).sum ≤ 8) (hdg : decode cc pc = .ok (.invokestatic index, 3)) (hcs : cells ≤ R.cells ∧ slots ≤ R.slots)
    (kk : ∀ (r : Int32) (u : S) (H1 : Heap) (locs1 : List Loc), post r u → va_P D cl_A ws H1 → va_D A ws → va_S A s.heap H1 locs1 → W p l e R s m args below meth c H1 locs1 cells slots Q (F0 m (pc + 3) ls (.int r :: rest))) : W p l e R s m args below meth c H locs cells slots Q (F0 m pc ls st0) := by
  have hFc := va_free (wc := []) hD hS hA [] rfl
  refine va_calli (va_runS (As := As) (rest := rest) ⟨hx, hb, hml, hown, hts⟩ (hM H.size) ⟨callB_of nA hts (gd_C hcode) rfl rfl rfl (hts _ hini) (hts _ hlink) hd hR, hts _ hstat⟩ ⟨bl_W, ct_pre hP hD hK hN [] rfl rfl _⟩ rfl hnA hsz hst (lv_room hrm) hdg hcs) hS (fun q _ h => hFc q h) hFc (fun r u t H1 locs1 ht hvm hw hB hz1 hk1 hS1 => ?_)
  refine kk r u H1 locs1 hw (hP.kept (fun k q hk => hk1 q.1 (hP k q hk).lt (fun z => ?_))) hD hS1
  have hl := (hP k q hk).lt
  rcases z with ⟨k2, e2, z⟩ | z
  · simp at z
  · omega
theorem ca_NI {S : Type} {post : Int32 → S → Prop} {rt : FieldType} {host : String} (hM : mt_I l y cb maxB rt fr lo D cI cJ cZ [] As post (fun _ => [])) (hx : p.tables.exec = Jvm.exec) (hb : c.code = cc) (hml : c.maxLocals = nL) (hown : s.vm.findClass own = some m.cls) (hts : ∀ w ∈ bg_A, w.before args s = true) (hN : hw_N s) (hK : va_K D cl_A (ty_A cI cJ cZ) s) (hA : ∀ q, s.heap.size ≤ q → A q) (hP : va_P D cl_A ws H) (hD : va_D A ws) (hS : va_S A s.heap H locs)
    (hlink : va_Nw (.methodLinkNest own index y host) s) (hstat : Cond.static y ∈ bg_A) (hini : Cond.initialized y.cls ∈ bg_A) (hcode : Cond.code y cb maxB (some rt) ∈ bg_A)
    (nA : Nat) (hnA : As.length = nA) (hd : y.cls ≠ "java/lang/invoke/MethodHandle" ∧ y.cls ≠ "java/lang/invoke/VarHandle" ∧ (parseMethodDescriptor y.desc).map (fun d => d.parameters.length) = some nA) (hR : fr + 1 ≤ R.frames ∧ 8 + (maxB + 11) + lo ≤ R.locals)
    (hsz : ls.size = nL) (hst : st0 = As.reverse ++ rest) (hrm : (rest.map fun v => v.category).sum ≤ 8) (hdg : decode cc pc = .ok (.invokestatic index, 3)) (hcs : cells ≤ R.cells ∧ slots ≤ R.slots)
    (kk : ∀ (r : Int32) (u : S) (H1 : Heap) (locs1 : List Loc), post r u → va_P D cl_A ws H1 → va_D A ws → va_S A s.heap H1 locs1 → W p l e R s m args below meth c H1 locs1 cells slots Q (F0 m (pc + 3) ls (.int r :: rest))) : W p l e R s m args below meth c H locs cells slots Q (F0 m pc ls st0) := by
  have hFc := va_free (wc := []) hD hS hA [] rfl
  refine va_calli (va_runSN (As := As) (rest := rest) ⟨hx, hb, hml, hown, hts⟩ (hM H.size) ⟨va_cnB nA hts (gd_C hcode) rfl rfl rfl hlink (hts _ hini) hd hR, hts _ hstat, trivial⟩ ⟨bl_W, ct_pre hP hD hK hN [] rfl rfl _⟩ rfl hnA hsz hst (lv_room hrm) hdg hcs) hS (fun q _ h => hFc q h) hFc (fun r u t H1 locs1 ht hvm hw hB hz1 hk1 hS1 => ?_)
  refine kk r u H1 locs1 hw (hP.kept (fun k q hk => hk1 q.1 (hP k q hk).lt (fun z => ?_))) hD hS1
  have hl := (hP k q hk).lt
  rcases z with ⟨k2, e2, z⟩ | z
  · simp at z
  · omega
end BS
end
section
/-! numbers and rows of numbers -/
def sI_ (f : Nat → Int32) : Nat → Int32
  | 0 => 0
  | n + 1 => sI_ f n + f n
def sN_ (f : Nat → Nat) : Nat → Nat
  | 0 => 0
  | n + 1 => sN_ f n + f n
def ad_v (f g : Nat → Int32) (n : Nat) : Nat → Int32 := fun j => if j < n then f j + g j else f j
def se_v (f g : Nat → Int32) (n : Nat) : Nat → Int32 := fun j => if j < n then g j else f j
theorem sI_0 (f : Nat → Int32) : sI_ f 0 = 0 := rfl
theorem sI_s (f : Nat → Int32) (n : Nat) : sI_ f n + f n = sI_ f (n + 1) := rfl
theorem sI_c {f g : Nat → Int32} {n : Nat} (h : ∀ j, j < n → f j = g j) : sI_ f n = sI_ g n := by
  induction n with
  | zero => rfl
  | succ n ih => show sI_ f n + f n = sI_ g n + g n; rw [ih (fun j hj => h j (by omega)), h n (by omega)]
theorem sN_c {f g : Nat → Nat} {n : Nat} (h : ∀ j, j < n → f j = g j) : sN_ f n = sN_ g n := by
  induction n with
  | zero => rfl
  | succ n ih => show sN_ f n + f n = sN_ g n + g n; rw [ih (fun j hj => h j (by omega)), h n (by omega)]
theorem ad_0 (f g : Nat → Int32) : f = ad_v f g 0 := by funext j; simp [ad_v]
theorem se_0 (f g : Nat → Int32) : f = se_v f g 0 := by funext j; simp [se_v]
theorem ad_i (f g : Nat → Int32) (n : Nat) : ad_v f g n n = f n := by simp [ad_v]
theorem ad_s (f g : Nat → Int32) (n : Nat) : upd (ad_v f g n) n (ad_v f g n n + g n) = ad_v f g (n + 1) := by
  funext j
  by_cases h : j = n
  · subst h; simp [upd, ad_v]
  · have e : (j < n) = (j < n + 1) := by apply propext; omega
    simp [upd, h, ad_v, e]
theorem se_s (f g : Nat → Int32) (n : Nat) : upd (se_v f g n) n (g n) = se_v f g (n + 1) := by
  funext j
  by_cases h : j = n
  · subst h; simp [upd, se_v]
  · have e : (j < n) = (j < n + 1) := by apply propext; omega
    simp [upd, h, se_v, e]
theorem up_i (f : Nat → Int32) (k : Nat) (x : Int32) : upd f k x k = x := pk_us
theorem up_n (f : Nat → Int32) (k j : Nat) (x : Int32) (h : ¬ j = k) : upd f k x j = f j := pk_un h
/-- an Int32 within bounds is a natural number -/
theorem ix_le {x : Int32} {M : Int32} {n : Nat} (hM : M.toInt = (n : Int)) (h : 0 ≤ x ∧ x ≤ M) : ∃ z : Nat, z < n + 1 ∧ x = nI z := by
  obtain ⟨j, h1, h2⟩ := nI_of2 (n := n) hM (Int32.not_lt.mpr h.1) h.2
  exact ⟨j, by omega, h2⟩
theorem ix_lt {x : Int32} {N : Nat} (hN : N < 2 ^ 31) (h : 0 ≤ x ∧ x < nI N) : ∃ z : Nat, z < N ∧ x = nI z := by
  obtain ⟨j, h1, h2⟩ := nI_of (Int32.not_lt.mpr h.1)
  refine ⟨j, ?_, h2⟩
  have h3 := h.2
  rw [h2] at h3
  exact (nI_ltI h1 hN).mp h3
theorem tn_nI {n : Nat} (h : n < 2 ^ 31) : (nI n).toNatClampNeg = n := nI_clamp h
theorem se_x {f g : Nat → Int32} {n : Nat} {x : Int32} (h : g n = x) : upd (se_v f g n) n x = se_v f g (n + 1) := by rw [← h]; exact se_s f g n
theorem se_k {f g : Nat → Int32} {n : Nat} (h : g n = f n) : se_v f g n = se_v f g (n + 1) := by
  funext j
  by_cases e : j = n
  · subst e; simp [se_v, h]
  · have e2 : (j < n) = (j < n + 1) := by apply propext; omega
    simp [se_v, e2]
theorem se_i (f g : Nat → Int32) (n : Nat) : se_v f g n n = f n := by simp [se_v]
/-- what is due at a height is taken away, account by account -/
def dz_ (f : Nat → Int32) (h : Nat) : Nat → Nat → Int32
  | 0 => f
  | n + 1 => upd (dz_ f h n) (n * 110 + h) 0
theorem dz_r (f : Nat → Int32) {h : Nat} (hh : h < 110) (n : Nat) : ∀ k, n ≤ k → dz_ f h n (k * 110 + h) = f (k * 110 + h) := by
  induction n with
  | zero => intro k _; rfl
  | succ n ih => intro k hk; show upd (dz_ f h n) (n * 110 + h) 0 (k * 110 + h) = _; rw [up_n _ _ _ _ (by omega)]; exact ih k (by omega)
def st_a (sa la : Nat → Int32) (h : Int32) (j : Nat) : Int32 := if sa j = 3 ∧ la j = h then 0 else if sa j = 1 then 2 else sa j
def st_b (sa la : Nat → Int32) (h : Int32) (j : Nat) : Int32 := if sa j = 3 ∧ la j = h then -2 else la j
end
section
/-! SHARES: counts, ranks, exact parts -/
def cn_ (P : Nat → Bool) : Nat → Nat
  | 0 => 0
  | n + 1 => cn_ P n + (if P n = true then 1 else 0)
theorem cn_s (P : Nat → Bool) (n : Nat) : cn_ P (n + 1) = cn_ P n + (if P n = true then 1 else 0) := rfl
theorem cn_le (P : Nat → Bool) (n : Nat) : cn_ P n ≤ n := by
  induction n with
  | zero => exact Nat.le_refl 0
  | succ n ih => rw [cn_s]; split <;> omega
theorem cn_c {P Q : Nat → Bool} {n : Nat} (h : ∀ m, m < n → P m = Q m) : cn_ P n = cn_ Q n := by
  induction n with
  | zero => rfl
  | succ n ih => rw [cn_s, cn_s, ih (fun m hm => h m (by omega)), h n (by omega)]
theorem cn_mono {P Q : Nat → Bool} {n : Nat} (h : ∀ m, m < n → P m = true → Q m = true) : cn_ P n ≤ cn_ Q n := by
  induction n with
  | zero => exact Nat.le_refl 0
  | succ n ih =>
    have h1 := ih (fun m hm => h m (by omega))
    have h2 := h n (by omega)
    rw [cn_s, cn_s]
    by_cases hp : P n = true
    · rw [if_pos hp, if_pos (h2 hp)]; omega
    · rw [if_neg hp]; split <;> omega
theorem cn_lt {P Q : Nat → Bool} {n : Nat} (h : ∀ m, m < n → P m = true → Q m = true) {k : Nat} (hk : k < n) (h1 : ¬ P k = true) (h2 : Q k = true) : cn_ P n < cn_ Q n := by
  induction n with
  | zero => omega
  | succ n ih =>
    rw [cn_s, cn_s]
    by_cases e : k = n
    · subst e
      have h3 := cn_mono (n := k) (fun m hm => h m (by omega))
      rw [if_neg h1, if_pos h2]; omega
    · have h3 := ih (fun m hm => h m (by omega)) (by omega)
      have h4 := h n (by omega)
      by_cases hp : P n = true
      · rw [if_pos hp, if_pos (h4 hp)]; omega
      · rw [if_neg hp]; split <;> omega
theorem cn_one {P : Nat → Bool} {n : Nat} (h : ∀ a b, a < n → b < n → P a = true → P b = true → a = b) : cn_ P n ≤ 1 := by
  induction n with
  | zero => exact Nat.zero_le 1
  | succ n ih =>
    rw [cn_s]
    by_cases hp : P n = true
    · have h0 : cn_ P n = 0 := by
        have h2 : cn_ P n = cn_ (fun _ => false) n := cn_c (fun m hm => by
          cases hq : P m with
          | false => rfl
          | true => exact absurd (h m n (by omega) (by omega) hq hp) (by omega))
        have h3 : ∀ n, cn_ (fun _ => false) n = 0 := by
          intro n
          induction n with
          | zero => rfl
          | succ n ih => rw [cn_s, ih]; rfl
        rw [h2, h3]
      rw [h0, if_pos hp]; exact Nat.le_refl 1
    · rw [if_neg hp]; exact ih (fun a b ha hb => h a b (by omega) (by omega))
theorem cn_ex {P : Nat → Bool} {n : Nat} (h : 0 < cn_ P n) : ∃ k, k < n ∧ P k = true := by
  induction n with
  | zero => exact absurd h (Nat.lt_irrefl 0)
  | succ n ih =>
    by_cases hp : P n = true
    · exact ⟨n, by omega, hp⟩
    · rw [cn_s, if_neg hp] at h
      obtain ⟨k, h1, h2⟩ := ih (by omega)
      exact ⟨k, by omega, h2⟩
theorem cn_or {P Q S : Nat → Bool} {n : Nat} (h : ∀ m, m < n → (S m = true ↔ (P m = true ∨ Q m = true)) ∧ ¬ (P m = true ∧ Q m = true)) : cn_ S n = cn_ P n + cn_ Q n := by
  induction n with
  | zero => rfl
  | succ n ih =>
    have h1 := ih (fun m hm => h m (by omega))
    obtain ⟨h2, h3⟩ := h n (by omega)
    rw [cn_s, cn_s, cn_s, h1]
    by_cases hp : P n = true
    · have hq : ¬ Q n = true := fun z => h3 ⟨hp, z⟩
      rw [if_pos hp, if_neg hq, if_pos (h2.mpr (Or.inl hp))]; omega
    · by_cases hq : Q n = true
      · rw [if_neg hp, if_pos hq, if_pos (h2.mpr (Or.inr hq))]; omega
      · rw [if_neg hp, if_neg hq, if_neg (fun z => (h2.mp z).elim hp hq)]; omega
/-- m stands ahead of i: a greater rest, or the same and a lesser place -/
def ah_ (r : Nat → Nat) (m i : Nat) : Bool := decide (r i < r m ∨ (r m = r i ∧ m < i))
def rk_ (r : Nat → Nat) (n i : Nat) : Nat := cn_ (fun m => ah_ r m i) n
theorem ah_t {r : Nat → Nat} {a b c : Nat} (h1 : ah_ r a b = true) (h2 : ah_ r b c = true) : ah_ r a c = true := by
  simp only [ah_, decide_eq_true_eq] at *
  omega
theorem ah_n (r : Nat → Nat) (a : Nat) : ¬ ah_ r a a = true := by simp [ah_]
theorem ah_o {r : Nat → Nat} {a b : Nat} (h : ¬ a = b) : ah_ r a b = true ∨ ah_ r b a = true := by
  simp only [ah_, decide_eq_true_eq]
  omega
theorem rk_lt {r : Nat → Nat} {n a b : Nat} (ha : a < n) (h : ah_ r a b = true) : rk_ r n a < rk_ r n b :=
  cn_lt (fun _ _ hm => ah_t hm h) ha (ah_n r a) h
theorem rk_inj {r : Nat → Nat} {n a b : Nat} (ha : a < n) (hb : b < n) (h : rk_ r n a = rk_ r n b) : a = b := by
  apply Decidable.byContradiction
  intro hne
  rcases ah_o (r := r) hne with z | z
  · have := rk_lt ha z; omega
  · have := rk_lt hb z; omega
theorem cn_all (n : Nat) : cn_ (fun _ => true) n = n := by
  induction n with
  | zero => rfl
  | succ n ih => rw [cn_s, ih]; rfl
theorem rk_n {r : Nat → Nat} {n i : Nat} (hi : i < n) : rk_ r n i < n := by
  have h := cn_lt (P := fun m => ah_ r m i) (Q := fun _ => true) (n := n) (fun _ _ _ => rfl) hi (ah_n r i) rfl
  rw [cn_all] at h
  exact h
theorem rk_cs (r : Nat → Nat) (n j : Nat) : cn_ (fun m => decide (rk_ r n m < j + 1)) n = cn_ (fun m => decide (rk_ r n m < j)) n + cn_ (fun m => decide (rk_ r n m = j)) n :=
  cn_or (fun m _ => ⟨by simp only [decide_eq_true_eq]; omega, by simp only [decide_eq_true_eq]; omega⟩)
theorem rk_c1 (r : Nat → Nat) (n j : Nat) : cn_ (fun m => decide (rk_ r n m = j)) n ≤ 1 :=
  cn_one (fun a b ha hb h1 h2 => by simp only [decide_eq_true_eq] at h1 h2; exact rk_inj ha hb (h1.trans h2.symm))
theorem rk_cd (r : Nat → Nat) (n : Nat) : ∀ k j, j + k = n → j ≤ cn_ (fun m => decide (rk_ r n m < j)) n := by
  intro k
  induction k with
  | zero =>
    intro j hj
    have h1 : cn_ (fun m => decide (rk_ r n m < j)) n = cn_ (fun _ => true) n := cn_c (fun m hm => by
      have := rk_n (r := r) hm
      simp only [decide_eq_true_eq]; omega)
    rw [h1, cn_all]; omega
  | succ k ih =>
    intro j hj
    have h1 := ih (j + 1) (by omega)
    rw [rk_cs] at h1
    have h2 := rk_c1 r n j
    omega
theorem rk_cu (r : Nat → Nat) (n : Nat) : ∀ j, cn_ (fun m => decide (rk_ r n m < j)) n ≤ j := by
  intro j
  induction j with
  | zero =>
    have h1 : cn_ (fun m => decide (rk_ r n m < 0)) n = cn_ (fun _ => false) n := cn_c (fun m _ => by simp)
    have h3 : ∀ n, cn_ (fun _ => false) n = 0 := by
      intro n
      induction n with
      | zero => rfl
      | succ n ih => rw [cn_s, ih]; rfl
    rw [h1, h3]; exact Nat.le_refl 0
  | succ j ih => rw [rk_cs]; have := rk_c1 r n j; omega
theorem rk_cj {r : Nat → Nat} {n j : Nat} (hj : j ≤ n) : cn_ (fun m => decide (rk_ r n m < j)) n = j :=
  Nat.le_antisymm (rk_cu r n j) (rk_cd r n (n - j) j (by omega))
theorem rk_at {r : Nat → Nat} {n j : Nat} (hj : j < n) : ∃ k, k < n ∧ rk_ r n k = j := by
  have h1 := rk_cj (r := r) (n := n) (j := j) (by omega)
  have h2 := rk_cj (r := r) (n := n) (j := j + 1) (by omega)
  rw [rk_cs, h1] at h2
  obtain ⟨k, h3, h4⟩ := cn_ex (P := fun m => decide (rk_ r n m = j)) (n := n) (by omega)
  exact ⟨k, h3, by simpa using h4⟩
/-- the first greatest -/
def am_ (f : Nat → Int64) : Nat → Nat
  | 0 => 0
  | n + 1 => if f (am_ f n) < f n then n else am_ f n
theorem am_s (f : Nat → Int64) (n : Nat) : am_ f (n + 1) = if f (am_ f n) < f n then n else am_ f n := rfl
theorem am_lt (f : Nat → Int64) (n : Nat) : am_ f n ≤ n ∧ (0 < n → am_ f n < n) := by
  induction n with
  | zero => exact ⟨Nat.le_refl 0, fun h => absurd h (Nat.lt_irrefl 0)⟩
  | succ n ih => rw [am_s]; split <;> constructor <;> omega
theorem am_1 (f : Nat → Int64) : am_ f 1 = 0 := by
  rw [am_s]
  show (if f 0 < f 0 then 0 else 0) = 0
  split <;> rfl
theorem am_is {f : Nat → Int64} {n k : Nat} (hk : k < n) (h : ∀ m, m < n → ¬ m = k → f m < f k ∨ (f m = f k ∧ k < m)) : am_ f n = k := by
  have key : ∀ d, k + 1 + d ≤ n → am_ f (k + 1 + d) = k := by
    intro d
    induction d with
    | zero =>
      intro _
      show am_ f (k + 1) = k
      rw [am_s]
      rcases Nat.eq_zero_or_pos k with e | e
      · subst e
        show (if f 0 < f 0 then 0 else 0) = 0
        split <;> rfl
      · have h1 := (am_lt f k).2 e
        rcases h _ (by omega) (by omega : ¬ am_ f k = k) with z | z
        · rw [if_pos z]
        · omega
    | succ d ih =>
      intro hd
      show am_ f (k + 1 + d + 1) = k
      rw [am_s, ih (by omega)]
      rcases h (k + 1 + d) (by omega) (by omega) with z | z
      · rw [if_neg (Int64.not_lt.mpr (Int64.le_of_lt z))]
      · rw [if_neg (by rw [z.1]; exact Int64.lt_irrefl)]
  have := key (n - (k + 1)) (by omega)
  rwa [show k + 1 + (n - (k + 1)) = n by omega] at this
/-- the rests as they stand behind j gifts -/
def rj_ (r : Nat → Nat) (n j : Nat) (k : Nat) : Int64 := if rk_ r n k < j then -1 else lN (r k)
theorem am_rj {r : Nat → Nat} {f : Nat → Int64} {n j k : Nat} (hf : ∀ m, m < n → f m = rj_ r n j m) (hr : ∀ m, m < n → r m < 2 ^ 62) (hk : k < n) (hj : rk_ r n k = j) : am_ f n = k := by
  refine am_is hk (fun m hm hne => ?_)
  have hneg : ∀ x : Nat, x < 2 ^ 62 → (-1 : Int64) < lN x := by
    intro x hx
    apply Int64.lt_iff_toInt_lt.mpr
    rw [pk_lT (by omega)]
    have : (-1 : Int64).toInt = -1 := by decide
    omega
  rw [hf m hm, hf k hk]
  unfold rj_
  rw [if_neg (show ¬ rk_ r n k < j by omega)]
  by_cases h1 : rk_ r n m < j
  · rw [if_pos h1]; exact Or.inl (hneg _ (hr k hk))
  · rw [if_neg h1]
    have h2 : ah_ r k m = true := by
      rcases ah_o (r := r) hne with z | z
      · have := rk_lt hm z; omega
      · exact z
    simp only [ah_, decide_eq_true_eq] at h2
    rcases h2 with z | z
    · exact Or.inl ((pk_lLT (by have := hr m hm; omega) (by have := hr k hk; omega)).mpr z)
    · exact Or.inr ⟨by rw [z.1], z.2⟩
/-- sums -/
theorem sN_s (f : Nat → Nat) (n : Nat) : sN_ f (n + 1) = sN_ f n + f n := rfl
theorem sN_add (f g : Nat → Nat) (n : Nat) : sN_ (fun k => f k + g k) n = sN_ f n + sN_ g n := by
  induction n with
  | zero => rfl
  | succ n ih => rw [sN_s, sN_s, sN_s, ih]; omega
theorem sN_mul (a : Nat) (f : Nat → Nat) (n : Nat) : sN_ (fun k => a * f k) n = a * sN_ f n := by
  induction n with
  | zero => rfl
  | succ n ih => rw [sN_s, sN_s, ih, Nat.mul_add]
theorem sN_le {f : Nat → Nat} {n i : Nat} (hi : i < n) : f i ≤ sN_ f n := by
  induction n with
  | zero => omega
  | succ n ih =>
    rw [sN_s]
    by_cases e : i = n
    · subst e; omega
    · have := ih (by omega); omega
theorem sN_mono {f g : Nat → Nat} {n : Nat} (h : ∀ k, k < n → f k ≤ g k) : sN_ f n ≤ sN_ g n := by
  induction n with
  | zero => exact Nat.le_refl 0
  | succ n ih => rw [sN_s, sN_s]; have := ih (fun k hk => h k (by omega)); have := h n (by omega); omega
theorem sN_const (a n : Nat) : sN_ (fun _ => a) n = n * a := by
  induction n with
  | zero => simp [sN_]
  | succ n ih => rw [sN_s, ih, Nat.add_mul]; omega
theorem sN_bd {f : Nat → Nat} {n b : Nat} (h : ∀ k, k < n → f k ≤ b) : sN_ f n ≤ n * b := by
  rw [← sN_const]; exact sN_mono h
theorem sN_pre {f : Nat → Nat} {n m : Nat} (h : n ≤ m) : sN_ f n ≤ sN_ f m := by
  induction m with
  | zero => have : n = 0 := by omega
            subst this; exact Nat.le_refl _
  | succ m ih =>
    by_cases e : n = m + 1
    · subst e; exact Nat.le_refl _
    · rw [sN_s]; have := ih (by omega); omega
theorem sN_cn (P : Nat → Bool) (n : Nat) : sN_ (fun k => if P k = true then 1 else 0) n = cn_ P n := by
  induction n with
  | zero => rfl
  | succ n ih => rw [sN_s, cn_s, ih]
/-- whole parts, rests, what is left -/
def qo_ (A : Nat) (p : Nat → Nat) (T k : Nat) : Nat := A * p k / T
def re_ (A : Nat) (p : Nat → Nat) (T k : Nat) : Nat := A * p k % T
def lf_ (A : Nat) (p : Nat → Nat) (n : Nat) : Nat := A - sN_ (qo_ A p (sN_ p n)) n
/-- THE SHARE of i among n -/
def sh_ (A : Nat) (p : Nat → Nat) (n i : Nat) : Nat := if sN_ p n = 0 then 0 else qo_ A p (sN_ p n) i + (if rk_ (re_ A p (sN_ p n)) n i < lf_ A p n then 1 else 0)
theorem qo_sum (A : Nat) (p : Nat → Nat) (n : Nat) : sN_ p n * sN_ (qo_ A p (sN_ p n)) n + sN_ (re_ A p (sN_ p n)) n = A * sN_ p n := by
  rw [← sN_mul, ← sN_add, ← sN_mul]
  exact sN_c (fun k _ => Nat.div_add_mod _ _)
theorem qo_le {A : Nat} {p : Nat → Nat} {n : Nat} (hT : 0 < sN_ p n) : sN_ (qo_ A p (sN_ p n)) n ≤ A := by
  have h := qo_sum A p n
  have h2 : sN_ p n * sN_ (qo_ A p (sN_ p n)) n ≤ sN_ p n * A := by rw [Nat.mul_comm (sN_ p n) A]; omega
  exact Nat.le_of_mul_le_mul_left h2 hT
theorem lf_sum {A : Nat} {p : Nat → Nat} {n : Nat} (hT : 0 < sN_ p n) : sN_ p n * lf_ A p n = sN_ (re_ A p (sN_ p n)) n := by
  have h := qo_sum A p n
  unfold lf_
  rw [Nat.mul_sub, Nat.mul_comm (sN_ p n) A]; omega
theorem lf_pos {A : Nat} {p : Nat → Nat} {n : Nat} (hT : 0 < sN_ p n) : lf_ A p n ≤ cn_ (fun k => decide (0 < re_ A p (sN_ p n) k)) n := by
  have h1 := lf_sum (A := A) hT
  have h2 : sN_ (re_ A p (sN_ p n)) n ≤ sN_ (fun k => sN_ p n * (if decide (0 < re_ A p (sN_ p n) k) = true then 1 else 0)) n := by
    refine sN_mono (fun k _ => ?_)
    have : re_ A p (sN_ p n) k < sN_ p n := Nat.mod_lt _ hT
    by_cases e : 0 < re_ A p (sN_ p n) k
    · simp [e]; omega
    · simp [e]; omega
  rw [sN_mul, sN_cn, ← h1] at h2
  exact Nat.le_of_mul_le_mul_left h2 hT
theorem lf_le {A : Nat} {p : Nat → Nat} {n : Nat} (hT : 0 < sN_ p n) : lf_ A p n ≤ n := Nat.le_trans (lf_pos hT) (cn_le _ _)
/-- the shares are the whole -/
theorem sh_sum {A : Nat} {p : Nat → Nat} {n : Nat} (hT : 0 < sN_ p n) : sN_ (sh_ A p n) n = A := by
  have h0 : ¬ sN_ p n = 0 := by omega
  have h1 : sN_ (sh_ A p n) n = sN_ (fun i => qo_ A p (sN_ p n) i + (if decide (rk_ (re_ A p (sN_ p n)) n i < lf_ A p n) = true then 1 else 0)) n := sN_c (fun k _ => by simp only [sh_, if_neg h0, decide_eq_true_eq])
  rw [h1, sN_add, sN_cn, rk_cj (lf_le hT)]
  have := qo_le (A := A) hT
  unfold lf_
  omega
theorem sh_z {A : Nat} {p : Nat → Nat} {n i : Nat} (hp : p i = 0) : sh_ A p n i = 0 := by
  unfold sh_
  split
  · rfl
  · rename_i h0
    have hT : 0 < sN_ p n := by omega
    have h1 : qo_ A p (sN_ p n) i = 0 := by simp [qo_, hp]
    have h2 : re_ A p (sN_ p n) i = 0 := by simp [re_, hp]
    have h3 : cn_ (fun k => decide (0 < re_ A p (sN_ p n) k)) n ≤ rk_ (re_ A p (sN_ p n)) n i := cn_mono (fun m _ hm => by
      simp only [ah_, decide_eq_true_eq] at *
      rw [h2]; exact Or.inl hm)
    have h4 := lf_pos (A := A) hT
    rw [h1, if_neg (by omega)]
theorem sh_0 {A : Nat} {p : Nat → Nat} {n i : Nat} (h : sN_ p n = 0) : sh_ A p n i = 0 := by simp [sh_, h]
theorem sh_le {A : Nat} {p : Nat → Nat} {n i : Nat} (hi : i < n) : sh_ A p n i ≤ A := by
  by_cases h : sN_ p n = 0
  · rw [sh_0 h]; exact Nat.zero_le A
  · have := sN_le (f := sh_ A p n) hi
    rwa [sh_sum (by omega)] at this
theorem sh_a0 {p : Nat → Nat} {n i : Nat} (hi : i < n) : sh_ 0 p n i = 0 := Nat.le_zero.mp (sh_le hi)
end
section
/-! rows of longs, bits, the sharer's rows -/
def sl_v (f g : Nat → Int64) (n : Nat) : Nat → Int64 := fun j => if j < n then g j else f j
theorem sl_0 (f g : Nat → Int64) : f = sl_v f g 0 := by funext j; simp [sl_v]
theorem sl_s (f g : Nat → Int64) (n : Nat) : vp_updL (sl_v f g n) n (g n) = sl_v f g (n + 1) := by
  funext j
  by_cases h : j = n
  · subst h; simp [vp_updL, sl_v]
  · have e : (j < n) = (j < n + 1) := by apply propext; omega
    simp [vp_updL, h, sl_v, e]
def bt_ (b i : Nat) : Nat := b / 2 ^ i % 2
theorem bt_lt (b i : Nat) : bt_ b i < 2 := Nat.mod_lt _ (by omega)
theorem bt_u0 : ∀ i, i < 8 → ∀ b, b < 256 → (((nI b).toUInt32 >>> ((nI i).toUInt32 &&& Int32.toUInt32 31)).toInt32 &&& 1) = nI (bt_ b i) := by decide +kernel
theorem bt_s0 : ∀ i, i < 8 → ∀ b, b < 256 → ((nI b >>> (nI i &&& 31)) &&& 1) = nI (bt_ b i) := by decide +kernel
theorem bt_u {b i : Nat} (hb : b < 256) (hi : i < 8) : (((nI b).toUInt32 >>> ((nI i).toUInt32 &&& Int32.toUInt32 31)).toInt32 &&& 1) = nI (bt_ b i) := bt_u0 i hi b hb
theorem bt_s {b i : Nat} (hb : b < 256) (hi : i < 8) : ((nI b >>> (nI i &&& 31)) &&& 1) = nI (bt_ b i) := bt_s0 i hi b hb
/-- the weight of the nodes that the bits name, at a height -/
def wo_ (w : Nat → Int32) (h b : Nat) : Nat → Int32
  | 0 => 0
  | n + 1 => if bt_ b n = 0 then wo_ w h b n else wo_ w h b n + w (h * 8 + n)
def gj_ (f : Nat → Int32) (A : Nat) (p : Nat → Nat) (n j : Nat) : Nat → Int32 := fun k => if k < n then nI (qo_ A p (sN_ p n) k + if rk_ (re_ A p (sN_ p n)) n k < j then 1 else 0) else f k
def rl_ (f : Nat → Int64) (A : Nat) (p : Nat → Nat) (n j : Nat) : Nat → Int64 := fun k => if k < n then rj_ (re_ A p (sN_ p n)) n j k else f k
theorem gj_0 (f : Nat → Int32) (A : Nat) (p : Nat → Nat) (n : Nat) : se_v (se_v f (fun _ => 0) n) (fun k => nI (qo_ A p (sN_ p n) k)) n = gj_ f A p n 0 := by
  funext k
  by_cases h : k < n
  · simp [se_v, gj_, h]
  · simp [se_v, gj_, h]
theorem rl_0 (f : Nat → Int64) (A : Nat) (p : Nat → Nat) (n : Nat) : sl_v f (fun k => lN (re_ A p (sN_ p n) k)) n = rl_ f A p n 0 := by
  funext k
  by_cases h : k < n
  · simp [sl_v, rl_, rj_, h]
  · simp [sl_v, rl_, h]
theorem rl_am {f : Nat → Int64} {A : Nat} {p : Nat → Nat} {n j : Nat} (hT : 0 < sN_ p n) (hb : sN_ p n < 2 ^ 62) (hj : j < n) : am_ (rl_ f A p n j) n < n ∧ rk_ (re_ A p (sN_ p n)) n (am_ (rl_ f A p n j) n) = j := by
  obtain ⟨k, hk, hr⟩ := rk_at (r := re_ A p (sN_ p n)) hj
  have h1 : am_ (rl_ f A p n j) n = k := am_rj (r := re_ A p (sN_ p n)) (fun m hm => by simp [rl_, hm]) (fun m _ => Nat.lt_trans (Nat.mod_lt _ hT) hb) hk hr
  rw [h1]
  exact ⟨hk, hr⟩
theorem gj_s {f : Nat → Int32} {g : Nat → Int64} {A : Nat} {p : Nat → Nat} {n j : Nat} (hT : 0 < sN_ p n) (hb : sN_ p n < 2 ^ 62) (hj : j < n) : upd (gj_ f A p n j) (am_ (rl_ g A p n j) n) (gj_ f A p n j (am_ (rl_ g A p n j) n) + 1) = gj_ f A p n (j + 1) := by
  obtain ⟨h1, h2⟩ := rl_am (f := g) (A := A) hT hb hj
  generalize am_ (rl_ g A p n j) n = k at h1 h2
  funext m
  by_cases e : m = k
  · subst e
    rw [up_i]
    simp only [gj_, if_pos h1]
    rw [if_neg (show ¬ rk_ (re_ A p (sN_ p n)) n m < j by omega), if_pos (show rk_ (re_ A p (sN_ p n)) n m < j + 1 by omega)]
    exact nI_1 _
  · rw [up_n _ _ _ _ e]
    by_cases hm : m < n
    · simp only [gj_, if_pos hm]
      have h3 : ¬ rk_ (re_ A p (sN_ p n)) n m = j := fun z => e (rk_inj hm h1 (z.trans h2.symm))
      have h4 : (rk_ (re_ A p (sN_ p n)) n m < j) = (rk_ (re_ A p (sN_ p n)) n m < j + 1) := by apply propext; omega
      simp only [h4]
    · simp only [gj_, if_neg hm]
theorem rl_s {g : Nat → Int64} {A : Nat} {p : Nat → Nat} {n j : Nat} (hT : 0 < sN_ p n) (hb : sN_ p n < 2 ^ 62) (hj : j < n) : vp_updL (rl_ g A p n j) (am_ (rl_ g A p n j) n) (-1) = rl_ g A p n (j + 1) := by
  obtain ⟨h1, h2⟩ := rl_am (f := g) (A := A) hT hb hj
  generalize hk : am_ (rl_ g A p n j) n = k at h1 h2
  funext m
  by_cases e : m = k
  · subst e
    rw [pk_uLs]
    simp only [rl_, if_pos h1, rj_]
    rw [if_pos (show rk_ (re_ A p (sN_ p n)) n m < j + 1 by omega)]
  · rw [pk_uLn e]
    by_cases hm : m < n
    · simp only [rl_, if_pos hm, rj_]
      have h3 : ¬ rk_ (re_ A p (sN_ p n)) n m = j := fun z => e (rk_inj hm h1 (z.trans h2.symm))
      have h4 : (rk_ (re_ A p (sN_ p n)) n m < j) = (rk_ (re_ A p (sN_ p n)) n m < j + 1) := by apply propext; omega
      simp only [h4]
    · simp only [rl_, if_neg hm]
theorem gj_e {f : Nat → Int32} {A : Nat} {p : Nat → Nat} {n : Nat} (hT : 0 < sN_ p n) : gj_ f A p n (lf_ A p n) = se_v f (fun k => nI (sh_ A p n k)) n := by
  have h0 : ¬ sN_ p n = 0 := by omega
  funext m
  by_cases hm : m < n
  · simp only [gj_, se_v, if_pos hm, sh_, if_neg h0]
  · simp only [gj_, se_v, if_neg hm]
theorem sh_e0 {f : Nat → Int32} {A : Nat} {p : Nat → Nat} {n : Nat} (hT : sN_ p n = 0) : se_v f (fun _ => 0) n = se_v f (fun k => nI (sh_ A p n k)) n := by
  funext m
  by_cases hm : m < n
  · simp only [se_v, if_pos hm, sh_0 hT]; rfl
  · simp only [se_v, if_neg hm]
theorem ln_ne {T : Nat} (h : 0 < T) (hb : T < 2 ^ 63) : ¬ lN T = 0 := fun z => by
  have h2 := (pk_lEQ (a := T) (b := 0) hb (by omega)).mp z
  omega
theorem ln_z {T : Nat} (h : ¬ lN 0 < lN T) (hb : T < 2 ^ 63) : T = 0 := by
  apply Decidable.byContradiction
  intro z
  exact h ((pk_lLT (by omega) hb).mpr (by omega))
end
section
/-! WAYS: the best next height, plans -/
def my_ (wt al : Nat → Int32) (bb : Nat → Nat) (f t : Nat) : Prop := 2 * al t < 3 * wo_ wt t (bb t) 8 ∧ al f < 3 * wo_ wt f (bb t) 8
def jc_ (j : Nat) : Int32 := if j = 200 then -2 else nI j
def un_ (f : Nat → Nat) (k x : Nat) : Nat → Nat := fun j => if j = k then x else f j
theorem un_i (f : Nat → Nat) (k x : Nat) : un_ f k x k = x := by simp [un_]
theorem un_n {f : Nat → Nat} {k x j : Nat} (h : ¬ j = k) : un_ f k x j = f j := by simp [un_, h]
theorem jc_200 : jc_ 200 = -2 := rfl
theorem jc_n {j : Nat} (h : j < 200) : jc_ j = nI j := by unfold jc_; rw [if_neg (by omega)]
theorem jc_e {j : Nat} (h : j ≤ 200) : jc_ j = -2 ↔ j = 200 := by
  constructor
  · intro z
    apply Decidable.byContradiction
    intro q
    rw [jc_n (by omega)] at z
    have h1 : (nI j).toInt = (-2 : Int32).toInt := by rw [z]
    rw [nI_toInt (by omega)] at h1
    have h2 : (-2 : Int32).toInt = -2 := by decide
    omega
  · intro z; rw [z]; rfl
/-- the best next height b from h, j jumps in all: or none (200) -/
def ps_ (my : Nat → Nat → Prop) (J : Nat → Nat) (to h j b : Nat) : Prop := (j = 200 ∧ b = h ∧ ∀ v, h < v → v ≤ to → J v < 200 → ¬ my h v) ∨ (h < b ∧ b ≤ to ∧ J b < 200 ∧ my h b ∧ j = J b + 1 ∧ ∀ v, h < v → v ≤ to → J v < 200 → my h v → J b < J v ∨ (J b = J v ∧ v ≤ b))
/-- the same, of the heights above v alone -/
def pp_ (my : Nat → Nat → Prop) (J : Nat → Nat) (to h v j b : Nat) : Prop := (j = 200 ∧ b = h ∧ ∀ w, v < w → w ≤ to → J w < 200 → ¬ my h w) ∨ (v < b ∧ b ≤ to ∧ J b < 200 ∧ my h b ∧ j = J b + 1 ∧ ∀ w, v < w → w ≤ to → J w < 200 → my h w → J b < J w ∨ (J b = J w ∧ w ≤ b))
theorem pp_0 (my : Nat → Nat → Prop) (J : Nat → Nat) (to h : Nat) : pp_ my J to h to 200 h := Or.inl ⟨rfl, rfl, fun w h1 h2 => by omega⟩
theorem pp_1 {my : Nat → Nat → Prop} {J : Nat → Nat} {to h v j b : Nat} (hp : pp_ my J to h v j b) (hv : h < v) (hvt : v ≤ to) (hs : J v < 200) (hs2 : j = 200 ∨ J v + 1 < j) (hm : my h v) (hJ : ∀ v, h < v → v ≤ to → J v = 200 ∨ J v + v ≤ to) (ht : to ≤ 100) : pp_ my J to h (v - 1) (J v + 1) v := by
  refine Or.inr ⟨by omega, hvt, hs, hm, rfl, fun w h1 h2 h3 h4 => ?_⟩
  by_cases e : w = v
  · subst e; omega
  · rcases hp with ⟨_, _, q⟩ | ⟨_, _, q1, _, q2, q⟩
    · exact absurd h4 (q w (by omega) h2 h3)
    · rename_i p1 p2 p4
      have hb := hJ b (by omega) (by omega)
      rcases hs2 with z | z
      · rcases q w (by omega) h2 h3 h4 with y | y <;> omega
      · rcases q w (by omega) h2 h3 h4 with y | y <;> omega
theorem pp_2 {my : Nat → Nat → Prop} {J : Nat → Nat} {to h v j b : Nat} (hp : pp_ my J to h v j b) (hv : h < v) (hn : ¬ (J v < 200 ∧ (j = 200 ∨ J v + 1 < j) ∧ my h v)) : pp_ my J to h (v - 1) j b := by
  rcases hp with ⟨q0, q1, q⟩ | ⟨p1, p2, p3, p4, p5, q⟩
  · refine Or.inl ⟨q0, q1, fun w h1 h2 h3 h4 => ?_⟩
    by_cases e : w = v
    · subst e; exact hn ⟨h3, Or.inl q0, h4⟩
    · exact q w (by omega) h2 h3 h4
  · refine Or.inr ⟨by omega, p2, p3, p4, p5, fun w h1 h2 h3 h4 => ?_⟩
    by_cases e : w = v
    · subst e
      have : ¬ (J w + 1 < j) := fun z => hn ⟨h3, Or.inr z, h4⟩
      omega
    · exact q w (by omega) h2 h3 h4
theorem pp_e1 {my : Nat → Nat → Prop} {J : Nat → Nat} {to h v j b : Nat} (hp : pp_ my J to h v j b) (hv : v = h) : ps_ my J to h j b := by subst hv; exact hp
theorem pp_e2 {my : Nat → Nat → Prop} {J : Nat → Nat} {to h v j b : Nat} (hp : pp_ my J to h v j b) (hv : h ≤ v) (hj : j = 1) : ps_ my J to h j b := by
  rcases hp with ⟨q0, q1, q⟩ | ⟨p1, p2, p3, p4, p5, q⟩
  · omega
  · exact Or.inr ⟨by omega, p2, p3, p4, p5, fun w h1 h2 h3 h4 => by
      by_cases e : v < w
      · exact q w e h2 h3 h4
      · omega⟩
theorem pp_j {my : Nat → Nat → Prop} {J : Nat → Nat} {to h v j b : Nat} (hp : pp_ my J to h v j b) (hv : h ≤ v) (hJ : ∀ v, h < v → v ≤ to → J v = 200 ∨ J v + v ≤ to) (ht : to ≤ 100) : j = 200 ∨ (0 < j ∧ j ≤ 100) := by
  rcases hp with ⟨q0, q1, q⟩ | ⟨p1, p2, p3, p4, p5, q⟩
  · exact Or.inl q0
  · rcases hJ b (by omega) p2 with z | z <;> omega
theorem is_n {a b : Nat} {x y : Int32} (hx : x = jc_ a) (hy : y = jc_ b) (ha : a = 200 ∨ a ≤ 100) (hb : b = 200 ∨ b ≤ 100) : (¬ x = -2 ∧ (y = -2 ∨ x + 1 < y)) ↔ (a < 200 ∧ (b = 200 ∨ a + 1 < b)) := by
  subst hx; subst hy
  rw [jc_e (by omega), jc_e (by omega)]
  rcases ha with e | e
  · constructor
    · rintro ⟨h1, _⟩; exact absurd e h1
    · rintro ⟨h1, _⟩; omega
  · rcases hb with e2 | e2
    · constructor
      · rintro ⟨h1, _⟩; exact ⟨by omega, Or.inl e2⟩
      · rintro ⟨h1, _⟩; exact ⟨by omega, Or.inl e2⟩
    · rw [jc_n (j := a) (by omega), jc_n (j := b) (by omega), nI_1, nI_ltI (by omega) (by omega)]
      constructor
      · rintro ⟨h1, h2⟩; exact ⟨by omega, h2⟩
      · rintro ⟨h1, h2⟩; exact ⟨by omega, h2⟩
theorem jc_1 {j : Nat} (hj : j = 200 ∨ (0 < j ∧ j ≤ 100)) (h : jc_ j = 1) : j = 1 := by
  rcases hj with e | e
  · subst e; exact absurd h (by decide)
  · rw [jc_n (by omega)] at h
    exact (nI_eq (a := j) (b := 1) (by omega) (by omega)).mp h
/-- a plan of the heights from k on -/
def PL_ (my : Nat → Nat → Prop) (J B : Nat → Nat) (k to : Nat) : Prop := J to = 0 ∧ B to = to ∧ ∀ h, k ≤ h → h < to → ps_ my J to h (J h) (B h)
theorem pl_b {my : Nat → Nat → Prop} {J B : Nat → Nat} {k to : Nat} (hp : PL_ my J B k to) : ∀ n v, to - v ≤ n → k ≤ v → v ≤ to → J v = 200 ∨ J v + v ≤ to := by
  intro n
  induction n with
  | zero => intro v h1 _ h3; have : v = to := by omega
            subst this; rw [hp.1]; omega
  | succ n ih =>
    intro v h1 h2 h3
    by_cases e : v = to
    · subst e; rw [hp.1]; omega
    · rcases hp.2.2 v h2 (by omega) with ⟨q0, _⟩ | ⟨p1, p2, p3, p4, p5, q⟩
      · exact Or.inl q0
      · rcases ih (B v) (by omega) (by omega) p2 with z | z <;> omega
theorem ps_c {my : Nat → Nat → Prop} {J J2 : Nat → Nat} {to h j b : Nat} (hJ : ∀ v, h < v → v ≤ to → J2 v = J v) (hp : ps_ my J to h j b) : ps_ my J2 to h j b := by
  rcases hp with ⟨q0, q1, q⟩ | ⟨p1, p2, p3, p4, p5, q⟩
  · exact Or.inl ⟨q0, q1, fun v h1 h2 h3 => q v h1 h2 (by rw [← hJ v h1 h2]; exact h3)⟩
  · refine Or.inr ⟨p1, p2, by rw [hJ b p1 p2]; exact p3, p4, by rw [hJ b p1 p2]; exact p5, fun v h1 h2 h3 h4 => ?_⟩
    rw [hJ b p1 p2, hJ v h1 h2]
    exact q v h1 h2 (by rw [← hJ v h1 h2]; exact h3) h4
theorem pl_0 {my : Nat → Nat → Prop} {to : Nat} : PL_ my (fun _ => 0) (fun _ => to) to to := ⟨rfl, rfl, fun h h1 h2 => by omega⟩
theorem pl_s {my : Nat → Nat → Prop} {J B : Nat → Nat} {k to j b : Nat} (hp : PL_ my J B k to) (hk : 0 < k) (hkt : k ≤ to) (hs : ps_ my J to (k - 1) j b) : PL_ my (un_ J (k - 1) j) (un_ B (k - 1) b) (k - 1) to := by
  refine ⟨by rw [un_n (by omega)]; exact hp.1, by rw [un_n (by omega)]; exact hp.2.1, fun h h1 h2 => ?_⟩
  by_cases e : h = k - 1
  · subst e
    rw [un_i, un_i]
    exact ps_c (fun v h3 _ => un_n (by omega)) hs
  · rw [un_n e, un_n e]
    exact ps_c (fun v h3 _ => un_n (by omega)) (hp.2.2 h (by omega) h2)
/-- plans are alike -/
theorem ps_u {my : Nat → Nat → Prop} {J J2 : Nat → Nat} {to h j b j2 b2 : Nat} (hJ : ∀ v, h < v → v ≤ to → J2 v = J v) (hp : ps_ my J to h j b) (hq : ps_ my J2 to h j2 b2) : j = j2 ∧ b = b2 := by
  have hq := ps_c (J := J2) (J2 := J) (fun v h1 h2 => (hJ v h1 h2).symm) hq
  rcases hp with ⟨q0, q1, q⟩ | ⟨p1, p2, p3, p4, p5, q⟩
  · rcases hq with ⟨r0, r1, r⟩ | ⟨s1, s2, s3, s4, s5, r⟩
    · exact ⟨q0.trans r0.symm, q1.trans r1.symm⟩
    · exact absurd s4 (q b2 s1 s2 s3)
  · rcases hq with ⟨r0, r1, r⟩ | ⟨s1, s2, s3, s4, s5, r⟩
    · exact absurd p4 (r b p1 p2 p3)
    · have h1 := q b2 s1 s2 s3 s4
      have h2 := r b p1 p2 p3 p4
      have e : b = b2 := by omega
      subst e
      exact ⟨p5.trans s5.symm, rfl⟩
theorem pl_u {my : Nat → Nat → Prop} {J B J2 B2 : Nat → Nat} {k to : Nat} (hp : PL_ my J B k to) (hq : PL_ my J2 B2 k to) : ∀ n v, to - v ≤ n → k ≤ v → v ≤ to → J2 v = J v ∧ B2 v = B v := by
  intro n
  induction n with
  | zero => intro v h1 _ h3; have : v = to := by omega
            subst this; exact ⟨by rw [hp.1, hq.1], by rw [hp.2.1, hq.2.1]⟩
  | succ n ih =>
    intro v h1 h2 h3
    by_cases e : v = to
    · subst e; exact ⟨by rw [hp.1, hq.1], by rw [hp.2.1, hq.2.1]⟩
    · have hh := ps_u (fun w h4 h5 => (ih w (by omega) (by omega) h5).1) (hp.2.2 v h2 (by omega)) (hq.2.2 v h2 (by omega))
      exact ⟨hh.1.symm, hh.2.symm⟩
def it_ (B : Nat → Nat) (h : Nat) : Nat → Nat
  | 0 => h
  | k + 1 => B (it_ B h k)
theorem it_st {B : Nat → Nat} {h to : Nat} (hB : B to = to) {k : Nat} (hk : it_ B h k = to) : ∀ d, it_ B h (k + d) = to := by
  intro d
  induction d with
  | zero => exact hk
  | succ d ih => show B (it_ B h (k + d)) = to; rw [ih, hB]
theorem pl_B {my : Nat → Nat → Prop} {J B : Nat → Nat} {k to : Nat} (hp : PL_ my J B k to) {v : Nat} (h1 : k ≤ v) (h2 : v ≤ to) : v ≤ B v ∧ B v ≤ to := by
  by_cases e : v = to
  · subst e; rw [hp.2.1]; omega
  · rcases hp.2.2 v h1 (by omega) with ⟨_, q1, _⟩ | ⟨p1, p2, _⟩ <;> omega
theorem it_in {my : Nat → Nat → Prop} {J B : Nat → Nat} {k to : Nat} (hp : PL_ my J B k to) (hk : k ≤ to) (n : Nat) : k ≤ it_ B k n ∧ it_ B k n ≤ to := by
  induction n with
  | zero => exact ⟨Nat.le_refl k, hk⟩
  | succ n ih =>
    have h1 := pl_B hp ih.1 ih.2
    exact ⟨Nat.le_trans ih.1 h1.1, h1.2⟩
theorem it_u {my : Nat → Nat → Prop} {J B J2 B2 : Nat → Nat} {k to : Nat} (hp : PL_ my J B k to) (hq : PL_ my J2 B2 k to) (hk : k ≤ to) (n : Nat) : it_ B2 k n = it_ B k n := by
  induction n with
  | zero => rfl
  | succ n ih =>
    have h1 := it_in hp hk n
    show B2 (it_ B2 k n) = B (it_ B k n)
    rw [ih]
    exact (pl_u hp hq (to - it_ B k n) _ (Nat.le_refl _) h1.1 h1.2).2
theorem up_uu (f : Nat → Int32) (k : Nat) (a b : Int32) : upd (upd f k a) k b = upd f k b := by
  funext j
  by_cases h : j = k
  · subst h; rw [up_i, up_i]
  · rw [up_n _ _ _ _ h, up_n _ _ _ _ h, up_n _ _ _ _ h]
theorem dn_lt {k f : Nat} (hk : k < 2 ^ 30) (hf : f ≤ k) (h : ¬ nI k + (-1) < nI f) : f < k := by
  apply Decidable.byContradiction
  intro z
  have e : k = f := by omega
  subst e
  apply h
  apply Int32.lt_iff_toInt_lt.mpr
  rw [show nI k + (-1) = nI k - nI 1 from by rw [Int32.sub_eq_add_neg]; rfl, pk_sub_toInt hk (by omega), nI_toInt (by omega)]
  omega
theorem dn_ge {k f : Nat} (hk : k < 2 ^ 30) (hf : f ≤ k) (h : nI k + (-1) < nI f) : k = f := by
  apply Decidable.byContradiction
  intro z
  have e : f ≤ k - 1 := by omega
  rw [sb_m1 (by omega)] at h
  have h2 := (nI_ltI (by omega) (by omega)).mp h
  omega
theorem it_fin {B : Nat → Nat} {h to k i : Nat} (hB : B to = to) (hk : to ≤ it_ B h k ∧ it_ B h k ≤ to) (hi : k ≤ i) : it_ B h k = it_ B h i := by
  have h1 : it_ B h k = to := by omega
  have h2 := it_st hB h1 (i - k)
  rw [show k + (i - k) = i by omega] at h2
  rw [h1, h2]
end
section
/-! what the calls answer, over the state's rows; the program and the reference are both held against these -/
abbrev ac_P (a : Int32) : Prop := 0 ≤ a ∧ a ≤ 9
abbrev hn_P (N : Nat) (n : Int32) : Prop := 0 ≤ n ∧ n < nI N
abbrev hs_P (h : Nat) (x : Int32) : Prop := 0 ≤ x ∧ x ≤ nI h
abbrev ha_P (N : Nat) (bits : Int32) : Prop := (bits.toUInt32 >>> ((nI N).toUInt32 &&& Int32.toUInt32 31)).toInt32 = 0
abbrev up_P (h : Nat) (f t : Int32) : Prop := (0 ≤ f ∧ f ≤ nI h) ∧ (0 ≤ t ∧ t ≤ nI h) ∧ f < t
abbrev mv_P (N : Nat) (a n v : Int32) : Prop := (0 ≤ a ∧ a ≤ 9) ∧ (0 ≤ n ∧ n < nI N) ∧ (1 ≤ v ∧ v ≤ 1000000)
abbrev gd_P (what v : Int32) : Prop := (what = 0 ∧ (1 ≤ v ∧ v ≤ 9)) ∨ (what = 1 ∧ (0 ≤ v ∧ v ≤ 10000)) ∨ (what = 2 ∧ (1 ≤ v ∧ v ≤ 50)) ∨ (what = 3 ∧ (1 ≤ v ∧ v ≤ 1000000))
def rr_rule (h : Nat) (R : Nat → Int32) (what v : Int32) : Int32 := if gd_P what v then (if 0 < h then -4 else R (tn_X what)) else -1
def ru_rule (h : Nat) (R : Nat → Int32) (what v : Int32) : Nat → Int32 := if gd_P what v ∧ h = 0 then upd R (tn_X what) v else R
abbrev fu_P (fd a v : Int32) : Prop := ((0 ≤ a ∧ a ≤ 9) ∧ (1 ≤ v ∧ v ≤ 100000)) ∧ fd + v ≤ 1000000
def rr_fund (fd : Int32) (bal : Nat → Int32) (a v : Int32) : Int32 := if (0 ≤ a ∧ a ≤ 9) ∧ (1 ≤ v ∧ v ≤ 100000) then (if fd + v ≤ 1000000 then bal (tn_X a) + v else -3) else -1
def fd_fund (fd a v : Int32) : Int32 := if fu_P fd a v then fd + v else fd
def ba_fund (fd : Int32) (bal : Nat → Int32) (a v : Int32) : Nat → Int32 := if fu_P fd a v then upd bal (tn_X a) (bal (tn_X a) + v) else bal
abbrev no_P (N : Nat) (k c : Int32) : Prop := ((0 ≤ k ∧ k ≤ 9) ∧ (0 ≤ c ∧ c ≤ 100)) ∧ N < 8
def rr_node (N : Nat) (k c : Int32) : Int32 := if (0 ≤ k ∧ k ≤ 9) ∧ (0 ≤ c ∧ c ≤ 100) then (if N < 8 then nI N else -3) else -1
def sz_node (N : Nat) (k c : Int32) : Nat := if no_P N k c then N + 1 else N
def up_node (N : Nat) (k c : Int32) (f : Nat → Int32) (x : Int32) : Nat → Int32 := if no_P N k c then upd f N x else f
def rr_stake (N : Nat) (bal stk : Nat → Int32) (a n v : Int32) : Int32 := if mv_P N a n v then (if v ≤ bal (tn_X a) then stk (tn_X n * 10 + tn_X a) + v else -3) else -1
def ba_stake (N : Nat) (bal : Nat → Int32) (a n v : Int32) : Nat → Int32 := if mv_P N a n v ∧ v ≤ bal (tn_X a) then upd bal (tn_X a) (bal (tn_X a) - v) else bal
def sk_stake (N : Nat) (bal stk : Nat → Int32) (a n v : Int32) : Nat → Int32 := if mv_P N a n v ∧ v ≤ bal (tn_X a) then upd stk (tn_X n * 10 + tn_X a) (stk (tn_X n * 10 + tn_X a) + v) else stk
abbrev dr_P (N : Nat) (stk fz : Nat → Int32) (a n v : Int32) : Prop := mv_P N a n v ∧ v ≤ stk (tn_X n * 10 + tn_X a) ∧ fz (tn_X n) = 0
def rr_draw (N : Nat) (stk fz : Nat → Int32) (a n v : Int32) : Int32 := if mv_P N a n v then (if v ≤ stk (tn_X n * 10 + tn_X a) then (if fz (tn_X n) = 0 then stk (tn_X n * 10 + tn_X a) - v else -4) else -3) else -1
def sk_draw (N : Nat) (stk fz : Nat → Int32) (a n v : Int32) : Nat → Int32 := if dr_P N stk fz a n v then upd stk (tn_X n * 10 + tn_X a) (stk (tn_X n * 10 + tn_X a) - v) else stk
def du_draw (h w N : Nat) (stk fz due : Nat → Int32) (a n v : Int32) : Nat → Int32 := if dr_P N stk fz a n v then upd due (tn_X a * 110 + (h + w)) (due (tn_X a * 110 + (h + w)) + v) else due
def rr_join (h N : Nat) (sa : Nat → Int32) (n : Int32) : Int32 := if hn_P N n then (if sa (tn_X n) = 0 then nI (h + 1) else -4) else -1
def sa_join (N : Nat) (sa : Nat → Int32) (n : Int32) : Nat → Int32 := if hn_P N n ∧ sa (tn_X n) = 0 then upd sa (tn_X n) 1 else sa
abbrev le_P (N : Nat) (sa fz : Nat → Int32) (n : Int32) : Prop := hn_P N n ∧ sa (tn_X n) = 2 ∧ fz (tn_X n) = 0
def rr_leave (h w N : Nat) (sa fz : Nat → Int32) (n : Int32) : Int32 := if hn_P N n then (if sa (tn_X n) = 2 ∧ fz (tn_X n) = 0 then nI (h + w) else -4) else -1
def up_leave (N : Nat) (sa fz : Nat → Int32) (n : Int32) (f : Nat → Int32) (x : Int32) : Nat → Int32 := if le_P N sa fz n then upd f (tn_X n) x else f
def rr_freeze (N : Nat) (fz : Nat → Int32) (n : Int32) : Int32 := if hn_P N n then (if fz (tn_X n) = 0 then 0 else 1) else -1
def fz_freeze (N : Nat) (fz : Nat → Int32) (n x : Int32) : Nat → Int32 := if hn_P N n then upd fz (tn_X n) x else fz
def rr_balance (bal : Nat → Int32) (a : Int32) : Int32 := if ac_P a then bal (tn_X a) else -1
def rr_staked (N : Nat) (stk : Nat → Int32) (a n : Int32) : Int32 := if ac_P a then (if n = -1 then sI_ (fun k => stk (k * 10 + tn_X a)) 8 else if hn_P N n then stk (tn_X n * 10 + tn_X a) else -1) else -1
def rr_drawn (due : Nat → Int32) (a h : Int32) : Int32 := if ac_P a then (if h = -1 then sI_ (fun k => due (tn_X a * 110 + (k + 1))) 109 else if 1 ≤ h ∧ h ≤ 109 then due (tn_X a * 110 + tn_X h) else -1) else -1
def rr_about (N : Nat) (sa fz la kp ct stk : Nat → Int32) (n what : Int32) : Int32 := if hn_P N n then (if what = 0 then sa (tn_X n) else if what = 1 then (if fz (tn_X n) = 0 then 0 else 1) else if what = 2 then la (tn_X n) else if what = 3 then kp (tn_X n) else if what = 4 then ct (tn_X n) else if what = 5 then sI_ (fun a => stk (tn_X n * 10 + a)) 10 else -1) else -1
def rr_weight (h N : Nat) (wt al : Nat → Int32) (n x : Int32) : Int32 := if hs_P h x then (if n = -1 then al (tn_X x) else if hn_P N n then wt (tn_X x * 8 + tn_X n) else -1) else -1
def rr_reward (h N : Nat) (rw : Nat → Int32) (n x : Int32) : Int32 := if 0 ≤ x ∧ x ≤ nI h - 1 then (if n = -1 then sI_ (fun n => rw (tn_X x * 8 + n)) 8 else if hn_P N n then rw (tn_X x * 8 + tn_X n) else -1) else -1
def rr_judge (h N : Nat) (wt al : Nat → Int32) (x bits : Int32) : Int32 := if hs_P h x then (if ha_P N bits then (if 2 * al (tn_X x) < 3 * wo_ wt (tn_X x) (tn_X bits) 8 then 1 else 0) else -1) else -1
def rr_jump (h N : Nat) (wt al : Nat → Int32) (f t bits : Int32) : Int32 := if up_P h f t then (if ha_P N bits then (if 2 * al (tn_X t) < 3 * wo_ wt (tn_X t) (tn_X bits) 8 ∧ al (tn_X f) < 3 * wo_ wt (tn_X f) (tn_X bits) 8 then 1 else 0) else -1) else -1
def rr_overlap (h : Nat) (wt : Nat → Int32) (a b : Int32) : Int32 := if hs_P h a then (if hs_P h b then sI_ (fun n => if wt (tn_X b * 8 + n) < wt (tn_X a * 8 + n) then wt (tn_X b * 8 + n) else wt (tn_X a * 8 + n)) 8 else -1) else -1
/-- an answer of way, by a plan -/
def wa_ (J B : Nat → Nat) (f : Nat) (i : Int32) : Int32 := if J f = 200 then -2 else if i = -1 then nI (J f) else if 0 ≤ i ∧ i ≤ nI (J f) then nI (it_ B f (tn_X i)) else -1
def rw_way (h : Nat) (wt al : Nat → Int32) (bb : Nat → Nat) (f t i r : Int32) : Prop := if up_P h f t then ∃ J B : Nat → Nat, PL_ (my_ wt al bb) J B (tn_X f) (tn_X t) ∧ r = wa_ J B (tn_X f) i else r = -1
def rr_count (h N : Nat) (fd rd : Int32) (R bal stk due : Nat → Int32) (what : Int32) : Int32 := if what = 0 then nI h else if what = 1 then nI N else if what = 2 then fd else if what = 3 then rd else if what = 4 then sI_ bal 10 else if what = 5 then sI_ (fun jn => sI_ (fun a => stk (jn * 10 + a)) 10) 8 else if what = 6 then sI_ (fun ia => sI_ (fun k => due (ia * 110 + (k + 1))) 109) 10 else if what = 7 then R 0 else if what = 8 then R 1 else if what = 9 then R 2 else if what = 10 then R 3 else -1
/-! bounds -/
theorem ix_m1 {x : Int32} {h : Nat} (hh : h < 2 ^ 30) (hx : 0 ≤ x ∧ x ≤ nI h - 1) : ∃ z : Nat, z < h ∧ x = nI z := by
  have h1 : (nI h - 1).toInt = (h : Int) - 1 := pk_sub_toInt (a := h) (b := 1) hh (by omega)
  obtain ⟨j, h2, h3⟩ := nI_of (Int32.not_lt.mpr hx.1)
  refine ⟨j, ?_, h3⟩
  have h4 := Int32.le_iff_toInt_le.mp hx.2
  rw [h3, nI_toInt h2, h1] at h4
  omega
theorem ix_hs {x : Int32} {h : Nat} (hh : h < 2 ^ 31) (hx : 0 ≤ x ∧ x ≤ nI h) : ∃ z : Nat, z < h + 1 ∧ x = nI z := ix_le (nI_toInt hh) hx
theorem ha_0 : ∀ N, N < 9 → ((((nI N).toUInt32 &&& Int32.toUInt32 31)).toBitVec % 32).toNat = N := by decide +kernel
theorem ix_ha {N : Nat} {bits : Int32} (hN : N ≤ 8) (h : ha_P N bits) : ∃ z : Nat, z < 256 ∧ bits = nI z := by
  have h1 := pk_ushr bits (nI N) N (ha_0 N (by omega))
  rw [h] at h1
  have h2 : (0 : Int32).toBitVec.toNat = 0 := rfl
  rw [h2] at h1
  have h3 : 2 ^ N ≤ 256 := by
    have : 2 ^ N ≤ 2 ^ 8 := Nat.pow_le_pow_right (by omega) hN
    omega
  have h4 : 0 < 2 ^ N := Nat.pow_pos (by omega)
  have h5 : bits.toBitVec.toNat < 2 ^ N := by
    rcases Nat.lt_or_ge bits.toBitVec.toNat (2 ^ N) with z | z
    · exact z
    · have := Nat.div_pos z h4; omega
  refine ⟨bits.toBitVec.toNat, by omega, ?_⟩
  apply Int32.toBitVec_inj.mp
  apply BitVec.eq_of_toNat_eq
  rw [pk_tn (by omega)]
end
section
set_option maxHeartbeats 4000000 in
set_option maxRecDepth 100000 in
theorem k_X5_stakePlace (l : Launch) (D : va_G) (cI cJ cZ : ClassId) (jn : Nat) (ia : Nat)  : mt_I l yX5_stakePlace cX5_stakePlace 2 .int 0 0 D cI cJ cZ [] [.int (nI jn), .int (nI ia)] (fun r (u_u : Unit) => r = nI (jn * 10 + ia)) (fun u_u : Unit => []) := by
  refine en_I (by decide) (Nat.le_of_ble_eq_true rfl) ?_
  intro p e s m below meth c A ls H locs hx hb hr hml hts hown hlk hN hK hA hP hD hS hl
  have hown : s.vm.findClass RX5 = some m.cls := hown
  have hl : lv_has ls 2 [(0, .int (nI jn)), (1, .int (nI ia))] := hl
  refine lv_iload_n hx hb dX5_stakePlace_0 rfl (lv_at hl 0 rfl) ?_
  refine lv_bipush (v := 10) hx hb dX5_stakePlace_1 (by decide) ?_
  refine lv_imul hx hb dX5_stakePlace_3 ?_
  refine tp_i (x' := nI (jn * 10)) (nn_mul rfl rfl) ?_
  refine lv_iload_n hx hb dX5_stakePlace_4 rfl (lv_at hl 1 rfl) ?_
  refine lv_iadd hx hb dX5_stakePlace_5 ?_
  refine tp_i (x' := nI ((jn * 10) + ia)) (nn_add rfl rfl) ?_
  exact re_I (w1 := fun u_u : Unit => []) (v := nI ((jn * 10) + ia)) hx hb hr hlk hK hS rfl () hP hD (show nI ((jn * 10) + ia) = nI (jn * 10 + ia) from rfl) dX5_stakePlace_6

set_option maxHeartbeats 4000000 in
set_option maxRecDepth 100000 in
theorem k_X5_duePlace (l : Launch) (D : va_G) (cI cJ cZ : ClassId) (ia : Nat) (kh : Nat)  : mt_I l yX5_duePlace cX5_duePlace 2 .int 0 0 D cI cJ cZ [] [.int (nI ia), .int (nI kh)] (fun r (u_u : Unit) => r = nI (ia * 110 + kh)) (fun u_u : Unit => []) := by
  refine en_I (by decide) (Nat.le_of_ble_eq_true rfl) ?_
  intro p e s m below meth c A ls H locs hx hb hr hml hts hown hlk hN hK hA hP hD hS hl
  have hown : s.vm.findClass RX5 = some m.cls := hown
  have hl : lv_has ls 2 [(0, .int (nI ia)), (1, .int (nI kh))] := hl
  refine lv_iload_n hx hb dX5_duePlace_0 rfl (lv_at hl 0 rfl) ?_
  refine lv_bipush (v := 110) hx hb dX5_duePlace_1 (by decide) ?_
  refine lv_imul hx hb dX5_duePlace_3 ?_
  refine tp_i (x' := nI (ia * 110)) (nn_mul rfl rfl) ?_
  refine lv_iload_n hx hb dX5_duePlace_4 rfl (lv_at hl 1 rfl) ?_
  refine lv_iadd hx hb dX5_duePlace_5 ?_
  refine tp_i (x' := nI ((ia * 110) + kh)) (nn_add rfl rfl) ?_
  exact re_I (w1 := fun u_u : Unit => []) (v := nI ((ia * 110) + kh)) hx hb hr hlk hK hS rfl () hP hD (show nI ((ia * 110) + kh) = nI (ia * 110 + kh) from rfl) dX5_duePlace_6

set_option maxHeartbeats 4000000 in
set_option maxRecDepth 100000 in
theorem k_X5_setPlace (l : Launch) (D : va_G) (cI cJ cZ : ClassId) (kh : Nat) (jn : Nat)  : mt_I l yX5_setPlace cX5_setPlace 2 .int 0 0 D cI cJ cZ [] [.int (nI kh), .int (nI jn)] (fun r (u_u : Unit) => r = nI (kh * 8 + jn)) (fun u_u : Unit => []) := by
  refine en_I (by decide) (Nat.le_of_ble_eq_true rfl) ?_
  intro p e s m below meth c A ls H locs hx hb hr hml hts hown hlk hN hK hA hP hD hS hl
  have hown : s.vm.findClass RX5 = some m.cls := hown
  have hl : lv_has ls 2 [(0, .int (nI kh)), (1, .int (nI jn))] := hl
  refine lv_iload_n hx hb dX5_setPlace_0 rfl (lv_at hl 0 rfl) ?_
  refine lv_bipush (v := 8) hx hb dX5_setPlace_1 (by decide) ?_
  refine lv_imul hx hb dX5_setPlace_3 ?_
  refine tp_i (x' := nI (kh * 8)) (nn_mul rfl rfl) ?_
  refine lv_iload_n hx hb dX5_setPlace_4 rfl (lv_at hl 1 rfl) ?_
  refine lv_iadd hx hb dX5_setPlace_5 ?_
  refine tp_i (x' := nI ((kh * 8) + jn)) (nn_add rfl rfl) ?_
  exact re_I (w1 := fun u_u : Unit => []) (v := nI ((kh * 8) + jn)) hx hb hr hlk hK hS rfl () hP hD (show nI ((kh * 8) + jn) = nI (kh * 8 + jn) from rfl) dX5_setPlace_6

set_option maxHeartbeats 4000000 in
set_option maxRecDepth 100000 in
theorem k_X5_isWithin (l : Launch) (D : va_G) (cI cJ cZ : ClassId) (v : Int32) (lo_ : Int32) (hi_ : Int32)  : mt_I l yX5_isWithin cX5_isWithin 3 .boolean 0 0 D cI cJ cZ [] [.int v, .int lo_, .int hi_] (fun r (_ : Unit) => r = if lo_ ≤ v ∧ v ≤ hi_ then 1 else 0) (fun u_u : Unit => []) := by
  refine en_I (by decide) (Nat.le_of_ble_eq_true rfl) ?_
  intro p e s m below meth c A ls H locs hx hb hr hml hts hown hlk hN hK hA hP hD hS hl
  have hown : s.vm.findClass RX5 = some m.cls := hown
  have hl : lv_has ls 3 [(0, .int v), (1, .int lo_), (2, .int hi_)] := hl
  refine lv_iload_n hx hb dX5_isWithin_0 rfl (lv_at hl 0 rfl) ?_
  refine lv_iload_n hx hb dX5_isWithin_1 rfl (lv_at hl 1 rfl) ?_
  refine lv_icmp_lt (tgt := 14) hx hb dX5_isWithin_2 (by decide) (fun c_2 => ?_) (fun c_2 => ?_)
  · refine lv_iconst (v := 0) hx hb dX5_isWithin_14 (by decide) ?_
    exact re_I (w1 := fun u_u : Unit => []) (v := 0) hx hb hr hlk hK hS rfl () hP hD (show _ = if lo_ ≤ v ∧ v ≤ hi_ then _ else _ from (if_neg (fun z => absurd z.1 (Int32.not_le.mpr c_2))).symm) dX5_isWithin_15
  · refine lv_iload_n hx hb dX5_isWithin_5 rfl (lv_at hl 0 rfl) ?_
    refine lv_iload_n hx hb dX5_isWithin_6 rfl (lv_at hl 2 rfl) ?_
    refine lv_icmp_gt (tgt := 14) hx hb dX5_isWithin_7 (by decide) (fun c_7 => ?_) (fun c_7 => ?_)
    · refine lv_iconst (v := 0) hx hb dX5_isWithin_14 (by decide) ?_
      exact re_I (w1 := fun u_u : Unit => []) (v := 0) hx hb hr hlk hK hS rfl () hP hD (show _ = if lo_ ≤ v ∧ v ≤ hi_ then _ else _ from (if_neg (fun z => absurd z.2 (Int32.not_le.mpr c_7))).symm) dX5_isWithin_15
    · refine lv_iconst (v := 1) hx hb dX5_isWithin_10 (by decide) ?_
      refine lv_goto (tgt := 15) hx hb dX5_isWithin_11 (by decide) ?_
      exact re_I (w1 := fun u_u : Unit => []) (v := 1) hx hb hr hlk hK hS rfl () hP hD (show _ = if lo_ ≤ v ∧ v ≤ hi_ then _ else _ from (if_pos ⟨Int32.not_lt.mp c_2, Int32.not_lt.mp c_7⟩).symm) dX5_isWithin_15

set_option maxHeartbeats 4000000 in
set_option maxRecDepth 100000 in
theorem k_X5_isAccount (l : Launch) (D : va_G) (cI cJ cZ : ClassId) (a : Int32)  : mt_I l yX5_isAccount cX5_isAccount 1 .boolean 1 22 D cI cJ cZ [] [.int a] (fun r (_ : Unit) => r = if 0 ≤ a ∧ a ≤ 9 then 1 else 0) (fun u_u : Unit => []) := by
  refine en_I (by decide) (Nat.le_of_ble_eq_true rfl) ?_
  intro p e s m below meth c A ls H locs hx hb hr hml hts hown hlk hN hK hA hP hD hS hl
  have hown : s.vm.findClass RX5 = some m.cls := hown
  have hl : lv_has ls 1 [(0, .int a)] := hl
  refine lv_iload_n hx hb dX5_isAccount_0 rfl (lv_at hl 0 rfl) ?_
  refine lv_iconst (v := 0) hx hb dX5_isAccount_1 (by decide) ?_
  refine lv_bipush (v := 9) hx hb dX5_isAccount_2 (by decide) ?_
  refine ca_SI (rest := []) (k_X5_isWithin l D cI cJ cZ a 0 9 ) hx hb hml hown hts hN hK hA hP hD hS bw_163 bw_164 bw_1 bw_165 3 rfl (by decide +kernel) ⟨by decide, by decide⟩ hl.1 rfl (Nat.le_of_ble_eq_true rfl) dX5_isAccount_4 ⟨Nat.zero_le _, Nat.zero_le _⟩ (fun r_4 u_u H locs w_4 hP hD hS => ?_)
  have w_4 : r_4 = if 0 ≤ a ∧ a ≤ 9 then 1 else 0 := w_4
  by_cases h_4 : 0 ≤ a ∧ a ≤ 9
  · rw [if_pos h_4] at w_4; subst w_4
    exact re_I (w1 := fun u_u : Unit => []) (v := 1) hx hb hr hlk hK hS rfl () hP hD (show _ = if 0 ≤ a ∧ a ≤ 9 then _ else _ from by simp [h_4]) dX5_isAccount_7
  · rw [if_neg h_4] at w_4; subst w_4
    exact re_I (w1 := fun u_u : Unit => []) (v := 0) hx hb hr hlk hK hS rfl () hP hD (show _ = if 0 ≤ a ∧ a ≤ 9 then _ else _ from by simp [h_4]) dX5_isAccount_7

set_option maxHeartbeats 4000000 in
set_option maxRecDepth 100000 in
theorem k_X0_payDue (l : Launch) (D : va_G) (cI cJ cZ : ClassId) (bk : Nat) (bal : Nat) (due : Nat) (funded : Int32) (rewarded : Int32) (stk : Nat) (fbal : Nat → Int32) (fdue : Nat → Int32) (h : Nat) (hh : h < 110) : mt_V l yX0_payDue cX0_payDue 4 1 21 D cI cJ cZ [ob_J bk 0 [.int funded, .int rewarded, .ref bal, .ref stk, .ref due], ar_I bal cI 10 fbal, ar_I due cI 1100 fdue] [.ref bk, .int (nI h)] (fun u_u : Unit => True) (fun u_u : Unit => [ob_J bk 0 [.int funded, .int rewarded, .ref bal, .ref stk, .ref due], ar_I bal cI 10 (ad_v fbal (fun a => fdue (a * 110 + h)) 10), ar_I due cI 1100 (dz_ fdue h 10)]) := by
  refine en_V (by decide) (Nat.le_of_ble_eq_true rfl) ?_
  intro p e s m below meth c A ls H locs hx hb hr hml hts hown hlk hN hK hA hP hD hS hl
  have hown : s.vm.findClass RX0 = some m.cls := hown
  have hl : lv_has ls 4 [(0, .ref bk), (1, .int (nI h))] := hl
  refine lv_iconst (v := 0) hx hb dX0_payDue_0 (by decide) ?_
  refine lv_istore_n (lv' := [(2, .int 0), (0, .ref bk), (1, .int (nI h))]) hx hb dX0_payDue_1 rfl hl (by decide) rfl (fun ls hl => ?_)
  have q_1 : fbal = ad_v fbal (fun a => fdue (a * 110 + h)) 0 := ad_0 _ _
  obtain ⟨hP, hD⟩ := cs_W (fun z_z => [ob_J bk 0 [.int funded, .int rewarded, .ref bal, .ref stk, .ref due], ar_I bal cI 10 z_z, ar_I due cI 1100 fdue]) q_1 hP hD
  have q_2 : fdue = dz_ fdue h 0 := rfl
  obtain ⟨hP, hD⟩ := cs_W (fun z_z => [ob_J bk 0 [.int funded, .int rewarded, .ref bal, .ref stk, .ref due], ar_I bal cI 10 (ad_v fbal (fun a => fdue (a * 110 + h)) 0), ar_I due cI 1100 z_z]) q_2 hP hD
  have hl := lv_sub (l' := [(0, .ref bk), (1, .int (nI h)), (2, .int 0)]) hl [1, 2, 0] rfl
  have q_3 : 0 = nI 0 := rfl
  have hl := cs_L (fun z_z => [(0, .ref bk), (1, .int (nI h)), (2, .int z_z)]) q_3 hl
  have hl : lv_has ls 4 [(0, .ref bk), (1, .int (nI h)), (2, .int (nI 0))] := hl
  refine lp_g (σ := Nat) (fun i => 10 - i) (fun i => [ob_J bk 0 [.int funded, .int rewarded, .ref bal, .ref stk, .ref due], ar_I bal cI 10 (ad_v fbal (fun a => fdue (a * 110 + h)) i), ar_I due cI 1100 (dz_ fdue h i)]) (fun i => [(0, .ref bk), (1, .int (nI h)), (2, .int (nI i))]) (fun i => (i ≤ 10)) ?_ 0 (show (0 ≤ 10) from by omega) hP hD hS hl
  intro i H locs ls hF hP hD hS hl ih_2
  have hF : (i ≤ 10) := hF
  have hi := hF
  have hP : va_P D cl_A [ob_J bk 0 [.int funded, .int rewarded, .ref bal, .ref stk, .ref due], ar_I bal cI 10 (ad_v fbal (fun a => fdue (a * 110 + h)) i), ar_I due cI 1100 (dz_ fdue h i)] H := hP
  have hD : va_D A [ob_J bk 0 [.int funded, .int rewarded, .ref bal, .ref stk, .ref due], ar_I bal cI 10 (ad_v fbal (fun a => fdue (a * 110 + h)) i), ar_I due cI 1100 (dz_ fdue h i)] := hD
  have hl : lv_has ls 4 [(0, .ref bk), (1, .int (nI h)), (2, .int (nI i))] := hl
  refine lv_iload_n hx hb dX0_payDue_2 rfl (lv_at hl 2 rfl) ?_
  refine lv_bipush (v := 10) hx hb dX0_payDue_3 (by decide) ?_
  refine lv_icmp_ge (tgt := 42) hx hb dX0_payDue_5 (by decide) (fun c_5 => ?_) (fun c_5 => ?_)
  · have c_5 := qq_ge (a := i) (b := 10) c_5 (by omega) (by omega)
    have q_4 : ad_v fbal (fun a => fdue (a * 110 + h)) i = ad_v fbal (fun a => fdue (a * 110 + h)) 10 := by rw [show i = 10 by omega]
    obtain ⟨hP, hD⟩ := cs_W (fun z_z => [ob_J bk 0 [.int funded, .int rewarded, .ref bal, .ref stk, .ref due], ar_I bal cI 10 z_z, ar_I due cI 1100 (dz_ fdue h i)]) q_4 hP hD
    have q_5 : dz_ fdue h i = dz_ fdue h 10 := by rw [show i = 10 by omega]
    obtain ⟨hP, hD⟩ := cs_W (fun z_z => [ob_J bk 0 [.int funded, .int rewarded, .ref bal, .ref stk, .ref due], ar_I bal cI 10 (ad_v fbal (fun a => fdue (a * 110 + h)) 10), ar_I due cI 1100 z_z]) q_5 hP hD
    exact re_V (w1 := fun u_u : Unit => [ob_J bk 0 [.int funded, .int rewarded, .ref bal, .ref stk, .ref due], ar_I bal cI 10 (ad_v fbal (fun a => fdue (a * 110 + h)) 10), ar_I due cI 1100 (dz_ fdue h 10)]) hx hb hr hlk hK hS () hP hD trivial dX0_payDue_42
  · have c_5 := qq_nge (a := i) (b := 10) c_5 (by omega) (by omega)
    refine lv_iload_n hx hb dX0_payDue_8 rfl (lv_at hl 2 rfl) ?_
    refine lv_iload_n hx hb dX0_payDue_9 rfl (lv_at hl 1 rfl) ?_
    refine ca_NI (rest := []) (k_X5_duePlace l D cI cJ cZ i h ) hx hb hml hown hts hN hK hA hP hD hS hN.1 bw_202 bw_1 bw_203 2 rfl (by decide +kernel) ⟨by decide, by decide⟩ hl.1 rfl (Nat.le_of_ble_eq_true rfl) dX0_payDue_10 ⟨Nat.zero_le _, Nat.zero_le _⟩ (fun r_10 u_u H locs w_10 hP hD hS => ?_)
    have w_10 : r_10 = nI (i * 110 + h) := w_10
    subst w_10
    refine lv_istore_n (lv' := [(3, .int (nI (i * 110 + h))), (0, .ref bk), (1, .int (nI h)), (2, .int (nI i))]) hx hb dX0_payDue_13 rfl hl (by decide) rfl (fun ls hl => ?_)
    refine lv_aload_n hx hb dX0_payDue_14 rfl (lv_at hl 1 rfl) ?_
    refine va_get (ci := 0) (v := .ref bal) (C := RX0) (T := TX0) (N := 5) hx hb hts bi_0 hown hK hP 0 rfl rfl 2 (by decide) (hts _ bw_27) (fun _ h9 => h9) rfl dX0_payDue_15 ?_
    refine lv_iload_n hx hb dX0_payDue_18 rfl (lv_at hl 3 rfl) ?_
    refine lv_dup2_11 hx hb dX0_payDue_19 rfl rfl ?_
    refine ar_ld hx hb hK hP 1 (k := i) rfl rfl (by omega) (by decide) dX0_payDue_20 ?_
    refine lv_aload_n hx hb dX0_payDue_21 rfl (lv_at hl 1 rfl) ?_
    refine va_get (ci := 0) (v := .ref due) (C := RX0) (T := TX0) (N := 5) hx hb hts bi_0 hown hK hP 0 rfl rfl 4 (by decide) (hts _ bw_31) (fun _ h9 => h9) rfl dX0_payDue_22 ?_
    refine lv_iload_n hx hb dX0_payDue_25 rfl (lv_at hl 0 rfl) ?_
    refine ar_ld hx hb hK hP 2 (k := i * 110 + h) rfl rfl (by omega) (by decide) dX0_payDue_26 ?_
    refine lv_iadd hx hb dX0_payDue_27 ?_
    refine ar_st hx hb hK hP hD hS 1 (k := i) rfl rfl (by omega) (by decide) dX0_payDue_28 _ rfl (fun H locs hP hD hS => ?_)
    have hP : va_P D cl_A [ob_J bk 0 [.int funded, .int rewarded, .ref bal, .ref stk, .ref due], ar_I bal cI 10 (upd (ad_v fbal (fun a => fdue (a * 110 + h)) i) i (((ad_v fbal (fun a => fdue (a * 110 + h)) i) i) + ((dz_ fdue h i) (i * 110 + h)))), ar_I due cI 1100 (dz_ fdue h i)] H := hP
    have hD : va_D A [ob_J bk 0 [.int funded, .int rewarded, .ref bal, .ref stk, .ref due], ar_I bal cI 10 (upd (ad_v fbal (fun a => fdue (a * 110 + h)) i) i (((ad_v fbal (fun a => fdue (a * 110 + h)) i) i) + ((dz_ fdue h i) (i * 110 + h)))), ar_I due cI 1100 (dz_ fdue h i)] := hD
    refine lv_aload_n hx hb dX0_payDue_29 rfl (lv_at hl 1 rfl) ?_
    refine va_get (ci := 0) (v := .ref due) (C := RX0) (T := TX0) (N := 5) hx hb hts bi_0 hown hK hP 0 rfl rfl 4 (by decide) (hts _ bw_31) (fun _ h9 => h9) rfl dX0_payDue_30 ?_
    refine lv_iload_n hx hb dX0_payDue_33 rfl (lv_at hl 0 rfl) ?_
    refine lv_iconst (v := 0) hx hb dX0_payDue_34 (by decide) ?_
    refine ar_st hx hb hK hP hD hS 2 (k := i * 110 + h) rfl rfl (by omega) (by decide) dX0_payDue_35 _ rfl (fun H locs hP hD hS => ?_)
    have hP : va_P D cl_A [ob_J bk 0 [.int funded, .int rewarded, .ref bal, .ref stk, .ref due], ar_I bal cI 10 (upd (ad_v fbal (fun a => fdue (a * 110 + h)) i) i (((ad_v fbal (fun a => fdue (a * 110 + h)) i) i) + ((dz_ fdue h i) (i * 110 + h)))), ar_I due cI 1100 (upd (dz_ fdue h i) (i * 110 + h) 0)] H := hP
    have hD : va_D A [ob_J bk 0 [.int funded, .int rewarded, .ref bal, .ref stk, .ref due], ar_I bal cI 10 (upd (ad_v fbal (fun a => fdue (a * 110 + h)) i) i (((ad_v fbal (fun a => fdue (a * 110 + h)) i) i) + ((dz_ fdue h i) (i * 110 + h)))), ar_I due cI 1100 (upd (dz_ fdue h i) (i * 110 + h) 0)] := hD
    refine lv_iinc (v := nI (i + 1)) (lv' := [(2, .int (nI (i + 1))), (3, .int (nI (i * 110 + h))), (0, .ref bk), (1, .int (nI h))]) hx hb dX0_payDue_36 hl (k := 3) rfl (nI_1 _) (by decide) rfl (fun ls hl => ?_)
    refine lv_goto (tgt := 2) hx hb dX0_payDue_39 (by decide) ?_
    have q_6 : upd (ad_v fbal (fun a => fdue (a * 110 + h)) i) i (((ad_v fbal (fun a => fdue (a * 110 + h)) i) i) + ((dz_ fdue h i) (i * 110 + h))) = ad_v fbal (fun a => fdue (a * 110 + h)) (i + 1) := by rw [dz_r fdue hh i i (Nat.le_refl i)]; exact ad_s fbal (fun a => fdue (a * 110 + h)) i
    obtain ⟨hP, hD⟩ := cs_W (fun z_z => [ob_J bk 0 [.int funded, .int rewarded, .ref bal, .ref stk, .ref due], ar_I bal cI 10 z_z, ar_I due cI 1100 (upd (dz_ fdue h i) (i * 110 + h) 0)]) q_6 hP hD
    have q_7 : upd (dz_ fdue h i) (i * 110 + h) 0 = dz_ fdue h (i + 1) := rfl
    obtain ⟨hP, hD⟩ := cs_W (fun z_z => [ob_J bk 0 [.int funded, .int rewarded, .ref bal, .ref stk, .ref due], ar_I bal cI 10 (ad_v fbal (fun a => fdue (a * 110 + h)) (i + 1)), ar_I due cI 1100 z_z]) q_7 hP hD
    have hl := lv_sub (l' := [(0, .ref bk), (1, .int (nI h)), (2, .int (nI (i + 1)))]) hl [2, 3, 0] rfl
    have hl : lv_has ls 4 [(0, .ref bk), (1, .int (nI h)), (2, .int (nI (i + 1)))] := hl
    exact ih_2 (i + 1) (show 10 - (i + 1) < 10 - i from by omega) (show ((i + 1) ≤ 10) from by omega) H locs ls hP hD hS hl

set_option maxHeartbeats 4000000 in
set_option maxRecDepth 100000 in
theorem k_X0_stakesOfNode (l : Launch) (D : va_G) (cI cJ cZ : ClassId) (bk : Nat) (stk : Nat) (funded : Int32) (rewarded : Int32) (bal : Nat) (due : Nat) (fstk : Nat → Int32) (jn : Nat) (hj : jn < 8) : mt_I l yX0_stakesOfNode cX0_stakesOfNode 4 .int 1 21 D cI cJ cZ [ob_J bk 0 [.int funded, .int rewarded, .ref bal, .ref stk, .ref due], ar_I stk cI 80 fstk] [.ref bk, .int (nI jn)] (fun r (u_u : Unit) => r = sI_ (fun a => fstk (jn * 10 + a)) 10) (fun u_u : Unit => [ob_J bk 0 [.int funded, .int rewarded, .ref bal, .ref stk, .ref due], ar_I stk cI 80 fstk]) := by
  refine en_I (by decide) (Nat.le_of_ble_eq_true rfl) ?_
  intro p e s m below meth c A ls H locs hx hb hr hml hts hown hlk hN hK hA hP hD hS hl
  have hown : s.vm.findClass RX0 = some m.cls := hown
  have hl : lv_has ls 4 [(0, .ref bk), (1, .int (nI jn))] := hl
  refine lv_iconst (v := 0) hx hb dX0_stakesOfNode_0 (by decide) ?_
  refine lv_istore_n (lv' := [(2, .int 0), (0, .ref bk), (1, .int (nI jn))]) hx hb dX0_stakesOfNode_1 rfl hl (by decide) rfl (fun ls hl => ?_)
  refine lv_iconst (v := 0) hx hb dX0_stakesOfNode_2 (by decide) ?_
  refine lv_istore_n (lv' := [(3, .int 0), (2, .int 0), (0, .ref bk), (1, .int (nI jn))]) hx hb dX0_stakesOfNode_3 rfl hl (by decide) rfl (fun ls hl => ?_)
  have hl := lv_sub (l' := [(0, .ref bk), (1, .int (nI jn)), (2, .int 0), (3, .int 0)]) hl [2, 3, 1, 0] rfl
  have q_1 : 0 = sI_ (fun a => fstk (jn * 10 + a)) 0 := rfl
  have hl := cs_L (fun z_z => [(0, .ref bk), (1, .int (nI jn)), (2, .int z_z), (3, .int 0)]) q_1 hl
  have q_2 : 0 = nI 0 := rfl
  have hl := cs_L (fun z_z => [(0, .ref bk), (1, .int (nI jn)), (2, .int (sI_ (fun a => fstk (jn * 10 + a)) 0)), (3, .int z_z)]) q_2 hl
  have hl : lv_has ls 4 [(0, .ref bk), (1, .int (nI jn)), (2, .int (sI_ (fun a => fstk (jn * 10 + a)) 0)), (3, .int (nI 0))] := hl
  refine lp_g (σ := Nat) (fun i => 10 - i) (fun i => [ob_J bk 0 [.int funded, .int rewarded, .ref bal, .ref stk, .ref due], ar_I stk cI 80 fstk]) (fun i => [(0, .ref bk), (1, .int (nI jn)), (2, .int (sI_ (fun a => fstk (jn * 10 + a)) i)), (3, .int (nI i))]) (fun i => (i ≤ 10)) ?_ 0 (show (0 ≤ 10) from by omega) hP hD hS hl
  intro i H locs ls hF hP hD hS hl ih_4
  have hF : (i ≤ 10) := hF
  have hi := hF
  have hP : va_P D cl_A [ob_J bk 0 [.int funded, .int rewarded, .ref bal, .ref stk, .ref due], ar_I stk cI 80 fstk] H := hP
  have hD : va_D A [ob_J bk 0 [.int funded, .int rewarded, .ref bal, .ref stk, .ref due], ar_I stk cI 80 fstk] := hD
  have hl : lv_has ls 4 [(0, .ref bk), (1, .int (nI jn)), (2, .int (sI_ (fun a => fstk (jn * 10 + a)) i)), (3, .int (nI i))] := hl
  refine lv_iload_n hx hb dX0_stakesOfNode_4 rfl (lv_at hl 3 rfl) ?_
  refine lv_bipush (v := 10) hx hb dX0_stakesOfNode_5 (by decide) ?_
  refine lv_icmp_ge (tgt := 29) hx hb dX0_stakesOfNode_7 (by decide) (fun c_7 => ?_) (fun c_7 => ?_)
  · have c_7 := qq_ge (a := i) (b := 10) c_7 (by omega) (by omega)
    refine lv_iload_n hx hb dX0_stakesOfNode_29 rfl (lv_at hl 2 rfl) ?_
    exact re_I (w1 := fun u_u : Unit => [ob_J bk 0 [.int funded, .int rewarded, .ref bal, .ref stk, .ref due], ar_I stk cI 80 fstk]) (v := sI_ (fun a => fstk (jn * 10 + a)) i) hx hb hr hlk hK hS rfl () hP hD (show sI_ (fun a => fstk (jn * 10 + a)) i = sI_ (fun a => fstk (jn * 10 + a)) 10 from by rw [show i = 10 by omega]) dX0_stakesOfNode_30
  · have c_7 := qq_nge (a := i) (b := 10) c_7 (by omega) (by omega)
    refine lv_iload_n hx hb dX0_stakesOfNode_10 rfl (lv_at hl 2 rfl) ?_
    refine lv_aload_n hx hb dX0_stakesOfNode_11 rfl (lv_at hl 0 rfl) ?_
    refine va_get (ci := 0) (v := .ref stk) (C := RX0) (T := TX0) (N := 5) hx hb hts bi_0 hown hK hP 0 rfl rfl 3 (by decide) (hts _ bw_29) (fun _ h9 => h9) rfl dX0_stakesOfNode_12 ?_
    refine lv_iload_n hx hb dX0_stakesOfNode_15 rfl (lv_at hl 1 rfl) ?_
    refine lv_iload_n hx hb dX0_stakesOfNode_16 rfl (lv_at hl 3 rfl) ?_
    refine ca_NI (rest := [.ref stk, .int (sI_ (fun a => fstk (jn * 10 + a)) i)]) (k_X5_stakePlace l D cI cJ cZ jn i ) hx hb hml hown hts hN hK hA hP hD hS hN.2.1 bw_195 bw_1 bw_196 2 rfl (by decide +kernel) ⟨by decide, by decide⟩ hl.1 rfl (Nat.le_of_ble_eq_true rfl) dX0_stakesOfNode_17 ⟨Nat.zero_le _, Nat.zero_le _⟩ (fun r_17 u_u H locs w_17 hP hD hS => ?_)
    have w_17 : r_17 = nI (jn * 10 + i) := w_17
    subst w_17
    refine ar_ld hx hb hK hP 1 (k := jn * 10 + i) rfl rfl (by omega) (by decide) dX0_stakesOfNode_20 ?_
    refine lv_iadd hx hb dX0_stakesOfNode_21 ?_
    refine lv_istore_n (lv' := [(2, .int ((sI_ (fun a => fstk (jn * 10 + a)) i) + (fstk (jn * 10 + i)))), (0, .ref bk), (1, .int (nI jn)), (3, .int (nI i))]) hx hb dX0_stakesOfNode_22 rfl hl (by decide) rfl (fun ls hl => ?_)
    refine lv_iinc (v := nI (i + 1)) (lv' := [(3, .int (nI (i + 1))), (2, .int ((sI_ (fun a => fstk (jn * 10 + a)) i) + (fstk (jn * 10 + i)))), (0, .ref bk), (1, .int (nI jn))]) hx hb dX0_stakesOfNode_23 hl (k := 3) rfl (nI_1 _) (by decide) rfl (fun ls hl => ?_)
    refine lv_goto (tgt := 4) hx hb dX0_stakesOfNode_26 (by decide) ?_
    have hl := lv_sub (l' := [(0, .ref bk), (1, .int (nI jn)), (2, .int ((sI_ (fun a => fstk (jn * 10 + a)) i) + (fstk (jn * 10 + i)))), (3, .int (nI (i + 1)))]) hl [2, 3, 1, 0] rfl
    have q_3 : (sI_ (fun a => fstk (jn * 10 + a)) i) + (fstk (jn * 10 + i)) = sI_ (fun a => fstk (jn * 10 + a)) (i + 1) := rfl
    have hl := cs_L (fun z_z => [(0, .ref bk), (1, .int (nI jn)), (2, .int z_z), (3, .int (nI (i + 1)))]) q_3 hl
    have hl : lv_has ls 4 [(0, .ref bk), (1, .int (nI jn)), (2, .int (sI_ (fun a => fstk (jn * 10 + a)) (i + 1))), (3, .int (nI (i + 1)))] := hl
    exact ih_4 (i + 1) (show 10 - (i + 1) < 10 - i from by omega) (show ((i + 1) ≤ 10) from by omega) H locs ls hP hD hS hl

set_option maxHeartbeats 4000000 in
set_option maxRecDepth 100000 in
theorem k_X0_stakesOfAccount (l : Launch) (D : va_G) (cI cJ cZ : ClassId) (bk : Nat) (stk : Nat) (funded : Int32) (rewarded : Int32) (bal : Nat) (due : Nat) (fstk : Nat → Int32) (ia : Nat) (ha : ia < 10) : mt_I l yX0_stakesOfAccount cX0_stakesOfAccount 4 .int 1 21 D cI cJ cZ [ob_J bk 0 [.int funded, .int rewarded, .ref bal, .ref stk, .ref due], ar_I stk cI 80 fstk] [.ref bk, .int (nI ia)] (fun r (u_u : Unit) => r = sI_ (fun k => fstk (k * 10 + ia)) 8) (fun u_u : Unit => [ob_J bk 0 [.int funded, .int rewarded, .ref bal, .ref stk, .ref due], ar_I stk cI 80 fstk]) := by
  refine en_I (by decide) (Nat.le_of_ble_eq_true rfl) ?_
  intro p e s m below meth c A ls H locs hx hb hr hml hts hown hlk hN hK hA hP hD hS hl
  have hown : s.vm.findClass RX0 = some m.cls := hown
  have hl : lv_has ls 4 [(0, .ref bk), (1, .int (nI ia))] := hl
  refine lv_iconst (v := 0) hx hb dX0_stakesOfAccount_0 (by decide) ?_
  refine lv_istore_n (lv' := [(2, .int 0), (0, .ref bk), (1, .int (nI ia))]) hx hb dX0_stakesOfAccount_1 rfl hl (by decide) rfl (fun ls hl => ?_)
  refine lv_iconst (v := 0) hx hb dX0_stakesOfAccount_2 (by decide) ?_
  refine lv_istore_n (lv' := [(3, .int 0), (2, .int 0), (0, .ref bk), (1, .int (nI ia))]) hx hb dX0_stakesOfAccount_3 rfl hl (by decide) rfl (fun ls hl => ?_)
  have hl := lv_sub (l' := [(0, .ref bk), (1, .int (nI ia)), (2, .int 0), (3, .int 0)]) hl [2, 3, 1, 0] rfl
  have q_1 : 0 = sI_ (fun k => fstk (k * 10 + ia)) 0 := rfl
  have hl := cs_L (fun z_z => [(0, .ref bk), (1, .int (nI ia)), (2, .int z_z), (3, .int 0)]) q_1 hl
  have q_2 : 0 = nI 0 := rfl
  have hl := cs_L (fun z_z => [(0, .ref bk), (1, .int (nI ia)), (2, .int (sI_ (fun k => fstk (k * 10 + ia)) 0)), (3, .int z_z)]) q_2 hl
  have hl : lv_has ls 4 [(0, .ref bk), (1, .int (nI ia)), (2, .int (sI_ (fun k => fstk (k * 10 + ia)) 0)), (3, .int (nI 0))] := hl
  refine lp_g (σ := Nat) (fun i => 8 - i) (fun i => [ob_J bk 0 [.int funded, .int rewarded, .ref bal, .ref stk, .ref due], ar_I stk cI 80 fstk]) (fun i => [(0, .ref bk), (1, .int (nI ia)), (2, .int (sI_ (fun k => fstk (k * 10 + ia)) i)), (3, .int (nI i))]) (fun i => (i ≤ 8)) ?_ 0 (show (0 ≤ 8) from by omega) hP hD hS hl
  intro i H locs ls hF hP hD hS hl ih_4
  have hF : (i ≤ 8) := hF
  have hi := hF
  have hP : va_P D cl_A [ob_J bk 0 [.int funded, .int rewarded, .ref bal, .ref stk, .ref due], ar_I stk cI 80 fstk] H := hP
  have hD : va_D A [ob_J bk 0 [.int funded, .int rewarded, .ref bal, .ref stk, .ref due], ar_I stk cI 80 fstk] := hD
  have hl : lv_has ls 4 [(0, .ref bk), (1, .int (nI ia)), (2, .int (sI_ (fun k => fstk (k * 10 + ia)) i)), (3, .int (nI i))] := hl
  refine lv_iload_n hx hb dX0_stakesOfAccount_4 rfl (lv_at hl 3 rfl) ?_
  refine lv_bipush (v := 8) hx hb dX0_stakesOfAccount_5 (by decide) ?_
  refine lv_icmp_ge (tgt := 29) hx hb dX0_stakesOfAccount_7 (by decide) (fun c_7 => ?_) (fun c_7 => ?_)
  · have c_7 := qq_ge (a := i) (b := 8) c_7 (by omega) (by omega)
    refine lv_iload_n hx hb dX0_stakesOfAccount_29 rfl (lv_at hl 2 rfl) ?_
    exact re_I (w1 := fun u_u : Unit => [ob_J bk 0 [.int funded, .int rewarded, .ref bal, .ref stk, .ref due], ar_I stk cI 80 fstk]) (v := sI_ (fun k => fstk (k * 10 + ia)) i) hx hb hr hlk hK hS rfl () hP hD (show sI_ (fun k => fstk (k * 10 + ia)) i = sI_ (fun k => fstk (k * 10 + ia)) 8 from by rw [show i = 8 by omega]) dX0_stakesOfAccount_30
  · have c_7 := qq_nge (a := i) (b := 8) c_7 (by omega) (by omega)
    refine lv_iload_n hx hb dX0_stakesOfAccount_10 rfl (lv_at hl 2 rfl) ?_
    refine lv_aload_n hx hb dX0_stakesOfAccount_11 rfl (lv_at hl 0 rfl) ?_
    refine va_get (ci := 0) (v := .ref stk) (C := RX0) (T := TX0) (N := 5) hx hb hts bi_0 hown hK hP 0 rfl rfl 3 (by decide) (hts _ bw_29) (fun _ h9 => h9) rfl dX0_stakesOfAccount_12 ?_
    refine lv_iload_n hx hb dX0_stakesOfAccount_15 rfl (lv_at hl 3 rfl) ?_
    refine lv_iload_n hx hb dX0_stakesOfAccount_16 rfl (lv_at hl 1 rfl) ?_
    refine ca_NI (rest := [.ref stk, .int (sI_ (fun k => fstk (k * 10 + ia)) i)]) (k_X5_stakePlace l D cI cJ cZ i ia ) hx hb hml hown hts hN hK hA hP hD hS hN.2.1 bw_195 bw_1 bw_196 2 rfl (by decide +kernel) ⟨by decide, by decide⟩ hl.1 rfl (Nat.le_of_ble_eq_true rfl) dX0_stakesOfAccount_17 ⟨Nat.zero_le _, Nat.zero_le _⟩ (fun r_17 u_u H locs w_17 hP hD hS => ?_)
    have w_17 : r_17 = nI (i * 10 + ia) := w_17
    subst w_17
    refine ar_ld hx hb hK hP 1 (k := i * 10 + ia) rfl rfl (by omega) (by decide) dX0_stakesOfAccount_20 ?_
    refine lv_iadd hx hb dX0_stakesOfAccount_21 ?_
    refine lv_istore_n (lv' := [(2, .int ((sI_ (fun k => fstk (k * 10 + ia)) i) + (fstk (i * 10 + ia)))), (0, .ref bk), (1, .int (nI ia)), (3, .int (nI i))]) hx hb dX0_stakesOfAccount_22 rfl hl (by decide) rfl (fun ls hl => ?_)
    refine lv_iinc (v := nI (i + 1)) (lv' := [(3, .int (nI (i + 1))), (2, .int ((sI_ (fun k => fstk (k * 10 + ia)) i) + (fstk (i * 10 + ia)))), (0, .ref bk), (1, .int (nI ia))]) hx hb dX0_stakesOfAccount_23 hl (k := 3) rfl (nI_1 _) (by decide) rfl (fun ls hl => ?_)
    refine lv_goto (tgt := 4) hx hb dX0_stakesOfAccount_26 (by decide) ?_
    have hl := lv_sub (l' := [(0, .ref bk), (1, .int (nI ia)), (2, .int ((sI_ (fun k => fstk (k * 10 + ia)) i) + (fstk (i * 10 + ia)))), (3, .int (nI (i + 1)))]) hl [2, 3, 1, 0] rfl
    have q_3 : (sI_ (fun k => fstk (k * 10 + ia)) i) + (fstk (i * 10 + ia)) = sI_ (fun k => fstk (k * 10 + ia)) (i + 1) := rfl
    have hl := cs_L (fun z_z => [(0, .ref bk), (1, .int (nI ia)), (2, .int z_z), (3, .int (nI (i + 1)))]) q_3 hl
    have hl : lv_has ls 4 [(0, .ref bk), (1, .int (nI ia)), (2, .int (sI_ (fun k => fstk (k * 10 + ia)) (i + 1))), (3, .int (nI (i + 1)))] := hl
    exact ih_4 (i + 1) (show 8 - (i + 1) < 8 - i from by omega) (show ((i + 1) ≤ 8) from by omega) H locs ls hP hD hS hl

set_option maxHeartbeats 4000000 in
set_option maxRecDepth 100000 in
theorem k_X0_dueOfAccount (l : Launch) (D : va_G) (cI cJ cZ : ClassId) (bk : Nat) (due : Nat) (funded : Int32) (rewarded : Int32) (bal : Nat) (stk : Nat) (fdue : Nat → Int32) (ia : Nat) (ha : ia < 10) : mt_I l yX0_dueOfAccount cX0_dueOfAccount 4 .int 1 21 D cI cJ cZ [ob_J bk 0 [.int funded, .int rewarded, .ref bal, .ref stk, .ref due], ar_I due cI 1100 fdue] [.ref bk, .int (nI ia)] (fun r (u_u : Unit) => r = sI_ (fun k => fdue (ia * 110 + (k + 1))) 109) (fun u_u : Unit => [ob_J bk 0 [.int funded, .int rewarded, .ref bal, .ref stk, .ref due], ar_I due cI 1100 fdue]) := by
  refine en_I (by decide) (Nat.le_of_ble_eq_true rfl) ?_
  intro p e s m below meth c A ls H locs hx hb hr hml hts hown hlk hN hK hA hP hD hS hl
  have hown : s.vm.findClass RX0 = some m.cls := hown
  have hl : lv_has ls 4 [(0, .ref bk), (1, .int (nI ia))] := hl
  refine lv_iconst (v := 0) hx hb dX0_dueOfAccount_0 (by decide) ?_
  refine lv_istore_n (lv' := [(2, .int 0), (0, .ref bk), (1, .int (nI ia))]) hx hb dX0_dueOfAccount_1 rfl hl (by decide) rfl (fun ls hl => ?_)
  refine lv_iconst (v := 1) hx hb dX0_dueOfAccount_2 (by decide) ?_
  refine lv_istore_n (lv' := [(3, .int 1), (2, .int 0), (0, .ref bk), (1, .int (nI ia))]) hx hb dX0_dueOfAccount_3 rfl hl (by decide) rfl (fun ls hl => ?_)
  have hl := lv_sub (l' := [(0, .ref bk), (1, .int (nI ia)), (2, .int 0), (3, .int 1)]) hl [2, 3, 1, 0] rfl
  have q_1 : 0 = sI_ (fun k => fdue (ia * 110 + (k + 1))) 0 := rfl
  have hl := cs_L (fun z_z => [(0, .ref bk), (1, .int (nI ia)), (2, .int z_z), (3, .int 1)]) q_1 hl
  have q_2 : 1 = nI (0 + 1) := rfl
  have hl := cs_L (fun z_z => [(0, .ref bk), (1, .int (nI ia)), (2, .int (sI_ (fun k => fdue (ia * 110 + (k + 1))) 0)), (3, .int z_z)]) q_2 hl
  have hl : lv_has ls 4 [(0, .ref bk), (1, .int (nI ia)), (2, .int (sI_ (fun k => fdue (ia * 110 + (k + 1))) 0)), (3, .int (nI (0 + 1)))] := hl
  refine lp_g (σ := Nat) (fun i => 109 - i) (fun i => [ob_J bk 0 [.int funded, .int rewarded, .ref bal, .ref stk, .ref due], ar_I due cI 1100 fdue]) (fun i => [(0, .ref bk), (1, .int (nI ia)), (2, .int (sI_ (fun k => fdue (ia * 110 + (k + 1))) i)), (3, .int (nI (i + 1)))]) (fun i => (i ≤ 109)) ?_ 0 (show (0 ≤ 109) from by omega) hP hD hS hl
  intro i H locs ls hF hP hD hS hl ih_4
  have hF : (i ≤ 109) := hF
  have hi := hF
  have hP : va_P D cl_A [ob_J bk 0 [.int funded, .int rewarded, .ref bal, .ref stk, .ref due], ar_I due cI 1100 fdue] H := hP
  have hD : va_D A [ob_J bk 0 [.int funded, .int rewarded, .ref bal, .ref stk, .ref due], ar_I due cI 1100 fdue] := hD
  have hl : lv_has ls 4 [(0, .ref bk), (1, .int (nI ia)), (2, .int (sI_ (fun k => fdue (ia * 110 + (k + 1))) i)), (3, .int (nI (i + 1)))] := hl
  refine lv_iload_n hx hb dX0_dueOfAccount_4 rfl (lv_at hl 3 rfl) ?_
  refine lv_bipush (v := 109) hx hb dX0_dueOfAccount_5 (by decide) ?_
  refine lv_icmp_gt (tgt := 29) hx hb dX0_dueOfAccount_7 (by decide) (fun c_7 => ?_) (fun c_7 => ?_)
  · have c_7 := qq_gt (a := i + 1) (b := 109) c_7 (by omega) (by omega)
    refine lv_iload_n hx hb dX0_dueOfAccount_29 rfl (lv_at hl 2 rfl) ?_
    exact re_I (w1 := fun u_u : Unit => [ob_J bk 0 [.int funded, .int rewarded, .ref bal, .ref stk, .ref due], ar_I due cI 1100 fdue]) (v := sI_ (fun k => fdue (ia * 110 + (k + 1))) i) hx hb hr hlk hK hS rfl () hP hD (show sI_ (fun k => fdue (ia * 110 + (k + 1))) i = sI_ (fun k => fdue (ia * 110 + (k + 1))) 109 from by rw [show i = 109 by omega]) dX0_dueOfAccount_30
  · have c_7 := qq_ngt (a := i + 1) (b := 109) c_7 (by omega) (by omega)
    refine lv_iload_n hx hb dX0_dueOfAccount_10 rfl (lv_at hl 2 rfl) ?_
    refine lv_aload_n hx hb dX0_dueOfAccount_11 rfl (lv_at hl 0 rfl) ?_
    refine va_get (ci := 0) (v := .ref due) (C := RX0) (T := TX0) (N := 5) hx hb hts bi_0 hown hK hP 0 rfl rfl 4 (by decide) (hts _ bw_31) (fun _ h9 => h9) rfl dX0_dueOfAccount_12 ?_
    refine lv_iload_n hx hb dX0_dueOfAccount_15 rfl (lv_at hl 1 rfl) ?_
    refine lv_iload_n hx hb dX0_dueOfAccount_16 rfl (lv_at hl 3 rfl) ?_
    refine ca_NI (rest := [.ref due, .int (sI_ (fun k => fdue (ia * 110 + (k + 1))) i)]) (k_X5_duePlace l D cI cJ cZ ia (i + 1) ) hx hb hml hown hts hN hK hA hP hD hS hN.1 bw_202 bw_1 bw_203 2 rfl (by decide +kernel) ⟨by decide, by decide⟩ hl.1 rfl (Nat.le_of_ble_eq_true rfl) dX0_dueOfAccount_17 ⟨Nat.zero_le _, Nat.zero_le _⟩ (fun r_17 u_u H locs w_17 hP hD hS => ?_)
    have w_17 : r_17 = nI (ia * 110 + (i + 1)) := w_17
    subst w_17
    refine ar_ld hx hb hK hP 1 (k := ia * 110 + (i + 1)) rfl rfl (by omega) (by decide) dX0_dueOfAccount_20 ?_
    refine lv_iadd hx hb dX0_dueOfAccount_21 ?_
    refine lv_istore_n (lv' := [(2, .int ((sI_ (fun k => fdue (ia * 110 + (k + 1))) i) + (fdue (ia * 110 + (i + 1))))), (0, .ref bk), (1, .int (nI ia)), (3, .int (nI (i + 1)))]) hx hb dX0_dueOfAccount_22 rfl hl (by decide) rfl (fun ls hl => ?_)
    refine lv_iinc (v := nI ((i + 1) + 1)) (lv' := [(3, .int (nI ((i + 1) + 1))), (2, .int ((sI_ (fun k => fdue (ia * 110 + (k + 1))) i) + (fdue (ia * 110 + (i + 1))))), (0, .ref bk), (1, .int (nI ia))]) hx hb dX0_dueOfAccount_23 hl (k := 3) rfl (nI_1 _) (by decide) rfl (fun ls hl => ?_)
    refine lv_goto (tgt := 4) hx hb dX0_dueOfAccount_26 (by decide) ?_
    have hl := lv_sub (l' := [(0, .ref bk), (1, .int (nI ia)), (2, .int ((sI_ (fun k => fdue (ia * 110 + (k + 1))) i) + (fdue (ia * 110 + (i + 1))))), (3, .int (nI ((i + 1) + 1)))]) hl [2, 3, 1, 0] rfl
    have q_3 : (sI_ (fun k => fdue (ia * 110 + (k + 1))) i) + (fdue (ia * 110 + (i + 1))) = sI_ (fun k => fdue (ia * 110 + (k + 1))) (i + 1) := rfl
    have hl := cs_L (fun z_z => [(0, .ref bk), (1, .int (nI ia)), (2, .int z_z), (3, .int (nI ((i + 1) + 1)))]) q_3 hl
    have hl : lv_has ls 4 [(0, .ref bk), (1, .int (nI ia)), (2, .int (sI_ (fun k => fdue (ia * 110 + (k + 1))) (i + 1))), (3, .int (nI ((i + 1) + 1)))] := hl
    exact ih_4 (i + 1) (show 109 - (i + 1) < 109 - i from by omega) (show ((i + 1) ≤ 109) from by omega) H locs ls hP hD hS hl

set_option maxHeartbeats 4000000 in
set_option maxRecDepth 100000 in
theorem k_X0_allBalances (l : Launch) (D : va_G) (cI cJ cZ : ClassId) (bk : Nat) (bal : Nat) (funded : Int32) (rewarded : Int32) (stk : Nat) (due : Nat) (fbal : Nat → Int32)  : mt_I l yX0_allBalances cX0_allBalances 3 .int 0 0 D cI cJ cZ [ob_J bk 0 [.int funded, .int rewarded, .ref bal, .ref stk, .ref due], ar_I bal cI 10 fbal] [.ref bk] (fun r (u_u : Unit) => r = sI_ fbal 10) (fun u_u : Unit => [ob_J bk 0 [.int funded, .int rewarded, .ref bal, .ref stk, .ref due], ar_I bal cI 10 fbal]) := by
  refine en_I (by decide) (Nat.le_of_ble_eq_true rfl) ?_
  intro p e s m below meth c A ls H locs hx hb hr hml hts hown hlk hN hK hA hP hD hS hl
  have hown : s.vm.findClass RX0 = some m.cls := hown
  have hl : lv_has ls 3 [(0, .ref bk)] := hl
  refine lv_iconst (v := 0) hx hb dX0_allBalances_0 (by decide) ?_
  refine lv_istore_n (lv' := [(1, .int 0), (0, .ref bk)]) hx hb dX0_allBalances_1 rfl hl (by decide) rfl (fun ls hl => ?_)
  refine lv_iconst (v := 0) hx hb dX0_allBalances_2 (by decide) ?_
  refine lv_istore_n (lv' := [(2, .int 0), (1, .int 0), (0, .ref bk)]) hx hb dX0_allBalances_3 rfl hl (by decide) rfl (fun ls hl => ?_)
  have hl := lv_sub (l' := [(0, .ref bk), (1, .int 0), (2, .int 0)]) hl [2, 1, 0] rfl
  have q_1 : 0 = sI_ fbal 0 := rfl
  have hl := cs_L (fun z_z => [(0, .ref bk), (1, .int z_z), (2, .int 0)]) q_1 hl
  have q_2 : 0 = nI 0 := rfl
  have hl := cs_L (fun z_z => [(0, .ref bk), (1, .int (sI_ fbal 0)), (2, .int z_z)]) q_2 hl
  have hl : lv_has ls 3 [(0, .ref bk), (1, .int (sI_ fbal 0)), (2, .int (nI 0))] := hl
  refine lp_g (σ := Nat) (fun i => 10 - i) (fun i => [ob_J bk 0 [.int funded, .int rewarded, .ref bal, .ref stk, .ref due], ar_I bal cI 10 fbal]) (fun i => [(0, .ref bk), (1, .int (sI_ fbal i)), (2, .int (nI i))]) (fun i => (i ≤ 10)) ?_ 0 (show (0 ≤ 10) from by omega) hP hD hS hl
  intro i H locs ls hF hP hD hS hl ih_4
  have hF : (i ≤ 10) := hF
  have hi := hF
  have hP : va_P D cl_A [ob_J bk 0 [.int funded, .int rewarded, .ref bal, .ref stk, .ref due], ar_I bal cI 10 fbal] H := hP
  have hD : va_D A [ob_J bk 0 [.int funded, .int rewarded, .ref bal, .ref stk, .ref due], ar_I bal cI 10 fbal] := hD
  have hl : lv_has ls 3 [(0, .ref bk), (1, .int (sI_ fbal i)), (2, .int (nI i))] := hl
  refine lv_iload_n hx hb dX0_allBalances_4 rfl (lv_at hl 2 rfl) ?_
  refine lv_bipush (v := 10) hx hb dX0_allBalances_5 (by decide) ?_
  refine lv_icmp_ge (tgt := 25) hx hb dX0_allBalances_7 (by decide) (fun c_7 => ?_) (fun c_7 => ?_)
  · have c_7 := qq_ge (a := i) (b := 10) c_7 (by omega) (by omega)
    refine lv_iload_n hx hb dX0_allBalances_25 rfl (lv_at hl 1 rfl) ?_
    exact re_I (w1 := fun u_u : Unit => [ob_J bk 0 [.int funded, .int rewarded, .ref bal, .ref stk, .ref due], ar_I bal cI 10 fbal]) (v := sI_ fbal i) hx hb hr hlk hK hS rfl () hP hD (show sI_ fbal i = sI_ fbal 10 from by rw [show i = 10 by omega]) dX0_allBalances_26
  · have c_7 := qq_nge (a := i) (b := 10) c_7 (by omega) (by omega)
    refine lv_iload_n hx hb dX0_allBalances_10 rfl (lv_at hl 1 rfl) ?_
    refine lv_aload_n hx hb dX0_allBalances_11 rfl (lv_at hl 0 rfl) ?_
    refine va_get (ci := 0) (v := .ref bal) (C := RX0) (T := TX0) (N := 5) hx hb hts bi_0 hown hK hP 0 rfl rfl 2 (by decide) (hts _ bw_27) (fun _ h9 => h9) rfl dX0_allBalances_12 ?_
    refine lv_iload_n hx hb dX0_allBalances_15 rfl (lv_at hl 2 rfl) ?_
    refine ar_ld hx hb hK hP 1 (k := i) rfl rfl (by omega) (by decide) dX0_allBalances_16 ?_
    refine lv_iadd hx hb dX0_allBalances_17 ?_
    refine lv_istore_n (lv' := [(1, .int ((sI_ fbal i) + (fbal i))), (0, .ref bk), (2, .int (nI i))]) hx hb dX0_allBalances_18 rfl hl (by decide) rfl (fun ls hl => ?_)
    refine lv_iinc (v := nI (i + 1)) (lv' := [(2, .int (nI (i + 1))), (1, .int ((sI_ fbal i) + (fbal i))), (0, .ref bk)]) hx hb dX0_allBalances_19 hl (k := 2) rfl (nI_1 _) (by decide) rfl (fun ls hl => ?_)
    refine lv_goto (tgt := 4) hx hb dX0_allBalances_22 (by decide) ?_
    have hl := lv_sub (l' := [(0, .ref bk), (1, .int ((sI_ fbal i) + (fbal i))), (2, .int (nI (i + 1)))]) hl [2, 1, 0] rfl
    have q_3 : (sI_ fbal i) + (fbal i) = sI_ fbal (i + 1) := rfl
    have hl := cs_L (fun z_z => [(0, .ref bk), (1, .int z_z), (2, .int (nI (i + 1)))]) q_3 hl
    have hl : lv_has ls 3 [(0, .ref bk), (1, .int (sI_ fbal (i + 1))), (2, .int (nI (i + 1)))] := hl
    exact ih_4 (i + 1) (show 10 - (i + 1) < 10 - i from by omega) (show ((i + 1) ≤ 10) from by omega) H locs ls hP hD hS hl

set_option maxHeartbeats 4000000 in
set_option maxRecDepth 100000 in
theorem k_X0_allStakes (l : Launch) (D : va_G) (cI cJ cZ : ClassId) (bk : Nat) (stk : Nat) (funded : Int32) (rewarded : Int32) (bal : Nat) (due : Nat) (fstk : Nat → Int32)  : mt_I l yX0_allStakes cX0_allStakes 3 .int 2 44 D cI cJ cZ [ob_J bk 0 [.int funded, .int rewarded, .ref bal, .ref stk, .ref due], ar_I stk cI 80 fstk] [.ref bk] (fun r (u_u : Unit) => r = sI_ (fun jn => sI_ (fun a => fstk (jn * 10 + a)) 10) 8) (fun u_u : Unit => [ob_J bk 0 [.int funded, .int rewarded, .ref bal, .ref stk, .ref due], ar_I stk cI 80 fstk]) := by
  refine en_I (by decide) (Nat.le_of_ble_eq_true rfl) ?_
  intro p e s m below meth c A ls H locs hx hb hr hml hts hown hlk hN hK hA hP hD hS hl
  have hown : s.vm.findClass RX0 = some m.cls := hown
  have hl : lv_has ls 3 [(0, .ref bk)] := hl
  refine lv_iconst (v := 0) hx hb dX0_allStakes_0 (by decide) ?_
  refine lv_istore_n (lv' := [(1, .int 0), (0, .ref bk)]) hx hb dX0_allStakes_1 rfl hl (by decide) rfl (fun ls hl => ?_)
  refine lv_iconst (v := 0) hx hb dX0_allStakes_2 (by decide) ?_
  refine lv_istore_n (lv' := [(2, .int 0), (1, .int 0), (0, .ref bk)]) hx hb dX0_allStakes_3 rfl hl (by decide) rfl (fun ls hl => ?_)
  have hl := lv_sub (l' := [(0, .ref bk), (1, .int 0), (2, .int 0)]) hl [2, 1, 0] rfl
  have q_1 : 0 = sI_ (fun jn => sI_ (fun a => fstk (jn * 10 + a)) 10) 0 := rfl
  have hl := cs_L (fun z_z => [(0, .ref bk), (1, .int z_z), (2, .int 0)]) q_1 hl
  have q_2 : 0 = nI 0 := rfl
  have hl := cs_L (fun z_z => [(0, .ref bk), (1, .int (sI_ (fun jn => sI_ (fun a => fstk (jn * 10 + a)) 10) 0)), (2, .int z_z)]) q_2 hl
  have hl : lv_has ls 3 [(0, .ref bk), (1, .int (sI_ (fun jn => sI_ (fun a => fstk (jn * 10 + a)) 10) 0)), (2, .int (nI 0))] := hl
  refine lp_g (σ := Nat) (fun i => 8 - i) (fun i => [ob_J bk 0 [.int funded, .int rewarded, .ref bal, .ref stk, .ref due], ar_I stk cI 80 fstk]) (fun i => [(0, .ref bk), (1, .int (sI_ (fun jn => sI_ (fun a => fstk (jn * 10 + a)) 10) i)), (2, .int (nI i))]) (fun i => (i ≤ 8)) ?_ 0 (show (0 ≤ 8) from by omega) hP hD hS hl
  intro i H locs ls hF hP hD hS hl ih_4
  have hF : (i ≤ 8) := hF
  have hi := hF
  have hP : va_P D cl_A [ob_J bk 0 [.int funded, .int rewarded, .ref bal, .ref stk, .ref due], ar_I stk cI 80 fstk] H := hP
  have hD : va_D A [ob_J bk 0 [.int funded, .int rewarded, .ref bal, .ref stk, .ref due], ar_I stk cI 80 fstk] := hD
  have hl : lv_has ls 3 [(0, .ref bk), (1, .int (sI_ (fun jn => sI_ (fun a => fstk (jn * 10 + a)) 10) i)), (2, .int (nI i))] := hl
  refine lv_iload_n hx hb dX0_allStakes_4 rfl (lv_at hl 2 rfl) ?_
  refine lv_bipush (v := 8) hx hb dX0_allStakes_5 (by decide) ?_
  refine lv_icmp_ge (tgt := 24) hx hb dX0_allStakes_7 (by decide) (fun c_7 => ?_) (fun c_7 => ?_)
  · have c_7 := qq_ge (a := i) (b := 8) c_7 (by omega) (by omega)
    refine lv_iload_n hx hb dX0_allStakes_24 rfl (lv_at hl 1 rfl) ?_
    exact re_I (w1 := fun u_u : Unit => [ob_J bk 0 [.int funded, .int rewarded, .ref bal, .ref stk, .ref due], ar_I stk cI 80 fstk]) (v := sI_ (fun jn => sI_ (fun a => fstk (jn * 10 + a)) 10) i) hx hb hr hlk hK hS rfl () hP hD (show sI_ (fun jn => sI_ (fun a => fstk (jn * 10 + a)) 10) i = sI_ (fun jn => sI_ (fun a => fstk (jn * 10 + a)) 10) 8 from by rw [show i = 8 by omega]) dX0_allStakes_25
  · have c_7 := qq_nge (a := i) (b := 8) c_7 (by omega) (by omega)
    refine lv_iload_n hx hb dX0_allStakes_10 rfl (lv_at hl 1 rfl) ?_
    refine lv_aload_n hx hb dX0_allStakes_11 rfl (lv_at hl 0 rfl) ?_
    refine lv_iload_n hx hb dX0_allStakes_12 rfl (lv_at hl 2 rfl) ?_
    refine ca_VI (rest := [.int (sI_ (fun jn => sI_ (fun a => fstk (jn * 10 + a)) 10) i)]) (wr := []) (w2 := fun u_u => [ob_J bk 0 [.int funded, .int rewarded, .ref bal, .ref stk, .ref due], ar_I stk cI 80 fstk]) (k_X0_stakesOfNode l D cI cJ cZ bk stk funded rewarded bal due fstk i (by first | assumption | omega)) hx hb hml hown hts hN hK hA hP hD hS 0 0 rfl rfl bw_392 bw_269 bw_270 bw_2 bw_271 1 rfl (by decide +kernel) ⟨by decide, by decide⟩ [0, 1] [] [0, 1] rfl rfl (by decide) (fun _ => rfl) hl.1 rfl (Nat.le_of_ble_eq_true rfl) dX0_allStakes_13 ⟨Nat.zero_le _, Nat.zero_le _⟩ (fun r_13 u_u H locs w_13 hP hD hS => ?_)
    have hP : va_P D cl_A [ob_J bk 0 [.int funded, .int rewarded, .ref bal, .ref stk, .ref due], ar_I stk cI 80 fstk] H := hP
    have hD : va_D A [ob_J bk 0 [.int funded, .int rewarded, .ref bal, .ref stk, .ref due], ar_I stk cI 80 fstk] := hD
    have w_13 : r_13 = sI_ (fun a => fstk (i * 10 + a)) 10 := w_13
    subst w_13
    refine lv_iadd hx hb dX0_allStakes_16 ?_
    refine lv_istore_n (lv' := [(1, .int ((sI_ (fun jn => sI_ (fun a => fstk (jn * 10 + a)) 10) i) + (sI_ (fun a => fstk (i * 10 + a)) 10))), (0, .ref bk), (2, .int (nI i))]) hx hb dX0_allStakes_17 rfl hl (by decide) rfl (fun ls hl => ?_)
    refine lv_iinc (v := nI (i + 1)) (lv' := [(2, .int (nI (i + 1))), (1, .int ((sI_ (fun jn => sI_ (fun a => fstk (jn * 10 + a)) 10) i) + (sI_ (fun a => fstk (i * 10 + a)) 10))), (0, .ref bk)]) hx hb dX0_allStakes_18 hl (k := 2) rfl (nI_1 _) (by decide) rfl (fun ls hl => ?_)
    refine lv_goto (tgt := 4) hx hb dX0_allStakes_21 (by decide) ?_
    have hl := lv_sub (l' := [(0, .ref bk), (1, .int ((sI_ (fun jn => sI_ (fun a => fstk (jn * 10 + a)) 10) i) + (sI_ (fun a => fstk (i * 10 + a)) 10))), (2, .int (nI (i + 1)))]) hl [2, 1, 0] rfl
    have q_3 : (sI_ (fun jn => sI_ (fun a => fstk (jn * 10 + a)) 10) i) + (sI_ (fun a => fstk (i * 10 + a)) 10) = sI_ (fun jn => sI_ (fun a => fstk (jn * 10 + a)) 10) (i + 1) := rfl
    have hl := cs_L (fun z_z => [(0, .ref bk), (1, .int z_z), (2, .int (nI (i + 1)))]) q_3 hl
    have hl : lv_has ls 3 [(0, .ref bk), (1, .int (sI_ (fun jn => sI_ (fun a => fstk (jn * 10 + a)) 10) (i + 1))), (2, .int (nI (i + 1)))] := hl
    exact ih_4 (i + 1) (show 8 - (i + 1) < 8 - i from by omega) (show ((i + 1) ≤ 8) from by omega) H locs ls hP hD hS hl

set_option maxHeartbeats 4000000 in
set_option maxRecDepth 100000 in
theorem k_X0_allDue (l : Launch) (D : va_G) (cI cJ cZ : ClassId) (bk : Nat) (due : Nat) (funded : Int32) (rewarded : Int32) (bal : Nat) (stk : Nat) (fdue : Nat → Int32)  : mt_I l yX0_allDue cX0_allDue 3 .int 2 44 D cI cJ cZ [ob_J bk 0 [.int funded, .int rewarded, .ref bal, .ref stk, .ref due], ar_I due cI 1100 fdue] [.ref bk] (fun r (u_u : Unit) => r = sI_ (fun ia => sI_ (fun k => fdue (ia * 110 + (k + 1))) 109) 10) (fun u_u : Unit => [ob_J bk 0 [.int funded, .int rewarded, .ref bal, .ref stk, .ref due], ar_I due cI 1100 fdue]) := by
  refine en_I (by decide) (Nat.le_of_ble_eq_true rfl) ?_
  intro p e s m below meth c A ls H locs hx hb hr hml hts hown hlk hN hK hA hP hD hS hl
  have hown : s.vm.findClass RX0 = some m.cls := hown
  have hl : lv_has ls 3 [(0, .ref bk)] := hl
  refine lv_iconst (v := 0) hx hb dX0_allDue_0 (by decide) ?_
  refine lv_istore_n (lv' := [(1, .int 0), (0, .ref bk)]) hx hb dX0_allDue_1 rfl hl (by decide) rfl (fun ls hl => ?_)
  refine lv_iconst (v := 0) hx hb dX0_allDue_2 (by decide) ?_
  refine lv_istore_n (lv' := [(2, .int 0), (1, .int 0), (0, .ref bk)]) hx hb dX0_allDue_3 rfl hl (by decide) rfl (fun ls hl => ?_)
  have hl := lv_sub (l' := [(0, .ref bk), (1, .int 0), (2, .int 0)]) hl [2, 1, 0] rfl
  have q_1 : 0 = sI_ (fun ia => sI_ (fun k => fdue (ia * 110 + (k + 1))) 109) 0 := rfl
  have hl := cs_L (fun z_z => [(0, .ref bk), (1, .int z_z), (2, .int 0)]) q_1 hl
  have q_2 : 0 = nI 0 := rfl
  have hl := cs_L (fun z_z => [(0, .ref bk), (1, .int (sI_ (fun ia => sI_ (fun k => fdue (ia * 110 + (k + 1))) 109) 0)), (2, .int z_z)]) q_2 hl
  have hl : lv_has ls 3 [(0, .ref bk), (1, .int (sI_ (fun ia => sI_ (fun k => fdue (ia * 110 + (k + 1))) 109) 0)), (2, .int (nI 0))] := hl
  refine lp_g (σ := Nat) (fun i => 10 - i) (fun i => [ob_J bk 0 [.int funded, .int rewarded, .ref bal, .ref stk, .ref due], ar_I due cI 1100 fdue]) (fun i => [(0, .ref bk), (1, .int (sI_ (fun ia => sI_ (fun k => fdue (ia * 110 + (k + 1))) 109) i)), (2, .int (nI i))]) (fun i => (i ≤ 10)) ?_ 0 (show (0 ≤ 10) from by omega) hP hD hS hl
  intro i H locs ls hF hP hD hS hl ih_4
  have hF : (i ≤ 10) := hF
  have hi := hF
  have hP : va_P D cl_A [ob_J bk 0 [.int funded, .int rewarded, .ref bal, .ref stk, .ref due], ar_I due cI 1100 fdue] H := hP
  have hD : va_D A [ob_J bk 0 [.int funded, .int rewarded, .ref bal, .ref stk, .ref due], ar_I due cI 1100 fdue] := hD
  have hl : lv_has ls 3 [(0, .ref bk), (1, .int (sI_ (fun ia => sI_ (fun k => fdue (ia * 110 + (k + 1))) 109) i)), (2, .int (nI i))] := hl
  refine lv_iload_n hx hb dX0_allDue_4 rfl (lv_at hl 2 rfl) ?_
  refine lv_bipush (v := 10) hx hb dX0_allDue_5 (by decide) ?_
  refine lv_icmp_ge (tgt := 24) hx hb dX0_allDue_7 (by decide) (fun c_7 => ?_) (fun c_7 => ?_)
  · have c_7 := qq_ge (a := i) (b := 10) c_7 (by omega) (by omega)
    refine lv_iload_n hx hb dX0_allDue_24 rfl (lv_at hl 1 rfl) ?_
    exact re_I (w1 := fun u_u : Unit => [ob_J bk 0 [.int funded, .int rewarded, .ref bal, .ref stk, .ref due], ar_I due cI 1100 fdue]) (v := sI_ (fun ia => sI_ (fun k => fdue (ia * 110 + (k + 1))) 109) i) hx hb hr hlk hK hS rfl () hP hD (show sI_ (fun ia => sI_ (fun k => fdue (ia * 110 + (k + 1))) 109) i = sI_ (fun ia => sI_ (fun k => fdue (ia * 110 + (k + 1))) 109) 10 from by rw [show i = 10 by omega]) dX0_allDue_25
  · have c_7 := qq_nge (a := i) (b := 10) c_7 (by omega) (by omega)
    refine lv_iload_n hx hb dX0_allDue_10 rfl (lv_at hl 1 rfl) ?_
    refine lv_aload_n hx hb dX0_allDue_11 rfl (lv_at hl 0 rfl) ?_
    refine lv_iload_n hx hb dX0_allDue_12 rfl (lv_at hl 2 rfl) ?_
    refine ca_VI (rest := [.int (sI_ (fun ia => sI_ (fun k => fdue (ia * 110 + (k + 1))) 109) i)]) (wr := []) (w2 := fun u_u => [ob_J bk 0 [.int funded, .int rewarded, .ref bal, .ref stk, .ref due], ar_I due cI 1100 fdue]) (k_X0_dueOfAccount l D cI cJ cZ bk due funded rewarded bal stk fdue i (by first | assumption | omega)) hx hb hml hown hts hN hK hA hP hD hS 0 0 rfl rfl bw_397 bw_298 bw_299 bw_2 bw_300 1 rfl (by decide +kernel) ⟨by decide, by decide⟩ [0, 1] [] [0, 1] rfl rfl (by decide) (fun _ => rfl) hl.1 rfl (Nat.le_of_ble_eq_true rfl) dX0_allDue_13 ⟨Nat.zero_le _, Nat.zero_le _⟩ (fun r_13 u_u H locs w_13 hP hD hS => ?_)
    have hP : va_P D cl_A [ob_J bk 0 [.int funded, .int rewarded, .ref bal, .ref stk, .ref due], ar_I due cI 1100 fdue] H := hP
    have hD : va_D A [ob_J bk 0 [.int funded, .int rewarded, .ref bal, .ref stk, .ref due], ar_I due cI 1100 fdue] := hD
    have w_13 : r_13 = sI_ (fun k => fdue (i * 110 + (k + 1))) 109 := w_13
    subst w_13
    refine lv_iadd hx hb dX0_allDue_16 ?_
    refine lv_istore_n (lv' := [(1, .int ((sI_ (fun ia => sI_ (fun k => fdue (ia * 110 + (k + 1))) 109) i) + (sI_ (fun k => fdue (i * 110 + (k + 1))) 109))), (0, .ref bk), (2, .int (nI i))]) hx hb dX0_allDue_17 rfl hl (by decide) rfl (fun ls hl => ?_)
    refine lv_iinc (v := nI (i + 1)) (lv' := [(2, .int (nI (i + 1))), (1, .int ((sI_ (fun ia => sI_ (fun k => fdue (ia * 110 + (k + 1))) 109) i) + (sI_ (fun k => fdue (i * 110 + (k + 1))) 109))), (0, .ref bk)]) hx hb dX0_allDue_18 hl (k := 2) rfl (nI_1 _) (by decide) rfl (fun ls hl => ?_)
    refine lv_goto (tgt := 4) hx hb dX0_allDue_21 (by decide) ?_
    have hl := lv_sub (l' := [(0, .ref bk), (1, .int ((sI_ (fun ia => sI_ (fun k => fdue (ia * 110 + (k + 1))) 109) i) + (sI_ (fun k => fdue (i * 110 + (k + 1))) 109))), (2, .int (nI (i + 1)))]) hl [2, 1, 0] rfl
    have q_3 : (sI_ (fun ia => sI_ (fun k => fdue (ia * 110 + (k + 1))) 109) i) + (sI_ (fun k => fdue (i * 110 + (k + 1))) 109) = sI_ (fun ia => sI_ (fun k => fdue (ia * 110 + (k + 1))) 109) (i + 1) := rfl
    have hl := cs_L (fun z_z => [(0, .ref bk), (1, .int z_z), (2, .int (nI (i + 1)))]) q_3 hl
    have hl : lv_has ls 3 [(0, .ref bk), (1, .int (sI_ (fun ia => sI_ (fun k => fdue (ia * 110 + (k + 1))) 109) (i + 1))), (2, .int (nI (i + 1)))] := hl
    exact ih_4 (i + 1) (show 10 - (i + 1) < 10 - i from by omega) (show ((i + 1) ≤ 10) from by omega) H locs ls hP hD hS hl

set_option maxHeartbeats 4000000 in
set_option maxRecDepth 100000 in
theorem k_X1_has (l : Launch) (D : va_G) (cI cJ cZ : ClassId) (nd : Nat) (sz : Nat) (kp : Nat) (ct : Nat) (sa : Nat) (la : Nat) (fz : Nat) (n : Int32)  : mt_I l yX1_has cX1_has 2 .boolean 0 0 D cI cJ cZ [ob_J nd 1 [.int (nI sz), .ref kp, .ref ct, .ref sa, .ref la, .ref fz]] [.ref nd, .int n] (fun r (_ : Unit) => r = if 0 ≤ n ∧ n < nI sz then 1 else 0) (fun u_u : Unit => [ob_J nd 1 [.int (nI sz), .ref kp, .ref ct, .ref sa, .ref la, .ref fz]]) := by
  refine en_I (by decide) (Nat.le_of_ble_eq_true rfl) ?_
  intro p e s m below meth c A ls H locs hx hb hr hml hts hown hlk hN hK hA hP hD hS hl
  have hown : s.vm.findClass RX1 = some m.cls := hown
  have hl : lv_has ls 2 [(0, .ref nd), (1, .int n)] := hl
  refine lv_iload_n hx hb dX1_has_0 rfl (lv_at hl 1 rfl) ?_
  refine lv_if_lt (tgt := 16) hx hb dX1_has_1 (by decide) (fun c_1 => ?_) (fun c_1 => ?_)
  · refine lv_iconst (v := 0) hx hb dX1_has_16 (by decide) ?_
    exact re_I (w1 := fun u_u : Unit => [ob_J nd 1 [.int (nI sz), .ref kp, .ref ct, .ref sa, .ref la, .ref fz]]) (v := 0) hx hb hr hlk hK hS rfl () hP hD (show _ = if 0 ≤ n ∧ n < nI sz then _ else _ from (if_neg (fun z => absurd z.1 (Int32.not_le.mpr c_1))).symm) dX1_has_17
  · refine lv_iload_n hx hb dX1_has_4 rfl (lv_at hl 1 rfl) ?_
    refine lv_aload_n hx hb dX1_has_5 rfl (lv_at hl 0 rfl) ?_
    refine va_get (ci := 1) (v := .int (nI sz)) (C := RX1) (T := TX1) (N := 6) hx hb hts bi_1 hown hK hP 0 rfl rfl 0 (by decide) (hts _ bw_51) (fun _ h9 => h9) rfl dX1_has_6 ?_
    refine lv_icmp_ge (tgt := 16) hx hb dX1_has_9 (by decide) (fun c_9 => ?_) (fun c_9 => ?_)
    · refine lv_iconst (v := 0) hx hb dX1_has_16 (by decide) ?_
      exact re_I (w1 := fun u_u : Unit => [ob_J nd 1 [.int (nI sz), .ref kp, .ref ct, .ref sa, .ref la, .ref fz]]) (v := 0) hx hb hr hlk hK hS rfl () hP hD (show _ = if 0 ≤ n ∧ n < nI sz then _ else _ from (if_neg (fun z => absurd z.2 (Int32.not_lt.mpr c_9))).symm) dX1_has_17
    · refine lv_iconst (v := 1) hx hb dX1_has_12 (by decide) ?_
      refine lv_goto (tgt := 17) hx hb dX1_has_13 (by decide) ?_
      exact re_I (w1 := fun u_u : Unit => [ob_J nd 1 [.int (nI sz), .ref kp, .ref ct, .ref sa, .ref la, .ref fz]]) (v := 1) hx hb hr hlk hK hS rfl () hP hD (show _ = if 0 ≤ n ∧ n < nI sz then _ else _ from (if_pos ⟨Int32.not_lt.mp c_1, Int32.not_le.mp c_9⟩).symm) dX1_has_17

set_option maxHeartbeats 4000000 in
set_option maxRecDepth 100000 in
theorem k_X1_haveAll (l : Launch) (D : va_G) (cI cJ cZ : ClassId) (nd : Nat) (sz : Nat) (kp : Nat) (ct : Nat) (sa : Nat) (la : Nat) (fz : Nat) (bits : Int32)  : mt_I l yX1_haveAll cX1_haveAll 2 .boolean 0 0 D cI cJ cZ [ob_J nd 1 [.int (nI sz), .ref kp, .ref ct, .ref sa, .ref la, .ref fz]] [.ref nd, .int bits] (fun r (_ : Unit) => r = if (bits.toUInt32 >>> ((nI sz).toUInt32 &&& Int32.toUInt32 31)).toInt32 = 0 then 1 else 0) (fun u_u : Unit => [ob_J nd 1 [.int (nI sz), .ref kp, .ref ct, .ref sa, .ref la, .ref fz]]) := by
  refine en_I (by decide) (Nat.le_of_ble_eq_true rfl) ?_
  intro p e s m below meth c A ls H locs hx hb hr hml hts hown hlk hN hK hA hP hD hS hl
  have hown : s.vm.findClass RX1 = some m.cls := hown
  have hl : lv_has ls 2 [(0, .ref nd), (1, .int bits)] := hl
  refine lv_iload_n hx hb dX1_haveAll_0 rfl (lv_at hl 1 rfl) ?_
  refine lv_aload_n hx hb dX1_haveAll_1 rfl (lv_at hl 0 rfl) ?_
  refine va_get (ci := 1) (v := .int (nI sz)) (C := RX1) (T := TX1) (N := 6) hx hb hts bi_1 hown hK hP 0 rfl rfl 0 (by decide) (hts _ bw_51) (fun _ h9 => h9) rfl dX1_haveAll_2 ?_
  refine lv_iushr hx hb dX1_haveAll_5 rfl ?_
  refine lv_if_ne (tgt := 13) hx hb dX1_haveAll_6 (by decide) (fun c_6 => ?_) (fun c_6 => ?_)
  · refine lv_iconst (v := 0) hx hb dX1_haveAll_13 (by decide) ?_
    exact re_I (w1 := fun u_u : Unit => [ob_J nd 1 [.int (nI sz), .ref kp, .ref ct, .ref sa, .ref la, .ref fz]]) (v := 0) hx hb hr hlk hK hS rfl () hP hD (show _ = if (bits.toUInt32 >>> ((nI sz).toUInt32 &&& Int32.toUInt32 31)).toInt32 = 0 then _ else _ from by simp [c_6]) dX1_haveAll_14
  · refine lv_iconst (v := 1) hx hb dX1_haveAll_9 (by decide) ?_
    refine lv_goto (tgt := 14) hx hb dX1_haveAll_10 (by decide) ?_
    exact re_I (w1 := fun u_u : Unit => [ob_J nd 1 [.int (nI sz), .ref kp, .ref ct, .ref sa, .ref la, .ref fz]]) (v := 1) hx hb hr hlk hK hS rfl () hP hD (show _ = if (bits.toUInt32 >>> ((nI sz).toUInt32 &&& Int32.toUInt32 31)).toInt32 = 0 then _ else _ from by simp [c_6]) dX1_haveAll_14

set_option maxHeartbeats 4000000 in
set_option maxRecDepth 100000 in
theorem k_X1_counts (l : Launch) (D : va_G) (cI cJ cZ : ClassId) (nd : Nat) (sa : Nat) (fz : Nat) (sz : Nat) (kp : Nat) (ct : Nat) (la : Nat) (fsa : Nat → Int32) (ffz : Nat → Int32) (jn : Nat) (hj : jn < 8) : mt_I l yX1_counts cX1_counts 2 .boolean 0 0 D cI cJ cZ [ob_J nd 1 [.int (nI sz), .ref kp, .ref ct, .ref sa, .ref la, .ref fz], ar_I sa cI 8 fsa, ar_I fz cZ 8 ffz] [.ref nd, .int (nI jn)] (fun r (_ : Unit) => r = if (fsa jn = 2 ∨ fsa jn = 3) ∧ ffz jn = 0 then 1 else 0) (fun u_u : Unit => [ob_J nd 1 [.int (nI sz), .ref kp, .ref ct, .ref sa, .ref la, .ref fz], ar_I sa cI 8 fsa, ar_I fz cZ 8 ffz]) := by
  refine en_I (by decide) (Nat.le_of_ble_eq_true rfl) ?_
  intro p e s m below meth c A ls H locs hx hb hr hml hts hown hlk hN hK hA hP hD hS hl
  have hown : s.vm.findClass RX1 = some m.cls := hown
  have hl : lv_has ls 2 [(0, .ref nd), (1, .int (nI jn))] := hl
  refine lv_aload_n hx hb dX1_counts_0 rfl (lv_at hl 0 rfl) ?_
  refine va_get (ci := 1) (v := .ref sa) (C := RX1) (T := TX1) (N := 6) hx hb hts bi_1 hown hK hP 0 rfl rfl 3 (by decide) (hts _ bw_57) (fun _ h9 => h9) rfl dX1_counts_1 ?_
  refine lv_iload_n hx hb dX1_counts_4 rfl (lv_at hl 1 rfl) ?_
  refine ar_ld hx hb hK hP 1 (k := jn) rfl rfl (by omega) (by decide) dX1_counts_5 ?_
  refine lv_iconst (v := 2) hx hb dX1_counts_6 (by decide) ?_
  refine lv_icmp_eq (tgt := 20) hx hb dX1_counts_7 (by decide) (fun c_7 => ?_) (fun c_7 => ?_)
  · refine lv_aload_n hx hb dX1_counts_20 rfl (lv_at hl 0 rfl) ?_
    refine va_get (ci := 1) (v := .ref fz) (C := RX1) (T := TX1) (N := 6) hx hb hts bi_1 hown hK hP 0 rfl rfl 5 (by decide) (hts _ bw_61) (fun _ h9 => h9) rfl dX1_counts_21 ?_
    refine lv_iload_n hx hb dX1_counts_24 rfl (lv_at hl 1 rfl) ?_
    refine ar_zd hx hb hK hP 2 (k := jn) rfl rfl (by omega) (by decide) dX1_counts_25 ?_
    refine lv_if_ne (tgt := 33) hx hb dX1_counts_26 (by decide) (fun c_26 => ?_) (fun c_26 => ?_)
    · refine lv_iconst (v := 0) hx hb dX1_counts_33 (by decide) ?_
      exact re_I (w1 := fun u_u : Unit => [ob_J nd 1 [.int (nI sz), .ref kp, .ref ct, .ref sa, .ref la, .ref fz], ar_I sa cI 8 fsa, ar_I fz cZ 8 ffz]) (v := 0) hx hb hr hlk hK hS rfl () hP hD (show _ = if (fsa jn = 2 ∨ fsa jn = 3) ∧ ffz jn = 0 then _ else _ from by simp [c_7, c_26]) dX1_counts_34
    · refine lv_iconst (v := 1) hx hb dX1_counts_29 (by decide) ?_
      refine lv_goto (tgt := 34) hx hb dX1_counts_30 (by decide) ?_
      exact re_I (w1 := fun u_u : Unit => [ob_J nd 1 [.int (nI sz), .ref kp, .ref ct, .ref sa, .ref la, .ref fz], ar_I sa cI 8 fsa, ar_I fz cZ 8 ffz]) (v := 1) hx hb hr hlk hK hS rfl () hP hD (show _ = if (fsa jn = 2 ∨ fsa jn = 3) ∧ ffz jn = 0 then _ else _ from by simp [c_7, c_26]) dX1_counts_34
  · refine lv_aload_n hx hb dX1_counts_10 rfl (lv_at hl 0 rfl) ?_
    refine va_get (ci := 1) (v := .ref sa) (C := RX1) (T := TX1) (N := 6) hx hb hts bi_1 hown hK hP 0 rfl rfl 3 (by decide) (hts _ bw_57) (fun _ h9 => h9) rfl dX1_counts_11 ?_
    refine lv_iload_n hx hb dX1_counts_14 rfl (lv_at hl 1 rfl) ?_
    refine ar_ld hx hb hK hP 1 (k := jn) rfl rfl (by omega) (by decide) dX1_counts_15 ?_
    refine lv_iconst (v := 3) hx hb dX1_counts_16 (by decide) ?_
    refine lv_icmp_ne (tgt := 33) hx hb dX1_counts_17 (by decide) (fun c_17 => ?_) (fun c_17 => ?_)
    · refine lv_iconst (v := 0) hx hb dX1_counts_33 (by decide) ?_
      exact re_I (w1 := fun u_u : Unit => [ob_J nd 1 [.int (nI sz), .ref kp, .ref ct, .ref sa, .ref la, .ref fz], ar_I sa cI 8 fsa, ar_I fz cZ 8 ffz]) (v := 0) hx hb hr hlk hK hS rfl () hP hD (show _ = if (fsa jn = 2 ∨ fsa jn = 3) ∧ ffz jn = 0 then _ else _ from by simp [c_7, c_17]) dX1_counts_34
    · refine lv_aload_n hx hb dX1_counts_20 rfl (lv_at hl 0 rfl) ?_
      refine va_get (ci := 1) (v := .ref fz) (C := RX1) (T := TX1) (N := 6) hx hb hts bi_1 hown hK hP 0 rfl rfl 5 (by decide) (hts _ bw_61) (fun _ h9 => h9) rfl dX1_counts_21 ?_
      refine lv_iload_n hx hb dX1_counts_24 rfl (lv_at hl 1 rfl) ?_
      refine ar_zd hx hb hK hP 2 (k := jn) rfl rfl (by omega) (by decide) dX1_counts_25 ?_
      refine lv_if_ne (tgt := 33) hx hb dX1_counts_26 (by decide) (fun c_26 => ?_) (fun c_26 => ?_)
      · refine lv_iconst (v := 0) hx hb dX1_counts_33 (by decide) ?_
        exact re_I (w1 := fun u_u : Unit => [ob_J nd 1 [.int (nI sz), .ref kp, .ref ct, .ref sa, .ref la, .ref fz], ar_I sa cI 8 fsa, ar_I fz cZ 8 ffz]) (v := 0) hx hb hr hlk hK hS rfl () hP hD (show _ = if (fsa jn = 2 ∨ fsa jn = 3) ∧ ffz jn = 0 then _ else _ from by simp [c_7, c_17, c_26]) dX1_counts_34
      · refine lv_iconst (v := 1) hx hb dX1_counts_29 (by decide) ?_
        refine lv_goto (tgt := 34) hx hb dX1_counts_30 (by decide) ?_
        exact re_I (w1 := fun u_u : Unit => [ob_J nd 1 [.int (nI sz), .ref kp, .ref ct, .ref sa, .ref la, .ref fz], ar_I sa cI 8 fsa, ar_I fz cZ 8 ffz]) (v := 1) hx hb hr hlk hK hS rfl () hP hD (show _ = if (fsa jn = 2 ∨ fsa jn = 3) ∧ ffz jn = 0 then _ else _ from by simp [c_7, c_17, c_26]) dX1_counts_34

set_option maxHeartbeats 4000000 in
set_option maxRecDepth 100000 in
theorem k_X1_open (l : Launch) (D : va_G) (cI cJ cZ : ClassId) (nd : Nat) (kp : Nat) (ct : Nat) (sa : Nat) (la : Nat) (sz : Nat) (fz : Nat) (fkp : Nat → Int32) (fct : Nat → Int32) (fsa : Nat → Int32) (fla : Nat → Int32) (k : Int32) (c_ : Int32) (hz : sz < 8) : mt_I l yX1_open cX1_open 4 .int 0 0 D cI cJ cZ [ob_J nd 1 [.int (nI sz), .ref kp, .ref ct, .ref sa, .ref la, .ref fz], ar_I kp cI 8 fkp, ar_I ct cI 8 fct, ar_I sa cI 8 fsa, ar_I la cI 8 fla] [.ref nd, .int k, .int c_] (fun r (u_u : Unit) => r = nI sz) (fun u_u : Unit => [ob_J nd 1 [.int (nI (sz + 1)), .ref kp, .ref ct, .ref sa, .ref la, .ref fz], ar_I kp cI 8 (upd fkp sz k), ar_I ct cI 8 (upd fct sz c_), ar_I sa cI 8 (upd fsa sz 0), ar_I la cI 8 (upd fla sz (-2))]) := by
  refine en_I (by decide) (Nat.le_of_ble_eq_true rfl) ?_
  intro p e s m below meth c A ls H locs hx hb hr hml hts hown hlk hN hK hA hP hD hS hl
  have hown : s.vm.findClass RX1 = some m.cls := hown
  have hl : lv_has ls 4 [(0, .ref nd), (1, .int k), (2, .int c_)] := hl
  refine lv_aload_n hx hb dX1_open_0 rfl (lv_at hl 0 rfl) ?_
  refine va_get (ci := 1) (v := .int (nI sz)) (C := RX1) (T := TX1) (N := 6) hx hb hts bi_1 hown hK hP 0 rfl rfl 0 (by decide) (hts _ bw_51) (fun _ h9 => h9) rfl dX1_open_1 ?_
  refine lv_istore_n (lv' := [(3, .int (nI sz)), (0, .ref nd), (1, .int k), (2, .int c_)]) hx hb dX1_open_4 rfl hl (by decide) rfl (fun ls hl => ?_)
  refine lv_aload_n hx hb dX1_open_5 rfl (lv_at hl 1 rfl) ?_
  refine va_get (ci := 1) (v := .ref kp) (C := RX1) (T := TX1) (N := 6) hx hb hts bi_1 hown hK hP 0 rfl rfl 1 (by decide) (hts _ bw_53) (fun _ h9 => h9) rfl dX1_open_6 ?_
  refine lv_iload_n hx hb dX1_open_9 rfl (lv_at hl 0 rfl) ?_
  refine lv_iload_n hx hb dX1_open_10 rfl (lv_at hl 2 rfl) ?_
  refine ar_st hx hb hK hP hD hS 1 (k := sz) rfl rfl (by omega) (by decide) dX1_open_11 _ rfl (fun H locs hP hD hS => ?_)
  have hP : va_P D cl_A [ob_J nd 1 [.int (nI sz), .ref kp, .ref ct, .ref sa, .ref la, .ref fz], ar_I kp cI 8 (upd fkp sz k), ar_I ct cI 8 fct, ar_I sa cI 8 fsa, ar_I la cI 8 fla] H := hP
  have hD : va_D A [ob_J nd 1 [.int (nI sz), .ref kp, .ref ct, .ref sa, .ref la, .ref fz], ar_I kp cI 8 (upd fkp sz k), ar_I ct cI 8 fct, ar_I sa cI 8 fsa, ar_I la cI 8 fla] := hD
  refine lv_aload_n hx hb dX1_open_12 rfl (lv_at hl 1 rfl) ?_
  refine va_get (ci := 1) (v := .ref ct) (C := RX1) (T := TX1) (N := 6) hx hb hts bi_1 hown hK hP 0 rfl rfl 2 (by decide) (hts _ bw_55) (fun _ h9 => h9) rfl dX1_open_13 ?_
  refine lv_iload_n hx hb dX1_open_16 rfl (lv_at hl 0 rfl) ?_
  refine lv_iload_n hx hb dX1_open_17 rfl (lv_at hl 3 rfl) ?_
  refine ar_st hx hb hK hP hD hS 2 (k := sz) rfl rfl (by omega) (by decide) dX1_open_18 _ rfl (fun H locs hP hD hS => ?_)
  have hP : va_P D cl_A [ob_J nd 1 [.int (nI sz), .ref kp, .ref ct, .ref sa, .ref la, .ref fz], ar_I kp cI 8 (upd fkp sz k), ar_I ct cI 8 (upd fct sz c_), ar_I sa cI 8 fsa, ar_I la cI 8 fla] H := hP
  have hD : va_D A [ob_J nd 1 [.int (nI sz), .ref kp, .ref ct, .ref sa, .ref la, .ref fz], ar_I kp cI 8 (upd fkp sz k), ar_I ct cI 8 (upd fct sz c_), ar_I sa cI 8 fsa, ar_I la cI 8 fla] := hD
  refine lv_aload_n hx hb dX1_open_19 rfl (lv_at hl 1 rfl) ?_
  refine va_get (ci := 1) (v := .ref sa) (C := RX1) (T := TX1) (N := 6) hx hb hts bi_1 hown hK hP 0 rfl rfl 3 (by decide) (hts _ bw_57) (fun _ h9 => h9) rfl dX1_open_20 ?_
  refine lv_iload_n hx hb dX1_open_23 rfl (lv_at hl 0 rfl) ?_
  refine lv_iconst (v := 0) hx hb dX1_open_24 (by decide) ?_
  refine ar_st hx hb hK hP hD hS 3 (k := sz) rfl rfl (by omega) (by decide) dX1_open_25 _ rfl (fun H locs hP hD hS => ?_)
  have hP : va_P D cl_A [ob_J nd 1 [.int (nI sz), .ref kp, .ref ct, .ref sa, .ref la, .ref fz], ar_I kp cI 8 (upd fkp sz k), ar_I ct cI 8 (upd fct sz c_), ar_I sa cI 8 (upd fsa sz 0), ar_I la cI 8 fla] H := hP
  have hD : va_D A [ob_J nd 1 [.int (nI sz), .ref kp, .ref ct, .ref sa, .ref la, .ref fz], ar_I kp cI 8 (upd fkp sz k), ar_I ct cI 8 (upd fct sz c_), ar_I sa cI 8 (upd fsa sz 0), ar_I la cI 8 fla] := hD
  refine lv_aload_n hx hb dX1_open_26 rfl (lv_at hl 1 rfl) ?_
  refine va_get (ci := 1) (v := .ref la) (C := RX1) (T := TX1) (N := 6) hx hb hts bi_1 hown hK hP 0 rfl rfl 4 (by decide) (hts _ bw_59) (fun _ h9 => h9) rfl dX1_open_27 ?_
  refine lv_iload_n hx hb dX1_open_30 rfl (lv_at hl 0 rfl) ?_
  refine lv_bipush (v := (-2)) hx hb dX1_open_31 (by decide) ?_
  refine ar_st hx hb hK hP hD hS 4 (k := sz) rfl rfl (by omega) (by decide) dX1_open_33 _ rfl (fun H locs hP hD hS => ?_)
  have hP : va_P D cl_A [ob_J nd 1 [.int (nI sz), .ref kp, .ref ct, .ref sa, .ref la, .ref fz], ar_I kp cI 8 (upd fkp sz k), ar_I ct cI 8 (upd fct sz c_), ar_I sa cI 8 (upd fsa sz 0), ar_I la cI 8 (upd fla sz (-2))] H := hP
  have hD : va_D A [ob_J nd 1 [.int (nI sz), .ref kp, .ref ct, .ref sa, .ref la, .ref fz], ar_I kp cI 8 (upd fkp sz k), ar_I ct cI 8 (upd fct sz c_), ar_I sa cI 8 (upd fsa sz 0), ar_I la cI 8 (upd fla sz (-2))] := hD
  refine lv_aload_n hx hb dX1_open_34 rfl (lv_at hl 1 rfl) ?_
  refine lv_dup hx hb dX1_open_35 rfl ?_
  refine va_get (ci := 1) (v := .int (nI sz)) (C := RX1) (T := TX1) (N := 6) hx hb hts bi_1 hown hK hP 0 rfl rfl 0 (by decide) (hts _ bw_51) (fun _ h9 => h9) rfl dX1_open_36 ?_
  refine lv_iconst (v := 1) hx hb dX1_open_39 (by decide) ?_
  refine lv_iadd hx hb dX1_open_40 ?_
  refine tp_i (x' := nI (sz + 1)) (nn_add rfl rfl) ?_
  refine va_put (ci := 1) (v := .int (nI (sz + 1))) (ty := .int) (C := RX1) (T := TX1) (N := 6) hx hb hts bi_1 tyX1 tyX1_ok nmX1 hown hK hP hD hS 0 rfl rfl 0 (by decide) (hts _ bw_51) (fun _ h9 => h9) rfl (by decide +kernel) rfl rfl (Nat.le_of_ble_eq_true rfl) dX1_open_41 (fun H locs hP hD hS => ?_)
  have hP : va_P D cl_A [ob_J nd 1 [.int (nI (sz + 1)), .ref kp, .ref ct, .ref sa, .ref la, .ref fz], ar_I kp cI 8 (upd fkp sz k), ar_I ct cI 8 (upd fct sz c_), ar_I sa cI 8 (upd fsa sz 0), ar_I la cI 8 (upd fla sz (-2))] H := hP
  have hD : va_D A [ob_J nd 1 [.int (nI (sz + 1)), .ref kp, .ref ct, .ref sa, .ref la, .ref fz], ar_I kp cI 8 (upd fkp sz k), ar_I ct cI 8 (upd fct sz c_), ar_I sa cI 8 (upd fsa sz 0), ar_I la cI 8 (upd fla sz (-2))] := hD
  refine lv_iload_n hx hb dX1_open_44 rfl (lv_at hl 0 rfl) ?_
  exact re_I (w1 := fun u_u : Unit => [ob_J nd 1 [.int (nI (sz + 1)), .ref kp, .ref ct, .ref sa, .ref la, .ref fz], ar_I kp cI 8 (upd fkp sz k), ar_I ct cI 8 (upd fct sz c_), ar_I sa cI 8 (upd fsa sz 0), ar_I la cI 8 (upd fla sz (-2))]) (v := nI sz) hx hb hr hlk hK hS rfl () hP hD (show nI sz = nI sz from rfl) dX1_open_45

set_option maxHeartbeats 4000000 in
set_option maxRecDepth 100000 in
theorem k_X1_settle (l : Launch) (D : va_G) (cI cJ cZ : ClassId) (nd : Nat) (sa : Nat) (la : Nat) (sz : Nat) (kp : Nat) (ct : Nat) (fz : Nat) (fsa : Nat → Int32) (fla : Nat → Int32) (h : Nat) (hz : sz ≤ 8) (hh : h < 110) : mt_V l yX1_settle cX1_settle 3 0 0 D cI cJ cZ [ob_J nd 1 [.int (nI sz), .ref kp, .ref ct, .ref sa, .ref la, .ref fz], ar_I sa cI 8 fsa, ar_I la cI 8 fla] [.ref nd, .int (nI h)] (fun u_u : Unit => True) (fun u_u : Unit => [ob_J nd 1 [.int (nI sz), .ref kp, .ref ct, .ref sa, .ref la, .ref fz], ar_I sa cI 8 (se_v fsa (st_a fsa fla (nI h)) sz), ar_I la cI 8 (se_v fla (st_b fsa fla (nI h)) sz)]) := by
  refine en_V (by decide) (Nat.le_of_ble_eq_true rfl) ?_
  intro p e s m below meth c A ls H locs hx hb hr hml hts hown hlk hN hK hA hP hD hS hl
  have hown : s.vm.findClass RX1 = some m.cls := hown
  have hl : lv_has ls 3 [(0, .ref nd), (1, .int (nI h))] := hl
  refine lv_iconst (v := 0) hx hb dX1_settle_0 (by decide) ?_
  refine lv_istore_n (lv' := [(2, .int 0), (0, .ref nd), (1, .int (nI h))]) hx hb dX1_settle_1 rfl hl (by decide) rfl (fun ls hl => ?_)
  have q_1 : fsa = se_v fsa (st_a fsa fla (nI h)) 0 := se_0 _ _
  obtain ⟨hP, hD⟩ := cs_W (fun z_z => [ob_J nd 1 [.int (nI sz), .ref kp, .ref ct, .ref sa, .ref la, .ref fz], ar_I sa cI 8 z_z, ar_I la cI 8 fla]) q_1 hP hD
  have q_2 : fla = se_v fla (st_b fsa fla (nI h)) 0 := se_0 _ _
  obtain ⟨hP, hD⟩ := cs_W (fun z_z => [ob_J nd 1 [.int (nI sz), .ref kp, .ref ct, .ref sa, .ref la, .ref fz], ar_I sa cI 8 (se_v fsa (st_a fsa fla (nI h)) 0), ar_I la cI 8 z_z]) q_2 hP hD
  have hl := lv_sub (l' := [(0, .ref nd), (1, .int (nI h)), (2, .int 0)]) hl [1, 2, 0] rfl
  have q_3 : 0 = nI 0 := rfl
  have hl := cs_L (fun z_z => [(0, .ref nd), (1, .int (nI h)), (2, .int z_z)]) q_3 hl
  have hl : lv_has ls 3 [(0, .ref nd), (1, .int (nI h)), (2, .int (nI 0))] := hl
  refine lp_g (σ := Nat) (fun i => sz - i) (fun i => [ob_J nd 1 [.int (nI sz), .ref kp, .ref ct, .ref sa, .ref la, .ref fz], ar_I sa cI 8 (se_v fsa (st_a fsa fla (nI h)) i), ar_I la cI 8 (se_v fla (st_b fsa fla (nI h)) i)]) (fun i => [(0, .ref nd), (1, .int (nI h)), (2, .int (nI i))]) (fun i => (i ≤ sz)) ?_ 0 (show (0 ≤ sz) from by omega) hP hD hS hl
  intro i H locs ls hF hP hD hS hl ih_2
  have hF : (i ≤ sz) := hF
  have hi := hF
  have hP : va_P D cl_A [ob_J nd 1 [.int (nI sz), .ref kp, .ref ct, .ref sa, .ref la, .ref fz], ar_I sa cI 8 (se_v fsa (st_a fsa fla (nI h)) i), ar_I la cI 8 (se_v fla (st_b fsa fla (nI h)) i)] H := hP
  have hD : va_D A [ob_J nd 1 [.int (nI sz), .ref kp, .ref ct, .ref sa, .ref la, .ref fz], ar_I sa cI 8 (se_v fsa (st_a fsa fla (nI h)) i), ar_I la cI 8 (se_v fla (st_b fsa fla (nI h)) i)] := hD
  have hl : lv_has ls 3 [(0, .ref nd), (1, .int (nI h)), (2, .int (nI i))] := hl
  refine lv_iload_n hx hb dX1_settle_2 rfl (lv_at hl 2 rfl) ?_
  refine lv_aload_n hx hb dX1_settle_3 rfl (lv_at hl 0 rfl) ?_
  refine va_get (ci := 1) (v := .int (nI sz)) (C := RX1) (T := TX1) (N := 6) hx hb hts bi_1 hown hK hP 0 rfl rfl 0 (by decide) (hts _ bw_51) (fun _ h9 => h9) rfl dX1_settle_4 ?_
  refine lv_icmp_ge (tgt := 71) hx hb dX1_settle_7 (by decide) (fun c_7 => ?_) (fun c_7 => ?_)
  · have c_7 := qq_ge (a := i) (b := sz) c_7 (by omega) (by omega)
    have q_4 : se_v fsa (st_a fsa fla (nI h)) i = se_v fsa (st_a fsa fla (nI h)) sz := by rw [show i = sz by omega]
    obtain ⟨hP, hD⟩ := cs_W (fun z_z => [ob_J nd 1 [.int (nI sz), .ref kp, .ref ct, .ref sa, .ref la, .ref fz], ar_I sa cI 8 z_z, ar_I la cI 8 (se_v fla (st_b fsa fla (nI h)) i)]) q_4 hP hD
    have q_5 : se_v fla (st_b fsa fla (nI h)) i = se_v fla (st_b fsa fla (nI h)) sz := by rw [show i = sz by omega]
    obtain ⟨hP, hD⟩ := cs_W (fun z_z => [ob_J nd 1 [.int (nI sz), .ref kp, .ref ct, .ref sa, .ref la, .ref fz], ar_I sa cI 8 (se_v fsa (st_a fsa fla (nI h)) sz), ar_I la cI 8 z_z]) q_5 hP hD
    exact re_V (w1 := fun u_u : Unit => [ob_J nd 1 [.int (nI sz), .ref kp, .ref ct, .ref sa, .ref la, .ref fz], ar_I sa cI 8 (se_v fsa (st_a fsa fla (nI h)) sz), ar_I la cI 8 (se_v fla (st_b fsa fla (nI h)) sz)]) hx hb hr hlk hK hS () hP hD trivial dX1_settle_71
  · have c_7 := qq_nge (a := i) (b := sz) c_7 (by omega) (by omega)
    refine lv_aload_n hx hb dX1_settle_10 rfl (lv_at hl 0 rfl) ?_
    refine va_get (ci := 1) (v := .ref sa) (C := RX1) (T := TX1) (N := 6) hx hb hts bi_1 hown hK hP 0 rfl rfl 3 (by decide) (hts _ bw_57) (fun _ h9 => h9) rfl dX1_settle_11 ?_
    refine lv_iload_n hx hb dX1_settle_14 rfl (lv_at hl 2 rfl) ?_
    refine ar_ld hx hb hK hP 1 (k := i) rfl rfl (by omega) (by decide) dX1_settle_15 ?_
    refine tp_i (x' := fsa i) (se_i _ _ _) ?_
    refine lv_iconst (v := 3) hx hb dX1_settle_16 (by decide) ?_
    refine lv_icmp_ne (tgt := 48) hx hb dX1_settle_17 (by decide) (fun c_17 => ?_) (fun c_17 => ?_)
    · refine lv_aload_n hx hb dX1_settle_48 rfl (lv_at hl 0 rfl) ?_
      refine va_get (ci := 1) (v := .ref sa) (C := RX1) (T := TX1) (N := 6) hx hb hts bi_1 hown hK hP 0 rfl rfl 3 (by decide) (hts _ bw_57) (fun _ h9 => h9) rfl dX1_settle_49 ?_
      refine lv_iload_n hx hb dX1_settle_52 rfl (lv_at hl 2 rfl) ?_
      refine ar_ld hx hb hK hP 1 (k := i) rfl rfl (by omega) (by decide) dX1_settle_53 ?_
      refine tp_i (x' := fsa i) (se_i _ _ _) ?_
      refine lv_iconst (v := 1) hx hb dX1_settle_54 (by decide) ?_
      refine lv_icmp_ne (tgt := 65) hx hb dX1_settle_55 (by decide) (fun c_55 => ?_) (fun c_55 => ?_)
      · refine lv_iinc (v := nI (i + 1)) (lv' := [(2, .int (nI (i + 1))), (0, .ref nd), (1, .int (nI h))]) hx hb dX1_settle_65 hl (k := 2) rfl (nI_1 _) (by decide) rfl (fun ls hl => ?_)
        refine lv_goto (tgt := 2) hx hb dX1_settle_68 (by decide) ?_
        have q_6 : se_v fsa (st_a fsa fla (nI h)) i = se_v fsa (st_a fsa fla (nI h)) (i + 1) := se_k (by first | (simp [st_a, c_7, c_17, c_55]; done) | exact absurd (c_17.symm.trans c_55) (by decide))
        obtain ⟨hP, hD⟩ := cs_W (fun z_z => [ob_J nd 1 [.int (nI sz), .ref kp, .ref ct, .ref sa, .ref la, .ref fz], ar_I sa cI 8 z_z, ar_I la cI 8 (se_v fla (st_b fsa fla (nI h)) i)]) q_6 hP hD
        have q_7 : se_v fla (st_b fsa fla (nI h)) i = se_v fla (st_b fsa fla (nI h)) (i + 1) := se_k (by first | (simp [st_b, c_7, c_17, c_55]; done) | exact absurd (c_17.symm.trans c_55) (by decide))
        obtain ⟨hP, hD⟩ := cs_W (fun z_z => [ob_J nd 1 [.int (nI sz), .ref kp, .ref ct, .ref sa, .ref la, .ref fz], ar_I sa cI 8 (se_v fsa (st_a fsa fla (nI h)) (i + 1)), ar_I la cI 8 z_z]) q_7 hP hD
        have hl := lv_sub (l' := [(0, .ref nd), (1, .int (nI h)), (2, .int (nI (i + 1)))]) hl [1, 2, 0] rfl
        have hl : lv_has ls 3 [(0, .ref nd), (1, .int (nI h)), (2, .int (nI (i + 1)))] := hl
        exact ih_2 (i + 1) (show sz - (i + 1) < sz - i from by omega) (show ((i + 1) ≤ sz) from by omega) H locs ls hP hD hS hl
      · refine lv_aload_n hx hb dX1_settle_58 rfl (lv_at hl 0 rfl) ?_
        refine va_get (ci := 1) (v := .ref sa) (C := RX1) (T := TX1) (N := 6) hx hb hts bi_1 hown hK hP 0 rfl rfl 3 (by decide) (hts _ bw_57) (fun _ h9 => h9) rfl dX1_settle_59 ?_
        refine lv_iload_n hx hb dX1_settle_62 rfl (lv_at hl 2 rfl) ?_
        refine lv_iconst (v := 2) hx hb dX1_settle_63 (by decide) ?_
        refine ar_st hx hb hK hP hD hS 1 (k := i) rfl rfl (by omega) (by decide) dX1_settle_64 _ rfl (fun H locs hP hD hS => ?_)
        have hP : va_P D cl_A [ob_J nd 1 [.int (nI sz), .ref kp, .ref ct, .ref sa, .ref la, .ref fz], ar_I sa cI 8 (upd (se_v fsa (st_a fsa fla (nI h)) i) i 2), ar_I la cI 8 (se_v fla (st_b fsa fla (nI h)) i)] H := hP
        have hD : va_D A [ob_J nd 1 [.int (nI sz), .ref kp, .ref ct, .ref sa, .ref la, .ref fz], ar_I sa cI 8 (upd (se_v fsa (st_a fsa fla (nI h)) i) i 2), ar_I la cI 8 (se_v fla (st_b fsa fla (nI h)) i)] := hD
        refine lv_iinc (v := nI (i + 1)) (lv' := [(2, .int (nI (i + 1))), (0, .ref nd), (1, .int (nI h))]) hx hb dX1_settle_65 hl (k := 2) rfl (nI_1 _) (by decide) rfl (fun ls hl => ?_)
        refine lv_goto (tgt := 2) hx hb dX1_settle_68 (by decide) ?_
        have q_8 : upd (se_v fsa (st_a fsa fla (nI h)) i) i 2 = se_v fsa (st_a fsa fla (nI h)) (i + 1) := se_x (by first | (simp [st_a, c_7, c_17, c_55]; done) | exact absurd (c_17.symm.trans c_55) (by decide))
        obtain ⟨hP, hD⟩ := cs_W (fun z_z => [ob_J nd 1 [.int (nI sz), .ref kp, .ref ct, .ref sa, .ref la, .ref fz], ar_I sa cI 8 z_z, ar_I la cI 8 (se_v fla (st_b fsa fla (nI h)) i)]) q_8 hP hD
        have q_9 : se_v fla (st_b fsa fla (nI h)) i = se_v fla (st_b fsa fla (nI h)) (i + 1) := se_k (by first | (simp [st_b, c_7, c_17, c_55]; done) | exact absurd (c_17.symm.trans c_55) (by decide))
        obtain ⟨hP, hD⟩ := cs_W (fun z_z => [ob_J nd 1 [.int (nI sz), .ref kp, .ref ct, .ref sa, .ref la, .ref fz], ar_I sa cI 8 (se_v fsa (st_a fsa fla (nI h)) (i + 1)), ar_I la cI 8 z_z]) q_9 hP hD
        have hl := lv_sub (l' := [(0, .ref nd), (1, .int (nI h)), (2, .int (nI (i + 1)))]) hl [1, 2, 0] rfl
        have hl : lv_has ls 3 [(0, .ref nd), (1, .int (nI h)), (2, .int (nI (i + 1)))] := hl
        exact ih_2 (i + 1) (show sz - (i + 1) < sz - i from by omega) (show ((i + 1) ≤ sz) from by omega) H locs ls hP hD hS hl
    · refine lv_aload_n hx hb dX1_settle_20 rfl (lv_at hl 0 rfl) ?_
      refine va_get (ci := 1) (v := .ref la) (C := RX1) (T := TX1) (N := 6) hx hb hts bi_1 hown hK hP 0 rfl rfl 4 (by decide) (hts _ bw_59) (fun _ h9 => h9) rfl dX1_settle_21 ?_
      refine lv_iload_n hx hb dX1_settle_24 rfl (lv_at hl 2 rfl) ?_
      refine ar_ld hx hb hK hP 2 (k := i) rfl rfl (by omega) (by decide) dX1_settle_25 ?_
      refine tp_i (x' := fla i) (se_i _ _ _) ?_
      refine lv_iload_n hx hb dX1_settle_26 rfl (lv_at hl 1 rfl) ?_
      refine lv_icmp_ne (tgt := 48) hx hb dX1_settle_27 (by decide) (fun c_27 => ?_) (fun c_27 => ?_)
      · refine lv_aload_n hx hb dX1_settle_48 rfl (lv_at hl 0 rfl) ?_
        refine va_get (ci := 1) (v := .ref sa) (C := RX1) (T := TX1) (N := 6) hx hb hts bi_1 hown hK hP 0 rfl rfl 3 (by decide) (hts _ bw_57) (fun _ h9 => h9) rfl dX1_settle_49 ?_
        refine lv_iload_n hx hb dX1_settle_52 rfl (lv_at hl 2 rfl) ?_
        refine ar_ld hx hb hK hP 1 (k := i) rfl rfl (by omega) (by decide) dX1_settle_53 ?_
        refine tp_i (x' := fsa i) (se_i _ _ _) ?_
        refine lv_iconst (v := 1) hx hb dX1_settle_54 (by decide) ?_
        refine lv_icmp_ne (tgt := 65) hx hb dX1_settle_55 (by decide) (fun c_55 => ?_) (fun c_55 => ?_)
        · refine lv_iinc (v := nI (i + 1)) (lv' := [(2, .int (nI (i + 1))), (0, .ref nd), (1, .int (nI h))]) hx hb dX1_settle_65 hl (k := 2) rfl (nI_1 _) (by decide) rfl (fun ls hl => ?_)
          refine lv_goto (tgt := 2) hx hb dX1_settle_68 (by decide) ?_
          have q_10 : se_v fsa (st_a fsa fla (nI h)) i = se_v fsa (st_a fsa fla (nI h)) (i + 1) := se_k (by first | (simp [st_a, c_7, c_17, c_27, c_55]; done) | exact absurd (c_17.symm.trans c_55) (by decide))
          obtain ⟨hP, hD⟩ := cs_W (fun z_z => [ob_J nd 1 [.int (nI sz), .ref kp, .ref ct, .ref sa, .ref la, .ref fz], ar_I sa cI 8 z_z, ar_I la cI 8 (se_v fla (st_b fsa fla (nI h)) i)]) q_10 hP hD
          have q_11 : se_v fla (st_b fsa fla (nI h)) i = se_v fla (st_b fsa fla (nI h)) (i + 1) := se_k (by first | (simp [st_b, c_7, c_17, c_27, c_55]; done) | exact absurd (c_17.symm.trans c_55) (by decide))
          obtain ⟨hP, hD⟩ := cs_W (fun z_z => [ob_J nd 1 [.int (nI sz), .ref kp, .ref ct, .ref sa, .ref la, .ref fz], ar_I sa cI 8 (se_v fsa (st_a fsa fla (nI h)) (i + 1)), ar_I la cI 8 z_z]) q_11 hP hD
          have hl := lv_sub (l' := [(0, .ref nd), (1, .int (nI h)), (2, .int (nI (i + 1)))]) hl [1, 2, 0] rfl
          have hl : lv_has ls 3 [(0, .ref nd), (1, .int (nI h)), (2, .int (nI (i + 1)))] := hl
          exact ih_2 (i + 1) (show sz - (i + 1) < sz - i from by omega) (show ((i + 1) ≤ sz) from by omega) H locs ls hP hD hS hl
        · refine lv_aload_n hx hb dX1_settle_58 rfl (lv_at hl 0 rfl) ?_
          refine va_get (ci := 1) (v := .ref sa) (C := RX1) (T := TX1) (N := 6) hx hb hts bi_1 hown hK hP 0 rfl rfl 3 (by decide) (hts _ bw_57) (fun _ h9 => h9) rfl dX1_settle_59 ?_
          refine lv_iload_n hx hb dX1_settle_62 rfl (lv_at hl 2 rfl) ?_
          refine lv_iconst (v := 2) hx hb dX1_settle_63 (by decide) ?_
          refine ar_st hx hb hK hP hD hS 1 (k := i) rfl rfl (by omega) (by decide) dX1_settle_64 _ rfl (fun H locs hP hD hS => ?_)
          have hP : va_P D cl_A [ob_J nd 1 [.int (nI sz), .ref kp, .ref ct, .ref sa, .ref la, .ref fz], ar_I sa cI 8 (upd (se_v fsa (st_a fsa fla (nI h)) i) i 2), ar_I la cI 8 (se_v fla (st_b fsa fla (nI h)) i)] H := hP
          have hD : va_D A [ob_J nd 1 [.int (nI sz), .ref kp, .ref ct, .ref sa, .ref la, .ref fz], ar_I sa cI 8 (upd (se_v fsa (st_a fsa fla (nI h)) i) i 2), ar_I la cI 8 (se_v fla (st_b fsa fla (nI h)) i)] := hD
          refine lv_iinc (v := nI (i + 1)) (lv' := [(2, .int (nI (i + 1))), (0, .ref nd), (1, .int (nI h))]) hx hb dX1_settle_65 hl (k := 2) rfl (nI_1 _) (by decide) rfl (fun ls hl => ?_)
          refine lv_goto (tgt := 2) hx hb dX1_settle_68 (by decide) ?_
          have q_12 : upd (se_v fsa (st_a fsa fla (nI h)) i) i 2 = se_v fsa (st_a fsa fla (nI h)) (i + 1) := se_x (by first | (simp [st_a, c_7, c_17, c_27, c_55]; done) | exact absurd (c_17.symm.trans c_55) (by decide))
          obtain ⟨hP, hD⟩ := cs_W (fun z_z => [ob_J nd 1 [.int (nI sz), .ref kp, .ref ct, .ref sa, .ref la, .ref fz], ar_I sa cI 8 z_z, ar_I la cI 8 (se_v fla (st_b fsa fla (nI h)) i)]) q_12 hP hD
          have q_13 : se_v fla (st_b fsa fla (nI h)) i = se_v fla (st_b fsa fla (nI h)) (i + 1) := se_k (by first | (simp [st_b, c_7, c_17, c_27, c_55]; done) | exact absurd (c_17.symm.trans c_55) (by decide))
          obtain ⟨hP, hD⟩ := cs_W (fun z_z => [ob_J nd 1 [.int (nI sz), .ref kp, .ref ct, .ref sa, .ref la, .ref fz], ar_I sa cI 8 (se_v fsa (st_a fsa fla (nI h)) (i + 1)), ar_I la cI 8 z_z]) q_13 hP hD
          have hl := lv_sub (l' := [(0, .ref nd), (1, .int (nI h)), (2, .int (nI (i + 1)))]) hl [1, 2, 0] rfl
          have hl : lv_has ls 3 [(0, .ref nd), (1, .int (nI h)), (2, .int (nI (i + 1)))] := hl
          exact ih_2 (i + 1) (show sz - (i + 1) < sz - i from by omega) (show ((i + 1) ≤ sz) from by omega) H locs ls hP hD hS hl
      · refine lv_aload_n hx hb dX1_settle_30 rfl (lv_at hl 0 rfl) ?_
        refine va_get (ci := 1) (v := .ref sa) (C := RX1) (T := TX1) (N := 6) hx hb hts bi_1 hown hK hP 0 rfl rfl 3 (by decide) (hts _ bw_57) (fun _ h9 => h9) rfl dX1_settle_31 ?_
        refine lv_iload_n hx hb dX1_settle_34 rfl (lv_at hl 2 rfl) ?_
        refine lv_iconst (v := 0) hx hb dX1_settle_35 (by decide) ?_
        refine ar_st hx hb hK hP hD hS 1 (k := i) rfl rfl (by omega) (by decide) dX1_settle_36 _ rfl (fun H locs hP hD hS => ?_)
        have hP : va_P D cl_A [ob_J nd 1 [.int (nI sz), .ref kp, .ref ct, .ref sa, .ref la, .ref fz], ar_I sa cI 8 (upd (se_v fsa (st_a fsa fla (nI h)) i) i 0), ar_I la cI 8 (se_v fla (st_b fsa fla (nI h)) i)] H := hP
        have hD : va_D A [ob_J nd 1 [.int (nI sz), .ref kp, .ref ct, .ref sa, .ref la, .ref fz], ar_I sa cI 8 (upd (se_v fsa (st_a fsa fla (nI h)) i) i 0), ar_I la cI 8 (se_v fla (st_b fsa fla (nI h)) i)] := hD
        refine lv_aload_n hx hb dX1_settle_37 rfl (lv_at hl 0 rfl) ?_
        refine va_get (ci := 1) (v := .ref la) (C := RX1) (T := TX1) (N := 6) hx hb hts bi_1 hown hK hP 0 rfl rfl 4 (by decide) (hts _ bw_59) (fun _ h9 => h9) rfl dX1_settle_38 ?_
        refine lv_iload_n hx hb dX1_settle_41 rfl (lv_at hl 2 rfl) ?_
        refine lv_bipush (v := (-2)) hx hb dX1_settle_42 (by decide) ?_
        refine ar_st hx hb hK hP hD hS 2 (k := i) rfl rfl (by omega) (by decide) dX1_settle_44 _ rfl (fun H locs hP hD hS => ?_)
        have hP : va_P D cl_A [ob_J nd 1 [.int (nI sz), .ref kp, .ref ct, .ref sa, .ref la, .ref fz], ar_I sa cI 8 (upd (se_v fsa (st_a fsa fla (nI h)) i) i 0), ar_I la cI 8 (upd (se_v fla (st_b fsa fla (nI h)) i) i (-2))] H := hP
        have hD : va_D A [ob_J nd 1 [.int (nI sz), .ref kp, .ref ct, .ref sa, .ref la, .ref fz], ar_I sa cI 8 (upd (se_v fsa (st_a fsa fla (nI h)) i) i 0), ar_I la cI 8 (upd (se_v fla (st_b fsa fla (nI h)) i) i (-2))] := hD
        refine lv_goto (tgt := 65) hx hb dX1_settle_45 (by decide) ?_
        refine lv_iinc (v := nI (i + 1)) (lv' := [(2, .int (nI (i + 1))), (0, .ref nd), (1, .int (nI h))]) hx hb dX1_settle_65 hl (k := 2) rfl (nI_1 _) (by decide) rfl (fun ls hl => ?_)
        refine lv_goto (tgt := 2) hx hb dX1_settle_68 (by decide) ?_
        have q_14 : upd (se_v fsa (st_a fsa fla (nI h)) i) i 0 = se_v fsa (st_a fsa fla (nI h)) (i + 1) := se_x (by first | (simp [st_a, c_7, c_17, c_27]; done) | exact absurd (c_17.symm.trans c_55) (by decide))
        obtain ⟨hP, hD⟩ := cs_W (fun z_z => [ob_J nd 1 [.int (nI sz), .ref kp, .ref ct, .ref sa, .ref la, .ref fz], ar_I sa cI 8 z_z, ar_I la cI 8 (upd (se_v fla (st_b fsa fla (nI h)) i) i (-2))]) q_14 hP hD
        have q_15 : upd (se_v fla (st_b fsa fla (nI h)) i) i (-2) = se_v fla (st_b fsa fla (nI h)) (i + 1) := se_x (by first | (simp [st_b, c_7, c_17, c_27]; done) | exact absurd (c_17.symm.trans c_55) (by decide))
        obtain ⟨hP, hD⟩ := cs_W (fun z_z => [ob_J nd 1 [.int (nI sz), .ref kp, .ref ct, .ref sa, .ref la, .ref fz], ar_I sa cI 8 (se_v fsa (st_a fsa fla (nI h)) (i + 1)), ar_I la cI 8 z_z]) q_15 hP hD
        have hl := lv_sub (l' := [(0, .ref nd), (1, .int (nI h)), (2, .int (nI (i + 1)))]) hl [1, 2, 0] rfl
        have hl : lv_has ls 3 [(0, .ref nd), (1, .int (nI h)), (2, .int (nI (i + 1)))] := hl
        exact ih_2 (i + 1) (show sz - (i + 1) < sz - i from by omega) (show ((i + 1) ≤ sz) from by omega) H locs ls hP hD hS hl
end
section
set_option maxHeartbeats 4000000 in
set_option maxRecDepth 100000 in
theorem k_X2_enter (l : Launch) (D : va_G) (cI cJ cZ : ClassId) (st : Nat) (wt : Nat) (al : Nat) (br : Nat) (rw : Nat) (fx : Nat) (fwt : Nat → Int32) (fal : Nat → Int32) (fbr : Nat → Int32) (kh : Nat) (jn : Nat) (w : Int32) (hh : kh ≤ 100) (hj : jn < 8) : mt_V l yX2_enter cX2_enter 4 1 21 D cI cJ cZ [ob_J st 2 [.ref wt, .ref rw, .ref al, .ref br, .ref fx], ar_I wt cI 808 fwt, ar_I al cI 101 fal, ar_I br cI 101 fbr] [.ref st, .int (nI kh), .int (nI jn), .int w] (fun u_u : Unit => True) (fun u_u : Unit => [ob_J st 2 [.ref wt, .ref rw, .ref al, .ref br, .ref fx], ar_I wt cI 808 (if 0 < w then upd fwt (kh * 8 + jn) w else fwt), ar_I al cI 101 (if 0 < w then upd fal kh (fal kh + w) else fal), ar_I br cI 101 (if 0 < w then upd fbr kh (fbr kh ||| ((1 : Int32) <<< (nI jn &&& 31))) else fbr)]) := by
  refine en_V (by decide) (Nat.le_of_ble_eq_true rfl) ?_
  intro p e s m below meth c A ls H locs hx hb hr hml hts hown hlk hN hK hA hP hD hS hl
  have hown : s.vm.findClass RX2 = some m.cls := hown
  have hl : lv_has ls 4 [(0, .ref st), (1, .int (nI kh)), (2, .int (nI jn)), (3, .int w)] := hl
  refine lv_iload_n hx hb dX2_enter_0 rfl (lv_at hl 3 rfl) ?_
  refine lv_if_gt (tgt := 5) hx hb dX2_enter_1 (by decide) (fun c_1 => ?_) (fun c_1 => ?_)
  · refine lv_aload_n hx hb dX2_enter_5 rfl (lv_at hl 0 rfl) ?_
    refine va_get (ci := 2) (v := .ref wt) (C := RX2) (T := TX2) (N := 5) hx hb hts bi_2 hown hK hP 0 rfl rfl 0 (by decide) (hts _ bw_83) (fun _ h9 => h9) rfl dX2_enter_6 ?_
    refine lv_iload_n hx hb dX2_enter_9 rfl (lv_at hl 1 rfl) ?_
    refine lv_iload_n hx hb dX2_enter_10 rfl (lv_at hl 2 rfl) ?_
    refine ca_NI (rest := [.ref wt]) (k_X5_setPlace l D cI cJ cZ kh jn ) hx hb hml hown hts hN hK hA hP hD hS hN.2.2.1 bw_229 bw_1 bw_230 2 rfl (by decide +kernel) ⟨by decide, by decide⟩ hl.1 rfl (Nat.le_of_ble_eq_true rfl) dX2_enter_11 ⟨Nat.zero_le _, Nat.zero_le _⟩ (fun r_11 u_u H locs w_11 hP hD hS => ?_)
    have w_11 : r_11 = nI (kh * 8 + jn) := w_11
    subst w_11
    refine lv_iload_n hx hb dX2_enter_14 rfl (lv_at hl 3 rfl) ?_
    refine ar_st hx hb hK hP hD hS 1 (k := kh * 8 + jn) rfl rfl (by omega) (by decide) dX2_enter_15 _ rfl (fun H locs hP hD hS => ?_)
    have hP : va_P D cl_A [ob_J st 2 [.ref wt, .ref rw, .ref al, .ref br, .ref fx], ar_I wt cI 808 (upd fwt (kh * 8 + jn) w), ar_I al cI 101 fal, ar_I br cI 101 fbr] H := hP
    have hD : va_D A [ob_J st 2 [.ref wt, .ref rw, .ref al, .ref br, .ref fx], ar_I wt cI 808 (upd fwt (kh * 8 + jn) w), ar_I al cI 101 fal, ar_I br cI 101 fbr] := hD
    refine lv_aload_n hx hb dX2_enter_16 rfl (lv_at hl 0 rfl) ?_
    refine va_get (ci := 2) (v := .ref al) (C := RX2) (T := TX2) (N := 5) hx hb hts bi_2 hown hK hP 0 rfl rfl 2 (by decide) (hts _ bw_87) (fun _ h9 => h9) rfl dX2_enter_17 ?_
    refine lv_iload_n hx hb dX2_enter_20 rfl (lv_at hl 1 rfl) ?_
    refine lv_dup2_11 hx hb dX2_enter_21 rfl rfl ?_
    refine ar_ld hx hb hK hP 2 (k := kh) rfl rfl (by omega) (by decide) dX2_enter_22 ?_
    refine lv_iload_n hx hb dX2_enter_23 rfl (lv_at hl 3 rfl) ?_
    refine lv_iadd hx hb dX2_enter_24 ?_
    refine ar_st hx hb hK hP hD hS 2 (k := kh) rfl rfl (by omega) (by decide) dX2_enter_25 _ rfl (fun H locs hP hD hS => ?_)
    have hP : va_P D cl_A [ob_J st 2 [.ref wt, .ref rw, .ref al, .ref br, .ref fx], ar_I wt cI 808 (upd fwt (kh * 8 + jn) w), ar_I al cI 101 (upd fal kh ((fal kh) + w)), ar_I br cI 101 fbr] H := hP
    have hD : va_D A [ob_J st 2 [.ref wt, .ref rw, .ref al, .ref br, .ref fx], ar_I wt cI 808 (upd fwt (kh * 8 + jn) w), ar_I al cI 101 (upd fal kh ((fal kh) + w)), ar_I br cI 101 fbr] := hD
    refine lv_aload_n hx hb dX2_enter_26 rfl (lv_at hl 0 rfl) ?_
    refine va_get (ci := 2) (v := .ref br) (C := RX2) (T := TX2) (N := 5) hx hb hts bi_2 hown hK hP 0 rfl rfl 3 (by decide) (hts _ bw_89) (fun _ h9 => h9) rfl dX2_enter_27 ?_
    refine lv_iload_n hx hb dX2_enter_30 rfl (lv_at hl 1 rfl) ?_
    refine lv_dup2_11 hx hb dX2_enter_31 rfl rfl ?_
    refine ar_ld hx hb hK hP 3 (k := kh) rfl rfl (by omega) (by decide) dX2_enter_32 ?_
    refine lv_iconst (v := 1) hx hb dX2_enter_33 (by decide) ?_
    refine lv_iload_n hx hb dX2_enter_34 rfl (lv_at hl 2 rfl) ?_
    refine lv_ishl hx hb dX2_enter_35 ?_
    refine lv_ior hx hb dX2_enter_36 ?_
    refine ar_st hx hb hK hP hD hS 3 (k := kh) rfl rfl (by omega) (by decide) dX2_enter_37 _ rfl (fun H locs hP hD hS => ?_)
    have hP : va_P D cl_A [ob_J st 2 [.ref wt, .ref rw, .ref al, .ref br, .ref fx], ar_I wt cI 808 (upd fwt (kh * 8 + jn) w), ar_I al cI 101 (upd fal kh ((fal kh) + w)), ar_I br cI 101 (upd fbr kh ((fbr kh) ||| (1 <<< ((nI jn) &&& 31))))] H := hP
    have hD : va_D A [ob_J st 2 [.ref wt, .ref rw, .ref al, .ref br, .ref fx], ar_I wt cI 808 (upd fwt (kh * 8 + jn) w), ar_I al cI 101 (upd fal kh ((fal kh) + w)), ar_I br cI 101 (upd fbr kh ((fbr kh) ||| (1 <<< ((nI jn) &&& 31))))] := hD
    have q_1 : upd fwt (kh * 8 + jn) w = if 0 < w then upd fwt (kh * 8 + jn) w else fwt := (if_pos c_1).symm
    obtain ⟨hP, hD⟩ := cs_W (fun z_z => [ob_J st 2 [.ref wt, .ref rw, .ref al, .ref br, .ref fx], ar_I wt cI 808 z_z, ar_I al cI 101 (upd fal kh ((fal kh) + w)), ar_I br cI 101 (upd fbr kh ((fbr kh) ||| (1 <<< ((nI jn) &&& 31))))]) q_1 hP hD
    have q_2 : upd fal kh ((fal kh) + w) = if 0 < w then upd fal kh (fal kh + w) else fal := (if_pos c_1).symm
    obtain ⟨hP, hD⟩ := cs_W (fun z_z => [ob_J st 2 [.ref wt, .ref rw, .ref al, .ref br, .ref fx], ar_I wt cI 808 (if 0 < w then upd fwt (kh * 8 + jn) w else fwt), ar_I al cI 101 z_z, ar_I br cI 101 (upd fbr kh ((fbr kh) ||| (1 <<< ((nI jn) &&& 31))))]) q_2 hP hD
    have q_3 : upd fbr kh ((fbr kh) ||| (1 <<< ((nI jn) &&& 31))) = if 0 < w then upd fbr kh (fbr kh ||| ((1 : Int32) <<< (nI jn &&& 31))) else fbr := (if_pos c_1).symm
    obtain ⟨hP, hD⟩ := cs_W (fun z_z => [ob_J st 2 [.ref wt, .ref rw, .ref al, .ref br, .ref fx], ar_I wt cI 808 (if 0 < w then upd fwt (kh * 8 + jn) w else fwt), ar_I al cI 101 (if 0 < w then upd fal kh (fal kh + w) else fal), ar_I br cI 101 z_z]) q_3 hP hD
    exact re_V (w1 := fun u_u : Unit => [ob_J st 2 [.ref wt, .ref rw, .ref al, .ref br, .ref fx], ar_I wt cI 808 (if 0 < w then upd fwt (kh * 8 + jn) w else fwt), ar_I al cI 101 (if 0 < w then upd fal kh (fal kh + w) else fal), ar_I br cI 101 (if 0 < w then upd fbr kh (fbr kh ||| ((1 : Int32) <<< (nI jn &&& 31))) else fbr)]) hx hb hr hlk hK hS () hP hD trivial dX2_enter_38
  · have q_4 : fwt = if 0 < w then upd fwt (kh * 8 + jn) w else fwt := (if_neg c_1).symm
    obtain ⟨hP, hD⟩ := cs_W (fun z_z => [ob_J st 2 [.ref wt, .ref rw, .ref al, .ref br, .ref fx], ar_I wt cI 808 z_z, ar_I al cI 101 fal, ar_I br cI 101 fbr]) q_4 hP hD
    have q_5 : fal = if 0 < w then upd fal kh (fal kh + w) else fal := (if_neg c_1).symm
    obtain ⟨hP, hD⟩ := cs_W (fun z_z => [ob_J st 2 [.ref wt, .ref rw, .ref al, .ref br, .ref fx], ar_I wt cI 808 (if 0 < w then upd fwt (kh * 8 + jn) w else fwt), ar_I al cI 101 z_z, ar_I br cI 101 fbr]) q_5 hP hD
    have q_6 : fbr = if 0 < w then upd fbr kh (fbr kh ||| ((1 : Int32) <<< (nI jn &&& 31))) else fbr := (if_neg c_1).symm
    obtain ⟨hP, hD⟩ := cs_W (fun z_z => [ob_J st 2 [.ref wt, .ref rw, .ref al, .ref br, .ref fx], ar_I wt cI 808 (if 0 < w then upd fwt (kh * 8 + jn) w else fwt), ar_I al cI 101 (if 0 < w then upd fal kh (fal kh + w) else fal), ar_I br cI 101 z_z]) q_6 hP hD
    exact re_V (w1 := fun u_u : Unit => [ob_J st 2 [.ref wt, .ref rw, .ref al, .ref br, .ref fx], ar_I wt cI 808 (if 0 < w then upd fwt (kh * 8 + jn) w else fwt), ar_I al cI 101 (if 0 < w then upd fal kh (fal kh + w) else fal), ar_I br cI 101 (if 0 < w then upd fbr kh (fbr kh ||| ((1 : Int32) <<< (nI jn &&& 31))) else fbr)]) hx hb hr hlk hK hS () hP hD trivial dX2_enter_4

set_option maxHeartbeats 4000000 in
set_option maxRecDepth 100000 in
theorem k_X2_rewardsOf (l : Launch) (D : va_G) (cI cJ cZ : ClassId) (st : Nat) (rw : Nat) (wt : Nat) (al : Nat) (br : Nat) (fx : Nat) (frw : Nat → Int32) (kh : Nat) (hh : kh ≤ 100) : mt_I l yX2_rewardsOf cX2_rewardsOf 4 .int 1 21 D cI cJ cZ [ob_J st 2 [.ref wt, .ref rw, .ref al, .ref br, .ref fx], ar_I rw cI 808 frw] [.ref st, .int (nI kh)] (fun r (u_u : Unit) => r = sI_ (fun n => frw (kh * 8 + n)) 8) (fun u_u : Unit => [ob_J st 2 [.ref wt, .ref rw, .ref al, .ref br, .ref fx], ar_I rw cI 808 frw]) := by
  refine en_I (by decide) (Nat.le_of_ble_eq_true rfl) ?_
  intro p e s m below meth c A ls H locs hx hb hr hml hts hown hlk hN hK hA hP hD hS hl
  have hown : s.vm.findClass RX2 = some m.cls := hown
  have hl : lv_has ls 4 [(0, .ref st), (1, .int (nI kh))] := hl
  refine lv_iconst (v := 0) hx hb dX2_rewardsOf_0 (by decide) ?_
  refine lv_istore_n (lv' := [(2, .int 0), (0, .ref st), (1, .int (nI kh))]) hx hb dX2_rewardsOf_1 rfl hl (by decide) rfl (fun ls hl => ?_)
  refine lv_iconst (v := 0) hx hb dX2_rewardsOf_2 (by decide) ?_
  refine lv_istore_n (lv' := [(3, .int 0), (2, .int 0), (0, .ref st), (1, .int (nI kh))]) hx hb dX2_rewardsOf_3 rfl hl (by decide) rfl (fun ls hl => ?_)
  have hl := lv_sub (l' := [(0, .ref st), (1, .int (nI kh)), (2, .int 0), (3, .int 0)]) hl [2, 3, 1, 0] rfl
  have q_1 : 0 = sI_ (fun n => frw (kh * 8 + n)) 0 := rfl
  have hl := cs_L (fun z_z => [(0, .ref st), (1, .int (nI kh)), (2, .int z_z), (3, .int 0)]) q_1 hl
  have q_2 : 0 = nI 0 := rfl
  have hl := cs_L (fun z_z => [(0, .ref st), (1, .int (nI kh)), (2, .int (sI_ (fun n => frw (kh * 8 + n)) 0)), (3, .int z_z)]) q_2 hl
  have hl : lv_has ls 4 [(0, .ref st), (1, .int (nI kh)), (2, .int (sI_ (fun n => frw (kh * 8 + n)) 0)), (3, .int (nI 0))] := hl
  refine lp_g (σ := Nat) (fun i => 8 - i) (fun i => [ob_J st 2 [.ref wt, .ref rw, .ref al, .ref br, .ref fx], ar_I rw cI 808 frw]) (fun i => [(0, .ref st), (1, .int (nI kh)), (2, .int (sI_ (fun n => frw (kh * 8 + n)) i)), (3, .int (nI i))]) (fun i => (i ≤ 8)) ?_ 0 (show (0 ≤ 8) from by omega) hP hD hS hl
  intro i H locs ls hF hP hD hS hl ih_4
  have hF : (i ≤ 8) := hF
  have hi := hF
  have hP : va_P D cl_A [ob_J st 2 [.ref wt, .ref rw, .ref al, .ref br, .ref fx], ar_I rw cI 808 frw] H := hP
  have hD : va_D A [ob_J st 2 [.ref wt, .ref rw, .ref al, .ref br, .ref fx], ar_I rw cI 808 frw] := hD
  have hl : lv_has ls 4 [(0, .ref st), (1, .int (nI kh)), (2, .int (sI_ (fun n => frw (kh * 8 + n)) i)), (3, .int (nI i))] := hl
  refine lv_iload_n hx hb dX2_rewardsOf_4 rfl (lv_at hl 3 rfl) ?_
  refine lv_bipush (v := 8) hx hb dX2_rewardsOf_5 (by decide) ?_
  refine lv_icmp_ge (tgt := 29) hx hb dX2_rewardsOf_7 (by decide) (fun c_7 => ?_) (fun c_7 => ?_)
  · have c_7 := qq_ge (a := i) (b := 8) c_7 (by omega) (by omega)
    refine lv_iload_n hx hb dX2_rewardsOf_29 rfl (lv_at hl 2 rfl) ?_
    exact re_I (w1 := fun u_u : Unit => [ob_J st 2 [.ref wt, .ref rw, .ref al, .ref br, .ref fx], ar_I rw cI 808 frw]) (v := sI_ (fun n => frw (kh * 8 + n)) i) hx hb hr hlk hK hS rfl () hP hD (show sI_ (fun n => frw (kh * 8 + n)) i = sI_ (fun n => frw (kh * 8 + n)) 8 from by rw [show i = 8 by omega]) dX2_rewardsOf_30
  · have c_7 := qq_nge (a := i) (b := 8) c_7 (by omega) (by omega)
    refine lv_iload_n hx hb dX2_rewardsOf_10 rfl (lv_at hl 2 rfl) ?_
    refine lv_aload_n hx hb dX2_rewardsOf_11 rfl (lv_at hl 0 rfl) ?_
    refine va_get (ci := 2) (v := .ref rw) (C := RX2) (T := TX2) (N := 5) hx hb hts bi_2 hown hK hP 0 rfl rfl 1 (by decide) (hts _ bw_85) (fun _ h9 => h9) rfl dX2_rewardsOf_12 ?_
    refine lv_iload_n hx hb dX2_rewardsOf_15 rfl (lv_at hl 1 rfl) ?_
    refine lv_iload_n hx hb dX2_rewardsOf_16 rfl (lv_at hl 3 rfl) ?_
    refine ca_NI (rest := [.ref rw, .int (sI_ (fun n => frw (kh * 8 + n)) i)]) (k_X5_setPlace l D cI cJ cZ kh i ) hx hb hml hown hts hN hK hA hP hD hS hN.2.2.1 bw_229 bw_1 bw_230 2 rfl (by decide +kernel) ⟨by decide, by decide⟩ hl.1 rfl (Nat.le_of_ble_eq_true rfl) dX2_rewardsOf_17 ⟨Nat.zero_le _, Nat.zero_le _⟩ (fun r_17 u_u H locs w_17 hP hD hS => ?_)
    have w_17 : r_17 = nI (kh * 8 + i) := w_17
    subst w_17
    refine ar_ld hx hb hK hP 1 (k := kh * 8 + i) rfl rfl (by omega) (by decide) dX2_rewardsOf_20 ?_
    refine lv_iadd hx hb dX2_rewardsOf_21 ?_
    refine lv_istore_n (lv' := [(2, .int ((sI_ (fun n => frw (kh * 8 + n)) i) + (frw (kh * 8 + i)))), (0, .ref st), (1, .int (nI kh)), (3, .int (nI i))]) hx hb dX2_rewardsOf_22 rfl hl (by decide) rfl (fun ls hl => ?_)
    refine lv_iinc (v := nI (i + 1)) (lv' := [(3, .int (nI (i + 1))), (2, .int ((sI_ (fun n => frw (kh * 8 + n)) i) + (frw (kh * 8 + i)))), (0, .ref st), (1, .int (nI kh))]) hx hb dX2_rewardsOf_23 hl (k := 3) rfl (nI_1 _) (by decide) rfl (fun ls hl => ?_)
    refine lv_goto (tgt := 4) hx hb dX2_rewardsOf_26 (by decide) ?_
    have hl := lv_sub (l' := [(0, .ref st), (1, .int (nI kh)), (2, .int ((sI_ (fun n => frw (kh * 8 + n)) i) + (frw (kh * 8 + i)))), (3, .int (nI (i + 1)))]) hl [2, 3, 1, 0] rfl
    have q_3 : (sI_ (fun n => frw (kh * 8 + n)) i) + (frw (kh * 8 + i)) = sI_ (fun n => frw (kh * 8 + n)) (i + 1) := rfl
    have hl := cs_L (fun z_z => [(0, .ref st), (1, .int (nI kh)), (2, .int z_z), (3, .int (nI (i + 1)))]) q_3 hl
    have hl : lv_has ls 4 [(0, .ref st), (1, .int (nI kh)), (2, .int (sI_ (fun n => frw (kh * 8 + n)) (i + 1))), (3, .int (nI (i + 1)))] := hl
    exact ih_4 (i + 1) (show 8 - (i + 1) < 8 - i from by omega) (show ((i + 1) ≤ 8) from by omega) H locs ls hP hD hS hl

set_option maxHeartbeats 4000000 in
set_option maxRecDepth 100000 in
theorem k_X2_weightOf (l : Launch) (D : va_G) (cI cJ cZ : ClassId) (st : Nat) (wt : Nat) (rw : Nat) (al : Nat) (br : Nat) (fx : Nat) (fwt : Nat → Int32) (kh : Nat) (b : Nat) (hh : kh ≤ 100) (hbb : b < 256) : mt_I l yX2_weightOf cX2_weightOf 5 .int 1 21 D cI cJ cZ [ob_J st 2 [.ref wt, .ref rw, .ref al, .ref br, .ref fx], ar_I wt cI 808 fwt] [.ref st, .int (nI kh), .int (nI b)] (fun r (u_u : Unit) => r = wo_ fwt kh b 8) (fun u_u : Unit => [ob_J st 2 [.ref wt, .ref rw, .ref al, .ref br, .ref fx], ar_I wt cI 808 fwt]) := by
  refine en_I (by decide) (Nat.le_of_ble_eq_true rfl) ?_
  intro p e s m below meth c A ls H locs hx hb hr hml hts hown hlk hN hK hA hP hD hS hl
  have hown : s.vm.findClass RX2 = some m.cls := hown
  have hl : lv_has ls 5 [(0, .ref st), (1, .int (nI kh)), (2, .int (nI b))] := hl
  refine lv_iconst (v := 0) hx hb dX2_weightOf_0 (by decide) ?_
  refine lv_istore_n (lv' := [(3, .int 0), (0, .ref st), (1, .int (nI kh)), (2, .int (nI b))]) hx hb dX2_weightOf_1 rfl hl (by decide) rfl (fun ls hl => ?_)
  refine lv_iconst (v := 0) hx hb dX2_weightOf_2 (by decide) ?_
  refine lv_istore (lv' := [(4, .int 0), (3, .int 0), (0, .ref st), (1, .int (nI kh)), (2, .int (nI b))]) hx hb dX2_weightOf_3 hl (by decide) rfl (fun ls hl => ?_)
  have hl := lv_sub (l' := [(0, .ref st), (1, .int (nI kh)), (2, .int (nI b)), (3, .int 0), (4, .int 0)]) hl [2, 3, 4, 1, 0] rfl
  have q_1 : 0 = wo_ fwt kh b 0 := rfl
  have hl := cs_L (fun z_z => [(0, .ref st), (1, .int (nI kh)), (2, .int (nI b)), (3, .int z_z), (4, .int 0)]) q_1 hl
  have q_2 : 0 = nI 0 := rfl
  have hl := cs_L (fun z_z => [(0, .ref st), (1, .int (nI kh)), (2, .int (nI b)), (3, .int (wo_ fwt kh b 0)), (4, .int z_z)]) q_2 hl
  have hl : lv_has ls 5 [(0, .ref st), (1, .int (nI kh)), (2, .int (nI b)), (3, .int (wo_ fwt kh b 0)), (4, .int (nI 0))] := hl
  refine lp_g (σ := Nat) (fun i => 8 - i) (fun i => [ob_J st 2 [.ref wt, .ref rw, .ref al, .ref br, .ref fx], ar_I wt cI 808 fwt]) (fun i => [(0, .ref st), (1, .int (nI kh)), (2, .int (nI b)), (3, .int (wo_ fwt kh b i)), (4, .int (nI i))]) (fun i => (i ≤ 8)) ?_ 0 (show (0 ≤ 8) from by omega) hP hD hS hl
  intro i H locs ls hF hP hD hS hl ih_5
  have hF : (i ≤ 8) := hF
  have hi := hF
  have hP : va_P D cl_A [ob_J st 2 [.ref wt, .ref rw, .ref al, .ref br, .ref fx], ar_I wt cI 808 fwt] H := hP
  have hD : va_D A [ob_J st 2 [.ref wt, .ref rw, .ref al, .ref br, .ref fx], ar_I wt cI 808 fwt] := hD
  have hl : lv_has ls 5 [(0, .ref st), (1, .int (nI kh)), (2, .int (nI b)), (3, .int (wo_ fwt kh b i)), (4, .int (nI i))] := hl
  refine lv_iload hx hb dX2_weightOf_5 (lv_at hl 4 rfl) ?_
  refine lv_bipush (v := 8) hx hb dX2_weightOf_7 (by decide) ?_
  refine lv_icmp_ge (tgt := 41) hx hb dX2_weightOf_9 (by decide) (fun c_9 => ?_) (fun c_9 => ?_)
  · have c_9 := qq_ge (a := i) (b := 8) c_9 (by omega) (by omega)
    refine lv_iload_n hx hb dX2_weightOf_41 rfl (lv_at hl 3 rfl) ?_
    exact re_I (w1 := fun u_u : Unit => [ob_J st 2 [.ref wt, .ref rw, .ref al, .ref br, .ref fx], ar_I wt cI 808 fwt]) (v := wo_ fwt kh b i) hx hb hr hlk hK hS rfl () hP hD (show wo_ fwt kh b i = wo_ fwt kh b 8 from by rw [show i = 8 by omega]) dX2_weightOf_42
  · have c_9 := qq_nge (a := i) (b := 8) c_9 (by omega) (by omega)
    refine lv_iload_n hx hb dX2_weightOf_12 rfl (lv_at hl 2 rfl) ?_
    refine lv_iload hx hb dX2_weightOf_13 (lv_at hl 4 rfl) ?_
    refine lv_iushr hx hb dX2_weightOf_15 rfl ?_
    refine lv_iconst (v := 1) hx hb dX2_weightOf_16 (by decide) ?_
    refine lv_iand hx hb dX2_weightOf_17 ?_
    refine tp_i (x' := nI (bt_ b i)) (bt_u hbb (by omega)) ?_
    have hbt := bt_lt b i
    refine lv_if_eq (tgt := 35) hx hb dX2_weightOf_18 (by decide) (fun c_18 => ?_) (fun c_18 => ?_)
    · have c_18 := qq_eq (a := bt_ b i) (b := 0) c_18 (by omega) (by omega)
      refine lv_iinc (v := nI (i + 1)) (lv' := [(4, .int (nI (i + 1))), (0, .ref st), (1, .int (nI kh)), (2, .int (nI b)), (3, .int (wo_ fwt kh b i))]) hx hb dX2_weightOf_35 hl (k := 4) rfl (nI_1 _) (by decide) rfl (fun ls hl => ?_)
      refine lv_goto (tgt := 5) hx hb dX2_weightOf_38 (by decide) ?_
      have hl := lv_sub (l' := [(0, .ref st), (1, .int (nI kh)), (2, .int (nI b)), (3, .int (wo_ fwt kh b i)), (4, .int (nI (i + 1)))]) hl [1, 2, 3, 4, 0] rfl
      have q_3 : wo_ fwt kh b i = wo_ fwt kh b (i + 1) := by simp [wo_, c_18]
      have hl := cs_L (fun z_z => [(0, .ref st), (1, .int (nI kh)), (2, .int (nI b)), (3, .int z_z), (4, .int (nI (i + 1)))]) q_3 hl
      have hl : lv_has ls 5 [(0, .ref st), (1, .int (nI kh)), (2, .int (nI b)), (3, .int (wo_ fwt kh b (i + 1))), (4, .int (nI (i + 1)))] := hl
      exact ih_5 (i + 1) (show 8 - (i + 1) < 8 - i from by omega) (show ((i + 1) ≤ 8) from by omega) H locs ls hP hD hS hl
    · have c_18 := qq_ne (a := bt_ b i) (b := 0) c_18 (by omega) (by omega)
      refine lv_iload_n hx hb dX2_weightOf_21 rfl (lv_at hl 3 rfl) ?_
      refine lv_aload_n hx hb dX2_weightOf_22 rfl (lv_at hl 0 rfl) ?_
      refine va_get (ci := 2) (v := .ref wt) (C := RX2) (T := TX2) (N := 5) hx hb hts bi_2 hown hK hP 0 rfl rfl 0 (by decide) (hts _ bw_83) (fun _ h9 => h9) rfl dX2_weightOf_23 ?_
      refine lv_iload_n hx hb dX2_weightOf_26 rfl (lv_at hl 1 rfl) ?_
      refine lv_iload hx hb dX2_weightOf_27 (lv_at hl 4 rfl) ?_
      refine ca_NI (rest := [.ref wt, .int (wo_ fwt kh b i)]) (k_X5_setPlace l D cI cJ cZ kh i ) hx hb hml hown hts hN hK hA hP hD hS hN.2.2.1 bw_229 bw_1 bw_230 2 rfl (by decide +kernel) ⟨by decide, by decide⟩ hl.1 rfl (Nat.le_of_ble_eq_true rfl) dX2_weightOf_29 ⟨Nat.zero_le _, Nat.zero_le _⟩ (fun r_29 u_u H locs w_29 hP hD hS => ?_)
      have w_29 : r_29 = nI (kh * 8 + i) := w_29
      subst w_29
      refine ar_ld hx hb hK hP 1 (k := kh * 8 + i) rfl rfl (by omega) (by decide) dX2_weightOf_32 ?_
      refine lv_iadd hx hb dX2_weightOf_33 ?_
      refine lv_istore_n (lv' := [(3, .int ((wo_ fwt kh b i) + (fwt (kh * 8 + i)))), (0, .ref st), (1, .int (nI kh)), (2, .int (nI b)), (4, .int (nI i))]) hx hb dX2_weightOf_34 rfl hl (by decide) rfl (fun ls hl => ?_)
      refine lv_iinc (v := nI (i + 1)) (lv' := [(4, .int (nI (i + 1))), (3, .int ((wo_ fwt kh b i) + (fwt (kh * 8 + i)))), (0, .ref st), (1, .int (nI kh)), (2, .int (nI b))]) hx hb dX2_weightOf_35 hl (k := 4) rfl (nI_1 _) (by decide) rfl (fun ls hl => ?_)
      refine lv_goto (tgt := 5) hx hb dX2_weightOf_38 (by decide) ?_
      have hl := lv_sub (l' := [(0, .ref st), (1, .int (nI kh)), (2, .int (nI b)), (3, .int ((wo_ fwt kh b i) + (fwt (kh * 8 + i)))), (4, .int (nI (i + 1)))]) hl [2, 3, 4, 1, 0] rfl
      have q_4 : (wo_ fwt kh b i) + (fwt (kh * 8 + i)) = wo_ fwt kh b (i + 1) := by simp [wo_, c_18]
      have hl := cs_L (fun z_z => [(0, .ref st), (1, .int (nI kh)), (2, .int (nI b)), (3, .int z_z), (4, .int (nI (i + 1)))]) q_4 hl
      have hl : lv_has ls 5 [(0, .ref st), (1, .int (nI kh)), (2, .int (nI b)), (3, .int (wo_ fwt kh b (i + 1))), (4, .int (nI (i + 1)))] := hl
      exact ih_5 (i + 1) (show 8 - (i + 1) < 8 - i from by omega) (show ((i + 1) ≤ 8) from by omega) H locs ls hP hD hS hl

set_option maxHeartbeats 4000000 in
set_option maxRecDepth 100000 in
theorem k_X2_commonWeight (l : Launch) (D : va_G) (cI cJ cZ : ClassId) (st : Nat) (wt : Nat) (rw : Nat) (al : Nat) (br : Nat) (fx : Nat) (fwt : Nat → Int32) (ka : Nat) (kb : Nat) (ha : ka ≤ 100) (hb_ : kb ≤ 100) : mt_I l yX2_commonWeight cX2_commonWeight 5 .int 1 30 D cI cJ cZ [ob_J st 2 [.ref wt, .ref rw, .ref al, .ref br, .ref fx], ar_I wt cI 808 fwt] [.ref st, .int (nI ka), .int (nI kb)] (fun r (u_u : Unit) => r = sI_ (fun n => if fwt (kb * 8 + n) < fwt (ka * 8 + n) then fwt (kb * 8 + n) else fwt (ka * 8 + n)) 8) (fun u_u : Unit => [ob_J st 2 [.ref wt, .ref rw, .ref al, .ref br, .ref fx], ar_I wt cI 808 fwt]) := by
  refine en_I (by decide) (Nat.le_of_ble_eq_true rfl) ?_
  intro p e s m below meth c A ls H locs hx hb hr hml hts hown hlk hN hK hA hP hD hS hl
  have hown : s.vm.findClass RX2 = some m.cls := hown
  have hl : lv_has ls 5 [(0, .ref st), (1, .int (nI ka)), (2, .int (nI kb))] := hl
  refine lv_iconst (v := 0) hx hb dX2_commonWeight_0 (by decide) ?_
  refine lv_istore_n (lv' := [(3, .int 0), (0, .ref st), (1, .int (nI ka)), (2, .int (nI kb))]) hx hb dX2_commonWeight_1 rfl hl (by decide) rfl (fun ls hl => ?_)
  refine lv_iconst (v := 0) hx hb dX2_commonWeight_2 (by decide) ?_
  refine lv_istore (lv' := [(4, .int 0), (3, .int 0), (0, .ref st), (1, .int (nI ka)), (2, .int (nI kb))]) hx hb dX2_commonWeight_3 hl (by decide) rfl (fun ls hl => ?_)
  have hl := lv_sub (l' := [(0, .ref st), (1, .int (nI ka)), (2, .int (nI kb)), (3, .int 0), (4, .int 0)]) hl [2, 3, 4, 1, 0] rfl
  have q_1 : 0 = sI_ (fun n => if fwt (kb * 8 + n) < fwt (ka * 8 + n) then fwt (kb * 8 + n) else fwt (ka * 8 + n)) 0 := rfl
  have hl := cs_L (fun z_z => [(0, .ref st), (1, .int (nI ka)), (2, .int (nI kb)), (3, .int z_z), (4, .int 0)]) q_1 hl
  have q_2 : 0 = nI 0 := rfl
  have hl := cs_L (fun z_z => [(0, .ref st), (1, .int (nI ka)), (2, .int (nI kb)), (3, .int (sI_ (fun n => if fwt (kb * 8 + n) < fwt (ka * 8 + n) then fwt (kb * 8 + n) else fwt (ka * 8 + n)) 0)), (4, .int z_z)]) q_2 hl
  have hl : lv_has ls 5 [(0, .ref st), (1, .int (nI ka)), (2, .int (nI kb)), (3, .int (sI_ (fun n => if fwt (kb * 8 + n) < fwt (ka * 8 + n) then fwt (kb * 8 + n) else fwt (ka * 8 + n)) 0)), (4, .int (nI 0))] := hl
  refine lp_g (σ := Nat) (fun i => 8 - i) (fun i => [ob_J st 2 [.ref wt, .ref rw, .ref al, .ref br, .ref fx], ar_I wt cI 808 fwt]) (fun i => [(0, .ref st), (1, .int (nI ka)), (2, .int (nI kb)), (3, .int (sI_ (fun n => if fwt (kb * 8 + n) < fwt (ka * 8 + n) then fwt (kb * 8 + n) else fwt (ka * 8 + n)) i)), (4, .int (nI i))]) (fun i => (i ≤ 8)) ?_ 0 (show (0 ≤ 8) from by omega) hP hD hS hl
  intro i H locs ls hF hP hD hS hl ih_5
  have hF : (i ≤ 8) := hF
  have hi := hF
  have hP : va_P D cl_A [ob_J st 2 [.ref wt, .ref rw, .ref al, .ref br, .ref fx], ar_I wt cI 808 fwt] H := hP
  have hD : va_D A [ob_J st 2 [.ref wt, .ref rw, .ref al, .ref br, .ref fx], ar_I wt cI 808 fwt] := hD
  have hl : lv_has ls 5 [(0, .ref st), (1, .int (nI ka)), (2, .int (nI kb)), (3, .int (sI_ (fun n => if fwt (kb * 8 + n) < fwt (ka * 8 + n) then fwt (kb * 8 + n) else fwt (ka * 8 + n)) i)), (4, .int (nI i))] := hl
  refine lv_iload hx hb dX2_commonWeight_5 (lv_at hl 4 rfl) ?_
  refine lv_bipush (v := 8) hx hb dX2_commonWeight_7 (by decide) ?_
  refine lv_icmp_ge (tgt := 46) hx hb dX2_commonWeight_9 (by decide) (fun c_9 => ?_) (fun c_9 => ?_)
  · have c_9 := qq_ge (a := i) (b := 8) c_9 (by omega) (by omega)
    refine lv_iload_n hx hb dX2_commonWeight_46 rfl (lv_at hl 3 rfl) ?_
    exact re_I (w1 := fun u_u : Unit => [ob_J st 2 [.ref wt, .ref rw, .ref al, .ref br, .ref fx], ar_I wt cI 808 fwt]) (v := sI_ (fun n => if fwt (kb * 8 + n) < fwt (ka * 8 + n) then fwt (kb * 8 + n) else fwt (ka * 8 + n)) i) hx hb hr hlk hK hS rfl () hP hD (show sI_ (fun n => if fwt (kb * 8 + n) < fwt (ka * 8 + n) then fwt (kb * 8 + n) else fwt (ka * 8 + n)) i = sI_ (fun n => if fwt (kb * 8 + n) < fwt (ka * 8 + n) then fwt (kb * 8 + n) else fwt (ka * 8 + n)) 8 from by rw [show i = 8 by omega]) dX2_commonWeight_47
  · have c_9 := qq_nge (a := i) (b := 8) c_9 (by omega) (by omega)
    refine lv_iload_n hx hb dX2_commonWeight_12 rfl (lv_at hl 3 rfl) ?_
    refine lv_aload_n hx hb dX2_commonWeight_13 rfl (lv_at hl 0 rfl) ?_
    refine va_get (ci := 2) (v := .ref wt) (C := RX2) (T := TX2) (N := 5) hx hb hts bi_2 hown hK hP 0 rfl rfl 0 (by decide) (hts _ bw_83) (fun _ h9 => h9) rfl dX2_commonWeight_14 ?_
    refine lv_iload_n hx hb dX2_commonWeight_17 rfl (lv_at hl 1 rfl) ?_
    refine lv_iload hx hb dX2_commonWeight_18 (lv_at hl 4 rfl) ?_
    refine ca_NI (rest := [.ref wt, .int (sI_ (fun n => if fwt (kb * 8 + n) < fwt (ka * 8 + n) then fwt (kb * 8 + n) else fwt (ka * 8 + n)) i)]) (k_X5_setPlace l D cI cJ cZ ka i ) hx hb hml hown hts hN hK hA hP hD hS hN.2.2.1 bw_229 bw_1 bw_230 2 rfl (by decide +kernel) ⟨by decide, by decide⟩ hl.1 rfl (Nat.le_of_ble_eq_true rfl) dX2_commonWeight_20 ⟨Nat.zero_le _, Nat.zero_le _⟩ (fun r_20 u_u H locs w_20 hP hD hS => ?_)
    have w_20 : r_20 = nI (ka * 8 + i) := w_20
    subst w_20
    refine ar_ld hx hb hK hP 1 (k := ka * 8 + i) rfl rfl (by omega) (by decide) dX2_commonWeight_23 ?_
    refine lv_aload_n hx hb dX2_commonWeight_24 rfl (lv_at hl 0 rfl) ?_
    refine va_get (ci := 2) (v := .ref wt) (C := RX2) (T := TX2) (N := 5) hx hb hts bi_2 hown hK hP 0 rfl rfl 0 (by decide) (hts _ bw_83) (fun _ h9 => h9) rfl dX2_commonWeight_25 ?_
    refine lv_iload_n hx hb dX2_commonWeight_28 rfl (lv_at hl 2 rfl) ?_
    refine lv_iload hx hb dX2_commonWeight_29 (lv_at hl 4 rfl) ?_
    refine ca_NI (rest := [.ref wt, .int (fwt (ka * 8 + i)), .int (sI_ (fun n => if fwt (kb * 8 + n) < fwt (ka * 8 + n) then fwt (kb * 8 + n) else fwt (ka * 8 + n)) i)]) (k_X5_setPlace l D cI cJ cZ kb i ) hx hb hml hown hts hN hK hA hP hD hS hN.2.2.1 bw_229 bw_1 bw_230 2 rfl (by decide +kernel) ⟨by decide, by decide⟩ hl.1 rfl (Nat.le_of_ble_eq_true rfl) dX2_commonWeight_31 ⟨Nat.zero_le _, Nat.zero_le _⟩ (fun r_31 u_u H locs w_31 hP hD hS => ?_)
    have w_31 : r_31 = nI (kb * 8 + i) := w_31
    subst w_31
    refine ar_ld hx hb hK hP 1 (k := kb * 8 + i) rfl rfl (by omega) (by decide) dX2_commonWeight_34 ?_
    refine va_mmin hx hb (hml.trans hl.1.symm) hown (hts _ bw_358) (hts _ bw_274) (hts _ bw_9) (hts _ bw_275) (by decide) (Nat.le_of_ble_eq_true rfl) (Nat.zero_le _) (Nat.zero_le _) dX2_commonWeight_35 ?_
    refine lv_iadd hx hb dX2_commonWeight_38 ?_
    refine lv_istore_n (lv' := [(3, .int ((sI_ (fun n => if fwt (kb * 8 + n) < fwt (ka * 8 + n) then fwt (kb * 8 + n) else fwt (ka * 8 + n)) i) + (if fwt (kb * 8 + i) < fwt (ka * 8 + i) then fwt (kb * 8 + i) else fwt (ka * 8 + i)))), (0, .ref st), (1, .int (nI ka)), (2, .int (nI kb)), (4, .int (nI i))]) hx hb dX2_commonWeight_39 rfl hl (by decide) rfl (fun ls hl => ?_)
    refine lv_iinc (v := nI (i + 1)) (lv' := [(4, .int (nI (i + 1))), (3, .int ((sI_ (fun n => if fwt (kb * 8 + n) < fwt (ka * 8 + n) then fwt (kb * 8 + n) else fwt (ka * 8 + n)) i) + (if fwt (kb * 8 + i) < fwt (ka * 8 + i) then fwt (kb * 8 + i) else fwt (ka * 8 + i)))), (0, .ref st), (1, .int (nI ka)), (2, .int (nI kb))]) hx hb dX2_commonWeight_40 hl (k := 4) rfl (nI_1 _) (by decide) rfl (fun ls hl => ?_)
    refine lv_goto (tgt := 5) hx hb dX2_commonWeight_43 (by decide) ?_
    have hl := lv_sub (l' := [(0, .ref st), (1, .int (nI ka)), (2, .int (nI kb)), (3, .int ((sI_ (fun n => if fwt (kb * 8 + n) < fwt (ka * 8 + n) then fwt (kb * 8 + n) else fwt (ka * 8 + n)) i) + (if fwt (kb * 8 + i) < fwt (ka * 8 + i) then fwt (kb * 8 + i) else fwt (ka * 8 + i)))), (4, .int (nI (i + 1)))]) hl [2, 3, 4, 1, 0] rfl
    have q_3 : (sI_ (fun n => if fwt (kb * 8 + n) < fwt (ka * 8 + n) then fwt (kb * 8 + n) else fwt (ka * 8 + n)) i) + (if fwt (kb * 8 + i) < fwt (ka * 8 + i) then fwt (kb * 8 + i) else fwt (ka * 8 + i)) = sI_ (fun n => if fwt (kb * 8 + n) < fwt (ka * 8 + n) then fwt (kb * 8 + n) else fwt (ka * 8 + n)) (i + 1) := rfl
    have hl := cs_L (fun z_z => [(0, .ref st), (1, .int (nI ka)), (2, .int (nI kb)), (3, .int z_z), (4, .int (nI (i + 1)))]) q_3 hl
    have hl : lv_has ls 5 [(0, .ref st), (1, .int (nI ka)), (2, .int (nI kb)), (3, .int (sI_ (fun n => if fwt (kb * 8 + n) < fwt (ka * 8 + n) then fwt (kb * 8 + n) else fwt (ka * 8 + n)) (i + 1))), (4, .int (nI (i + 1)))] := hl
    exact ih_5 (i + 1) (show 8 - (i + 1) < 8 - i from by omega) (show ((i + 1) ≤ 8) from by omega) H locs ls hP hD hS hl

set_option maxHeartbeats 4000000 in
set_option maxRecDepth 100000 in
theorem k_X2_isGood (l : Launch) (D : va_G) (cI cJ cZ : ClassId) (st : Nat) (wt : Nat) (al : Nat) (rw : Nat) (br : Nat) (fx : Nat) (fwt : Nat → Int32) (fal : Nat → Int32) (kh : Nat) (b : Nat) (hh : kh ≤ 100) (hbb : b < 256) : mt_I l yX2_isGood cX2_isGood 3 .boolean 2 45 D cI cJ cZ [ob_J st 2 [.ref wt, .ref rw, .ref al, .ref br, .ref fx], ar_I wt cI 808 fwt, ar_I al cI 101 fal] [.ref st, .int (nI kh), .int (nI b)] (fun r (_ : Unit) => r = if 2 * fal kh < 3 * wo_ fwt kh b 8 then 1 else 0) (fun u_u : Unit => [ob_J st 2 [.ref wt, .ref rw, .ref al, .ref br, .ref fx], ar_I wt cI 808 fwt, ar_I al cI 101 fal]) := by
  refine en_I (by decide) (Nat.le_of_ble_eq_true rfl) ?_
  intro p e s m below meth c A ls H locs hx hb hr hml hts hown hlk hN hK hA hP hD hS hl
  have hown : s.vm.findClass RX2 = some m.cls := hown
  have hl : lv_has ls 3 [(0, .ref st), (1, .int (nI kh)), (2, .int (nI b))] := hl
  refine lv_iconst (v := 3) hx hb dX2_isGood_0 (by decide) ?_
  refine lv_aload_n hx hb dX2_isGood_1 rfl (lv_at hl 0 rfl) ?_
  refine lv_iload_n hx hb dX2_isGood_2 rfl (lv_at hl 1 rfl) ?_
  refine lv_iload_n hx hb dX2_isGood_3 rfl (lv_at hl 2 rfl) ?_
  refine ca_VI (rest := [.int 3]) (wr := [ar_I al cI 101 fal]) (w2 := fun u_u => [ob_J st 2 [.ref wt, .ref rw, .ref al, .ref br, .ref fx], ar_I wt cI 808 fwt, ar_I al cI 101 fal]) (k_X2_weightOf l D cI cJ cZ st wt rw al br fx fwt kh b (by first | assumption | omega) (by first | assumption | omega)) hx hb hml hown hts hN hK hA hP hD hS 2 0 rfl rfl bw_333 bw_334 bw_335 bw_4 bw_336 2 rfl (by decide +kernel) ⟨by decide, by decide⟩ [0, 1] [2] [1, 2, 0] rfl rfl (by decide) (fun _ => rfl) hl.1 rfl (Nat.le_of_ble_eq_true rfl) dX2_isGood_4 ⟨Nat.zero_le _, Nat.zero_le _⟩ (fun r_4 u_u H locs w_4 hP hD hS => ?_)
  have hP : va_P D cl_A [ob_J st 2 [.ref wt, .ref rw, .ref al, .ref br, .ref fx], ar_I wt cI 808 fwt, ar_I al cI 101 fal] H := hP
  have hD : va_D A [ob_J st 2 [.ref wt, .ref rw, .ref al, .ref br, .ref fx], ar_I wt cI 808 fwt, ar_I al cI 101 fal] := hD
  have w_4 : r_4 = wo_ fwt kh b 8 := w_4
  subst w_4
  refine lv_imul hx hb dX2_isGood_7 ?_
  refine lv_iconst (v := 2) hx hb dX2_isGood_8 (by decide) ?_
  refine lv_aload_n hx hb dX2_isGood_9 rfl (lv_at hl 0 rfl) ?_
  refine va_get (ci := 2) (v := .ref al) (C := RX2) (T := TX2) (N := 5) hx hb hts bi_2 hown hK hP 0 rfl rfl 2 (by decide) (hts _ bw_87) (fun _ h9 => h9) rfl dX2_isGood_10 ?_
  refine lv_iload_n hx hb dX2_isGood_13 rfl (lv_at hl 1 rfl) ?_
  refine ar_ld hx hb hK hP 2 (k := kh) rfl rfl (by omega) (by decide) dX2_isGood_14 ?_
  refine lv_imul hx hb dX2_isGood_15 ?_
  refine lv_icmp_le (tgt := 23) hx hb dX2_isGood_16 (by decide) (fun c_16 => ?_) (fun c_16 => ?_)
  · refine lv_iconst (v := 0) hx hb dX2_isGood_23 (by decide) ?_
    exact re_I (w1 := fun u_u : Unit => [ob_J st 2 [.ref wt, .ref rw, .ref al, .ref br, .ref fx], ar_I wt cI 808 fwt, ar_I al cI 101 fal]) (v := 0) hx hb hr hlk hK hS rfl () hP hD (show _ = if 2 * fal kh < 3 * wo_ fwt kh b 8 then _ else _ from (if_neg (Int32.not_lt.mpr c_16)).symm) dX2_isGood_24
  · refine lv_iconst (v := 1) hx hb dX2_isGood_19 (by decide) ?_
    refine lv_goto (tgt := 24) hx hb dX2_isGood_20 (by decide) ?_
    exact re_I (w1 := fun u_u : Unit => [ob_J st 2 [.ref wt, .ref rw, .ref al, .ref br, .ref fx], ar_I wt cI 808 fwt, ar_I al cI 101 fal]) (v := 1) hx hb hr hlk hK hS rfl () hP hD (show _ = if 2 * fal kh < 3 * wo_ fwt kh b 8 then _ else _ from (if_pos (Int32.not_le.mp c_16)).symm) dX2_isGood_24

set_option maxHeartbeats 4000000 in
set_option maxRecDepth 100000 in
theorem k_X2_allowsJump (l : Launch) (D : va_G) (cI cJ cZ : ClassId) (st : Nat) (wt : Nat) (al : Nat) (rw : Nat) (br : Nat) (fx : Nat) (fwt : Nat → Int32) (fal : Nat → Int32) (kf : Nat) (kt : Nat) (b : Nat) (hf : kf ≤ 100) (ht : kt ≤ 100) (hbb : b < 256) : mt_I l yX2_allowsJump cX2_allowsJump 4 .boolean 3 67 D cI cJ cZ [ob_J st 2 [.ref wt, .ref rw, .ref al, .ref br, .ref fx], ar_I wt cI 808 fwt, ar_I al cI 101 fal] [.ref st, .int (nI kf), .int (nI kt), .int (nI b)] (fun r (_ : Unit) => r = if 2 * fal kt < 3 * wo_ fwt kt b 8 ∧ fal kf < 3 * wo_ fwt kf b 8 then 1 else 0) (fun u_u : Unit => [ob_J st 2 [.ref wt, .ref rw, .ref al, .ref br, .ref fx], ar_I wt cI 808 fwt, ar_I al cI 101 fal]) := by
  refine en_I (by decide) (Nat.le_of_ble_eq_true rfl) ?_
  intro p e s m below meth c A ls H locs hx hb hr hml hts hown hlk hN hK hA hP hD hS hl
  have hown : s.vm.findClass RX2 = some m.cls := hown
  have hl : lv_has ls 4 [(0, .ref st), (1, .int (nI kf)), (2, .int (nI kt)), (3, .int (nI b))] := hl
  refine lv_aload_n hx hb dX2_allowsJump_0 rfl (lv_at hl 0 rfl) ?_
  refine lv_iload_n hx hb dX2_allowsJump_1 rfl (lv_at hl 2 rfl) ?_
  refine lv_iload_n hx hb dX2_allowsJump_2 rfl (lv_at hl 3 rfl) ?_
  refine ca_VI (rest := []) (wr := []) (w2 := fun u_u => [ob_J st 2 [.ref wt, .ref rw, .ref al, .ref br, .ref fx], ar_I wt cI 808 fwt, ar_I al cI 101 fal]) (k_X2_isGood l D cI cJ cZ st wt al rw br fx fwt fal kt b (by first | assumption | omega) (by first | assumption | omega)) hx hb hml hown hts hN hK hA hP hD hS 2 0 rfl rfl bw_349 bw_330 bw_331 bw_4 bw_332 2 rfl (by decide +kernel) ⟨by decide, by decide⟩ [0, 1, 2] [] [0, 1, 2] rfl rfl (by decide) (fun _ => rfl) hl.1 rfl (Nat.le_of_ble_eq_true rfl) dX2_allowsJump_3 ⟨Nat.zero_le _, Nat.zero_le _⟩ (fun r_3 u_u H locs w_3 hP hD hS => ?_)
  have hP : va_P D cl_A [ob_J st 2 [.ref wt, .ref rw, .ref al, .ref br, .ref fx], ar_I wt cI 808 fwt, ar_I al cI 101 fal] H := hP
  have hD : va_D A [ob_J st 2 [.ref wt, .ref rw, .ref al, .ref br, .ref fx], ar_I wt cI 808 fwt, ar_I al cI 101 fal] := hD
  have w_3 : r_3 = if 2 * fal kt < 3 * wo_ fwt kt b 8 then 1 else 0 := w_3
  by_cases h_3 : 2 * fal kt < 3 * wo_ fwt kt b 8
  · rw [if_pos h_3] at w_3; subst w_3
    refine lv_if_eq (tgt := 30) hx hb dX2_allowsJump_6 (by decide) (fun h9 => absurd h9 (by decide)) (fun _ => ?_)
    refine lv_iconst (v := 3) hx hb dX2_allowsJump_9 (by decide) ?_
    refine lv_aload_n hx hb dX2_allowsJump_10 rfl (lv_at hl 0 rfl) ?_
    refine lv_iload_n hx hb dX2_allowsJump_11 rfl (lv_at hl 1 rfl) ?_
    refine lv_iload_n hx hb dX2_allowsJump_12 rfl (lv_at hl 3 rfl) ?_
    refine ca_VI (rest := [.int 3]) (wr := [ar_I al cI 101 fal]) (w2 := fun u_u => [ob_J st 2 [.ref wt, .ref rw, .ref al, .ref br, .ref fx], ar_I wt cI 808 fwt, ar_I al cI 101 fal]) (k_X2_weightOf l D cI cJ cZ st wt rw al br fx fwt kf b (by first | assumption | omega) (by first | assumption | omega)) hx hb hml hown hts hN hK hA hP hD hS 2 0 rfl rfl bw_333 bw_334 bw_335 bw_4 bw_336 2 rfl (by decide +kernel) ⟨by decide, by decide⟩ [0, 1] [2] [1, 2, 0] rfl rfl (by decide) (fun _ => rfl) hl.1 rfl (Nat.le_of_ble_eq_true rfl) dX2_allowsJump_13 ⟨Nat.zero_le _, Nat.zero_le _⟩ (fun r_13 u_u H locs w_13 hP hD hS => ?_)
    have hP : va_P D cl_A [ob_J st 2 [.ref wt, .ref rw, .ref al, .ref br, .ref fx], ar_I wt cI 808 fwt, ar_I al cI 101 fal] H := hP
    have hD : va_D A [ob_J st 2 [.ref wt, .ref rw, .ref al, .ref br, .ref fx], ar_I wt cI 808 fwt, ar_I al cI 101 fal] := hD
    have w_13 : r_13 = wo_ fwt kf b 8 := w_13
    subst w_13
    refine lv_imul hx hb dX2_allowsJump_16 ?_
    refine lv_aload_n hx hb dX2_allowsJump_17 rfl (lv_at hl 0 rfl) ?_
    refine va_get (ci := 2) (v := .ref al) (C := RX2) (T := TX2) (N := 5) hx hb hts bi_2 hown hK hP 0 rfl rfl 2 (by decide) (hts _ bw_87) (fun _ h9 => h9) rfl dX2_allowsJump_18 ?_
    refine lv_iload_n hx hb dX2_allowsJump_21 rfl (lv_at hl 1 rfl) ?_
    refine ar_ld hx hb hK hP 2 (k := kf) rfl rfl (by omega) (by decide) dX2_allowsJump_22 ?_
    refine lv_icmp_le (tgt := 30) hx hb dX2_allowsJump_23 (by decide) (fun c_23 => ?_) (fun c_23 => ?_)
    · refine lv_iconst (v := 0) hx hb dX2_allowsJump_30 (by decide) ?_
      exact re_I (w1 := fun u_u : Unit => [ob_J st 2 [.ref wt, .ref rw, .ref al, .ref br, .ref fx], ar_I wt cI 808 fwt, ar_I al cI 101 fal]) (v := 0) hx hb hr hlk hK hS rfl () hP hD (show _ = if 2 * fal kt < 3 * wo_ fwt kt b 8 ∧ fal kf < 3 * wo_ fwt kf b 8 then _ else _ from (if_neg (fun z => absurd z.2 (Int32.not_lt.mpr c_23))).symm) dX2_allowsJump_31
    · refine lv_iconst (v := 1) hx hb dX2_allowsJump_26 (by decide) ?_
      refine lv_goto (tgt := 31) hx hb dX2_allowsJump_27 (by decide) ?_
      exact re_I (w1 := fun u_u : Unit => [ob_J st 2 [.ref wt, .ref rw, .ref al, .ref br, .ref fx], ar_I wt cI 808 fwt, ar_I al cI 101 fal]) (v := 1) hx hb hr hlk hK hS rfl () hP hD (show _ = if 2 * fal kt < 3 * wo_ fwt kt b 8 ∧ fal kf < 3 * wo_ fwt kf b 8 then _ else _ from (if_pos ⟨h_3, Int32.not_le.mp c_23⟩).symm) dX2_allowsJump_31
  · rw [if_neg h_3] at w_3; subst w_3
    refine lv_if_eq (tgt := 30) hx hb dX2_allowsJump_6 (by decide) (fun _ => ?_) (fun h9 => absurd (by decide) h9)
    refine lv_iconst (v := 0) hx hb dX2_allowsJump_30 (by decide) ?_
    exact re_I (w1 := fun u_u : Unit => [ob_J st 2 [.ref wt, .ref rw, .ref al, .ref br, .ref fx], ar_I wt cI 808 fwt, ar_I al cI 101 fal]) (v := 0) hx hb hr hlk hK hS rfl () hP hD (show _ = if 2 * fal kt < 3 * wo_ fwt kt b 8 ∧ fal kf < 3 * wo_ fwt kf b 8 then _ else _ from (if_neg (fun z => h_3 z.1)).symm) dX2_allowsJump_31

set_option maxHeartbeats 4000000 in
set_option maxRecDepth 100000 in
theorem k_X3_giveOneByRest (l : Launch) (D : va_G) (cI cJ cZ : ClassId) (sh : Nat) (gv : Nat) (rs : Nat) (fgv : Nat → Int32) (frs : Nat → Int64) (n : Nat) (hn1 : 1 ≤ n) (hn : n ≤ 10) : mt_V l yX3_giveOneByRest cX3_giveOneByRest 4 0 0 D cI cJ cZ [ob_J sh 3 [.ref gv, .ref rs], ar_I gv cI 10 fgv, ar_L rs cJ 10 frs] [.ref sh, .int (nI n)] (fun u_u : Unit => True) (fun u_u : Unit => [ob_J sh 3 [.ref gv, .ref rs], ar_I gv cI 10 (upd fgv (am_ frs n) (fgv (am_ frs n) + 1)), ar_L rs cJ 10 (vp_updL frs (am_ frs n) (-1))]) := by
  refine en_V (by decide) (Nat.le_of_ble_eq_true rfl) ?_
  intro p e s m below meth c A ls H locs hx hb hr hml hts hown hlk hN hK hA hP hD hS hl
  have hown : s.vm.findClass RX3 = some m.cls := hown
  have hl : lv_has ls 4 [(0, .ref sh), (1, .int (nI n))] := hl
  refine lv_iconst (v := 0) hx hb dX3_giveOneByRest_0 (by decide) ?_
  refine lv_istore_n (lv' := [(2, .int 0), (0, .ref sh), (1, .int (nI n))]) hx hb dX3_giveOneByRest_1 rfl hl (by decide) rfl (fun ls hl => ?_)
  refine lv_iconst (v := 1) hx hb dX3_giveOneByRest_2 (by decide) ?_
  refine lv_istore_n (lv' := [(3, .int 1), (2, .int 0), (0, .ref sh), (1, .int (nI n))]) hx hb dX3_giveOneByRest_3 rfl hl (by decide) rfl (fun ls hl => ?_)
  have hl := lv_sub (l' := [(0, .ref sh), (1, .int (nI n)), (2, .int 0), (3, .int 1)]) hl [2, 3, 1, 0] rfl
  have q_1 : 0 = nI (am_ frs 1) := congrArg nI (am_1 frs).symm
  have hl := cs_L (fun z_z => [(0, .ref sh), (1, .int (nI n)), (2, .int z_z), (3, .int 1)]) q_1 hl
  have q_2 : 1 = nI 1 := rfl
  have hl := cs_L (fun z_z => [(0, .ref sh), (1, .int (nI n)), (2, .int (nI (am_ frs 1))), (3, .int z_z)]) q_2 hl
  have hl : lv_has ls 4 [(0, .ref sh), (1, .int (nI n)), (2, .int (nI (am_ frs 1))), (3, .int (nI 1))] := hl
  refine lp_g (σ := Nat) (fun i => n - i) (fun i => [ob_J sh 3 [.ref gv, .ref rs], ar_I gv cI 10 fgv, ar_L rs cJ 10 frs]) (fun i => [(0, .ref sh), (1, .int (nI n)), (2, .int (nI (am_ frs i))), (3, .int (nI i))]) (fun i => (1 ≤ i) ∧ (i ≤ n)) ?_ 1 (show (1 ≤ 1) ∧ (1 ≤ n) from ⟨by omega, by omega⟩) hP hD hS hl
  intro i H locs ls hF hP hD hS hl ih_4
  have hF : (1 ≤ i) ∧ (i ≤ n) := hF
  obtain ⟨hi1, hi⟩ := hF
  have hP : va_P D cl_A [ob_J sh 3 [.ref gv, .ref rs], ar_I gv cI 10 fgv, ar_L rs cJ 10 frs] H := hP
  have hD : va_D A [ob_J sh 3 [.ref gv, .ref rs], ar_I gv cI 10 fgv, ar_L rs cJ 10 frs] := hD
  have hl : lv_has ls 4 [(0, .ref sh), (1, .int (nI n)), (2, .int (nI (am_ frs i))), (3, .int (nI i))] := hl
  have hal := am_lt frs i
  refine lv_iload_n hx hb dX3_giveOneByRest_4 rfl (lv_at hl 3 rfl) ?_
  refine lv_iload_n hx hb dX3_giveOneByRest_5 rfl (lv_at hl 1 rfl) ?_
  refine lv_icmp_ge (tgt := 33) hx hb dX3_giveOneByRest_6 (by decide) (fun c_6 => ?_) (fun c_6 => ?_)
  · have c_6 := qq_ge (a := i) (b := n) c_6 (by omega) (by omega)
    refine lv_aload_n hx hb dX3_giveOneByRest_33 rfl (lv_at hl 0 rfl) ?_
    refine va_get (ci := 3) (v := .ref gv) (C := RX3) (T := TX3) (N := 2) hx hb hts bi_3 hown hK hP 0 rfl rfl 0 (by decide) (hts _ bw_110) (fun _ h9 => h9) rfl dX3_giveOneByRest_34 ?_
    refine lv_iload_n hx hb dX3_giveOneByRest_37 rfl (lv_at hl 2 rfl) ?_
    refine lv_dup2_11 hx hb dX3_giveOneByRest_38 rfl rfl ?_
    refine ar_ld hx hb hK hP 1 (k := am_ frs i) rfl rfl (by omega) (by decide) dX3_giveOneByRest_39 ?_
    refine lv_iconst (v := 1) hx hb dX3_giveOneByRest_40 (by decide) ?_
    refine lv_iadd hx hb dX3_giveOneByRest_41 ?_
    refine ar_st hx hb hK hP hD hS 1 (k := am_ frs i) rfl rfl (by omega) (by decide) dX3_giveOneByRest_42 _ rfl (fun H locs hP hD hS => ?_)
    have hP : va_P D cl_A [ob_J sh 3 [.ref gv, .ref rs], ar_I gv cI 10 (upd fgv (am_ frs i) ((fgv (am_ frs i)) + 1)), ar_L rs cJ 10 frs] H := hP
    have hD : va_D A [ob_J sh 3 [.ref gv, .ref rs], ar_I gv cI 10 (upd fgv (am_ frs i) ((fgv (am_ frs i)) + 1)), ar_L rs cJ 10 frs] := hD
    refine lv_aload_n hx hb dX3_giveOneByRest_43 rfl (lv_at hl 0 rfl) ?_
    refine va_get (ci := 3) (v := .ref rs) (C := RX3) (T := TX3) (N := 2) hx hb hts bi_3 hown hK hP 0 rfl rfl 1 (by decide) (hts _ bw_112) (fun _ h9 => h9) rfl dX3_giveOneByRest_44 ?_
    refine lv_iload_n hx hb dX3_giveOneByRest_47 rfl (lv_at hl 2 rfl) ?_
    refine lv_ldc2 hx hb hown (hts _ bw_243) dX3_giveOneByRest_48 ?_
    refine ar_lst hx hb hK hP hD hS 2 (k := am_ frs i) rfl rfl (by omega) (by decide) dX3_giveOneByRest_51 _ rfl (fun H locs hP hD hS => ?_)
    have hP : va_P D cl_A [ob_J sh 3 [.ref gv, .ref rs], ar_I gv cI 10 (upd fgv (am_ frs i) ((fgv (am_ frs i)) + 1)), ar_L rs cJ 10 (vp_updL frs (am_ frs i) (-1))] H := hP
    have hD : va_D A [ob_J sh 3 [.ref gv, .ref rs], ar_I gv cI 10 (upd fgv (am_ frs i) ((fgv (am_ frs i)) + 1)), ar_L rs cJ 10 (vp_updL frs (am_ frs i) (-1))] := hD
    have q_3 : upd fgv (am_ frs i) ((fgv (am_ frs i)) + 1) = upd fgv (am_ frs n) (fgv (am_ frs n) + 1) := by rw [show i = n by omega]
    obtain ⟨hP, hD⟩ := cs_W (fun z_z => [ob_J sh 3 [.ref gv, .ref rs], ar_I gv cI 10 z_z, ar_L rs cJ 10 (vp_updL frs (am_ frs i) (-1))]) q_3 hP hD
    have q_4 : vp_updL frs (am_ frs i) (-1) = vp_updL frs (am_ frs n) (-1) := by rw [show i = n by omega]
    obtain ⟨hP, hD⟩ := cs_W (fun z_z => [ob_J sh 3 [.ref gv, .ref rs], ar_I gv cI 10 (upd fgv (am_ frs n) (fgv (am_ frs n) + 1)), ar_L rs cJ 10 z_z]) q_4 hP hD
    exact re_V (w1 := fun u_u : Unit => [ob_J sh 3 [.ref gv, .ref rs], ar_I gv cI 10 (upd fgv (am_ frs n) (fgv (am_ frs n) + 1)), ar_L rs cJ 10 (vp_updL frs (am_ frs n) (-1))]) hx hb hr hlk hK hS () hP hD trivial dX3_giveOneByRest_52
  · have c_6 := qq_nge (a := i) (b := n) c_6 (by omega) (by omega)
    refine lv_aload_n hx hb dX3_giveOneByRest_9 rfl (lv_at hl 0 rfl) ?_
    refine va_get (ci := 3) (v := .ref rs) (C := RX3) (T := TX3) (N := 2) hx hb hts bi_3 hown hK hP 0 rfl rfl 1 (by decide) (hts _ bw_112) (fun _ h9 => h9) rfl dX3_giveOneByRest_10 ?_
    refine lv_iload_n hx hb dX3_giveOneByRest_13 rfl (lv_at hl 3 rfl) ?_
    refine ar_lld hx hb hK hP 2 (k := i) rfl rfl (by omega) (by decide) dX3_giveOneByRest_14 ?_
    refine lv_aload_n hx hb dX3_giveOneByRest_15 rfl (lv_at hl 0 rfl) ?_
    refine va_get (ci := 3) (v := .ref rs) (C := RX3) (T := TX3) (N := 2) hx hb hts bi_3 hown hK hP 0 rfl rfl 1 (by decide) (hts _ bw_112) (fun _ h9 => h9) rfl dX3_giveOneByRest_16 ?_
    refine lv_iload_n hx hb dX3_giveOneByRest_19 rfl (lv_at hl 2 rfl) ?_
    refine ar_lld hx hb hK hP 2 (k := am_ frs i) rfl rfl (by omega) (by decide) dX3_giveOneByRest_20 ?_
    refine W.lcmp hx hb dX3_giveOneByRest_21 ?_
    refine lv_if_le (tgt := 27) hx hb dX3_giveOneByRest_22 (by decide) (fun c_22 => ?_) (fun c_22 => ?_)
    · have c_22 := lc_le c_22
      refine lv_iinc (v := nI (i + 1)) (lv' := [(3, .int (nI (i + 1))), (0, .ref sh), (1, .int (nI n)), (2, .int (nI (am_ frs i)))]) hx hb dX3_giveOneByRest_27 hl (k := 3) rfl (nI_1 _) (by decide) rfl (fun ls hl => ?_)
      refine lv_goto (tgt := 4) hx hb dX3_giveOneByRest_30 (by decide) ?_
      have hl := lv_sub (l' := [(0, .ref sh), (1, .int (nI n)), (2, .int (nI (am_ frs i))), (3, .int (nI (i + 1)))]) hl [1, 2, 3, 0] rfl
      have q_5 : nI (am_ frs i) = nI (am_ frs (i + 1)) := congrArg nI (by rw [am_s, if_neg c_22])
      have hl := cs_L (fun z_z => [(0, .ref sh), (1, .int (nI n)), (2, .int z_z), (3, .int (nI (i + 1)))]) q_5 hl
      have hl : lv_has ls 4 [(0, .ref sh), (1, .int (nI n)), (2, .int (nI (am_ frs (i + 1)))), (3, .int (nI (i + 1)))] := hl
      exact ih_4 (i + 1) (show n - (i + 1) < n - i from by omega) (show (1 ≤ (i + 1)) ∧ ((i + 1) ≤ n) from ⟨by omega, by omega⟩) H locs ls hP hD hS hl
    · have c_22 := lc_nle c_22
      refine lv_iload_n hx hb dX3_giveOneByRest_25 rfl (lv_at hl 3 rfl) ?_
      refine lv_istore_n (lv' := [(2, .int (nI i)), (0, .ref sh), (1, .int (nI n)), (3, .int (nI i))]) hx hb dX3_giveOneByRest_26 rfl hl (by decide) rfl (fun ls hl => ?_)
      refine lv_iinc (v := nI (i + 1)) (lv' := [(3, .int (nI (i + 1))), (2, .int (nI i)), (0, .ref sh), (1, .int (nI n))]) hx hb dX3_giveOneByRest_27 hl (k := 3) rfl (nI_1 _) (by decide) rfl (fun ls hl => ?_)
      refine lv_goto (tgt := 4) hx hb dX3_giveOneByRest_30 (by decide) ?_
      have hl := lv_sub (l' := [(0, .ref sh), (1, .int (nI n)), (2, .int (nI i)), (3, .int (nI (i + 1)))]) hl [2, 3, 1, 0] rfl
      have q_6 : nI i = nI (am_ frs (i + 1)) := congrArg nI (by rw [am_s, if_pos c_22])
      have hl := cs_L (fun z_z => [(0, .ref sh), (1, .int (nI n)), (2, .int z_z), (3, .int (nI (i + 1)))]) q_6 hl
      have hl : lv_has ls 4 [(0, .ref sh), (1, .int (nI n)), (2, .int (nI (am_ frs (i + 1)))), (3, .int (nI (i + 1)))] := hl
      exact ih_4 (i + 1) (show n - (i + 1) < n - i from by omega) (show (1 ≤ (i + 1)) ∧ ((i + 1) ≤ n) from ⟨by omega, by omega⟩) H locs ls hP hD hS hl

set_option maxHeartbeats 4000000 in
set_option maxRecDepth 100000 in
theorem k_X3_split (l : Launch) (D : va_G) (cI cJ cZ : ClassId) (sh : Nat) (gv : Nat) (rs : Nat) (pa : Nat) (fgv : Nat → Int32) (frs : Nat → Int64) (fpa : Nat → Int32) (am : Nat) (fi : Nat) (n : Nat) (pl : Nat) (pp : Nat → Nat) (hn1 : 1 ≤ n) (hn : n ≤ 10) (hpl : fi + n ≤ pl) (hpl2 : pl < 1000) (ham : am ≤ 10000) (hpp : ∀ i, i < n → fpa (fi + i) = nI (pp i) ∧ pp i ≤ 2000000) : mt_V l yX3_split cX3_split 11 1 23 D cI cJ cZ [ob_J sh 3 [.ref gv, .ref rs], ar_I gv cI 10 fgv, ar_L rs cJ 10 frs, ar_I pa cI pl fpa] [.ref sh, .int (nI am), .ref pa, .int (nI fi), .int (nI n)] (fun u_u : (Nat → Int64) => True) (fun u_u : (Nat → Int64) => [ob_J sh 3 [.ref gv, .ref rs], ar_I gv cI 10 (se_v fgv (fun k => nI (sh_ am pp n k)) n), ar_L rs cJ 10 u_u, ar_I pa cI pl fpa]) := by
  refine en_V (by decide) (Nat.le_of_ble_eq_true rfl) ?_
  intro p e s m below meth c A ls H locs hx hb hr hml hts hown hlk hN hK hA hP hD hS hl
  have hown : s.vm.findClass RX3 = some m.cls := hown
  have hl : lv_has ls 11 [(0, .ref sh), (1, .int (nI am)), (2, .ref pa), (3, .int (nI fi)), (4, .int (nI n))] := hl
  refine lv_lconst (v := lN 0) hx hb dX3_split_0 (by decide) ?_
  refine lv_lstore (lv' := [(5, .long (lN 0)), (0, .ref sh), (1, .int (nI am)), (2, .ref pa), (3, .int (nI fi)), (4, .int (nI n))]) hx hb dX3_split_1 hl (by decide) rfl (fun ls hl => ?_)
  refine lv_iconst (v := 0) hx hb dX3_split_3 (by decide) ?_
  refine lv_istore (lv' := [(7, .int 0), (5, .long (lN 0)), (0, .ref sh), (1, .int (nI am)), (2, .ref pa), (3, .int (nI fi)), (4, .int (nI n))]) hx hb dX3_split_4 hl (by decide) rfl (fun ls hl => ?_)
  have q_1 : fgv = se_v fgv (fun _ => 0) 0 := se_0 _ _
  obtain ⟨hP, hD⟩ := cs_W (fun z_z => [ob_J sh 3 [.ref gv, .ref rs], ar_I gv cI 10 z_z, ar_L rs cJ 10 frs, ar_I pa cI pl fpa]) q_1 hP hD
  have hl := lv_sub (l' := [(0, .ref sh), (1, .int (nI am)), (2, .ref pa), (3, .int (nI fi)), (4, .int (nI n)), (5, .long (lN 0)), (7, .int 0)]) hl [2, 3, 4, 5, 6, 1, 0] rfl
  have q_2 : lN 0 = lN (sN_ pp 0) := rfl
  have hl := cs_L (fun z_z => [(0, .ref sh), (1, .int (nI am)), (2, .ref pa), (3, .int (nI fi)), (4, .int (nI n)), (5, .long z_z), (7, .int 0)]) q_2 hl
  have q_3 : 0 = nI 0 := rfl
  have hl := cs_L (fun z_z => [(0, .ref sh), (1, .int (nI am)), (2, .ref pa), (3, .int (nI fi)), (4, .int (nI n)), (5, .long (lN (sN_ pp 0))), (7, .int z_z)]) q_3 hl
  have hl : lv_has ls 11 [(0, .ref sh), (1, .int (nI am)), (2, .ref pa), (3, .int (nI fi)), (4, .int (nI n)), (5, .long (lN (sN_ pp 0))), (7, .int (nI 0))] := hl
  refine lp_g (σ := Nat) (fun i => n - i) (fun i => [ob_J sh 3 [.ref gv, .ref rs], ar_I gv cI 10 (se_v fgv (fun _ => 0) i), ar_L rs cJ 10 frs, ar_I pa cI pl fpa]) (fun i => [(0, .ref sh), (1, .int (nI am)), (2, .ref pa), (3, .int (nI fi)), (4, .int (nI n)), (5, .long (lN (sN_ pp i))), (7, .int (nI i))]) (fun i => (i ≤ n)) ?_ 0 (show (0 ≤ n) from by omega) hP hD hS hl
  intro i H locs ls hF hP hD hS hl ih_6
  have hF : (i ≤ n) := hF
  have hi := hF
  have hP : va_P D cl_A [ob_J sh 3 [.ref gv, .ref rs], ar_I gv cI 10 (se_v fgv (fun _ => 0) i), ar_L rs cJ 10 frs, ar_I pa cI pl fpa] H := hP
  have hD : va_D A [ob_J sh 3 [.ref gv, .ref rs], ar_I gv cI 10 (se_v fgv (fun _ => 0) i), ar_L rs cJ 10 frs, ar_I pa cI pl fpa] := hD
  have hl : lv_has ls 11 [(0, .ref sh), (1, .int (nI am)), (2, .ref pa), (3, .int (nI fi)), (4, .int (nI n)), (5, .long (lN (sN_ pp i))), (7, .int (nI i))] := hl
  refine lv_iload hx hb dX3_split_6 (lv_at hl 6 rfl) ?_
  refine lv_iload hx hb dX3_split_8 (lv_at hl 4 rfl) ?_
  refine lv_icmp_ge (tgt := 39) hx hb dX3_split_10 (by decide) (fun c_10 => ?_) (fun c_10 => ?_)
  · have c_10 := qq_ge (a := i) (b := n) c_10 (by omega) (by omega)
    obtain rfl : n = i := by omega
    have hTb : sN_ pp n ≤ n * 2000000 := sN_bd (fun k hk => (hpp k hk).2)
    refine lv_lload hx hb dX3_split_39 (lv_at hl 5 rfl) ?_
    refine lv_lconst (v := lN 0) hx hb dX3_split_41 (by decide) ?_
    refine W.lcmp hx hb dX3_split_42 ?_
    refine lv_if_gt (tgt := 47) hx hb dX3_split_43 (by decide) (fun c_43 => ?_) (fun c_43 => ?_)
    · have c_43 := lc_gt c_43
      have hT : 0 < sN_ pp n := (pk_lLT (by omega) (by omega)).mp c_43
      refine lv_iload_n hx hb dX3_split_47 rfl (lv_at hl 1 rfl) ?_
      refine lv_istore (lv' := [(7, .int (nI am)), (0, .ref sh), (1, .int (nI am)), (2, .ref pa), (3, .int (nI fi)), (4, .int (nI n)), (5, .long (lN (sN_ pp n)))]) hx hb dX3_split_48 hl (by decide) rfl (fun ls hl => ?_)
      refine lv_iconst (v := 0) hx hb dX3_split_50 (by decide) ?_
      refine lv_istore (lv' := [(8, .int 0), (7, .int (nI am)), (0, .ref sh), (1, .int (nI am)), (2, .ref pa), (3, .int (nI fi)), (4, .int (nI n)), (5, .long (lN (sN_ pp n)))]) hx hb dX3_split_51 hl (by decide) rfl (fun ls hl => ?_)
      have q_4 : se_v fgv (fun _ => 0) n = se_v (se_v fgv (fun _ => 0) n) (fun k => nI (qo_ am pp (sN_ pp n) k)) 0 := se_0 _ _
      obtain ⟨hP, hD⟩ := cs_W (fun z_z => [ob_J sh 3 [.ref gv, .ref rs], ar_I gv cI 10 z_z, ar_L rs cJ 10 frs, ar_I pa cI pl fpa]) q_4 hP hD
      have q_5 : frs = sl_v frs (fun k => lN (re_ am pp (sN_ pp n) k)) 0 := sl_0 _ _
      obtain ⟨hP, hD⟩ := cs_W (fun z_z => [ob_J sh 3 [.ref gv, .ref rs], ar_I gv cI 10 (se_v (se_v fgv (fun _ => 0) n) (fun k => nI (qo_ am pp (sN_ pp n) k)) 0), ar_L rs cJ 10 z_z, ar_I pa cI pl fpa]) q_5 hP hD
      have hl := lv_sub (l' := [(0, .ref sh), (1, .int (nI am)), (2, .ref pa), (3, .int (nI fi)), (4, .int (nI n)), (5, .long (lN (sN_ pp n))), (7, .int (nI am)), (8, .int 0)]) hl [2, 3, 4, 5, 6, 7, 1, 0] rfl
      have q_6 : nI am = nI (am - sN_ (qo_ am pp (sN_ pp n)) 0) := rfl
      have hl := cs_L (fun z_z => [(0, .ref sh), (1, .int (nI am)), (2, .ref pa), (3, .int (nI fi)), (4, .int (nI n)), (5, .long (lN (sN_ pp n))), (7, .int z_z), (8, .int 0)]) q_6 hl
      have q_7 : 0 = nI 0 := rfl
      have hl := cs_L (fun z_z => [(0, .ref sh), (1, .int (nI am)), (2, .ref pa), (3, .int (nI fi)), (4, .int (nI n)), (5, .long (lN (sN_ pp n))), (7, .int (nI (am - sN_ (qo_ am pp (sN_ pp n)) 0))), (8, .int z_z)]) q_7 hl
      have hl : lv_has ls 11 [(0, .ref sh), (1, .int (nI am)), (2, .ref pa), (3, .int (nI fi)), (4, .int (nI n)), (5, .long (lN (sN_ pp n))), (7, .int (nI (am - sN_ (qo_ am pp (sN_ pp n)) 0))), (8, .int (nI 0))] := hl
      refine lp_g (σ := Nat) (fun i => n - i) (fun i => [ob_J sh 3 [.ref gv, .ref rs], ar_I gv cI 10 (se_v (se_v fgv (fun _ => 0) n) (fun k => nI (qo_ am pp (sN_ pp n) k)) i), ar_L rs cJ 10 (sl_v frs (fun k => lN (re_ am pp (sN_ pp n) k)) i), ar_I pa cI pl fpa]) (fun i => [(0, .ref sh), (1, .int (nI am)), (2, .ref pa), (3, .int (nI fi)), (4, .int (nI n)), (5, .long (lN (sN_ pp n))), (7, .int (nI (am - sN_ (qo_ am pp (sN_ pp n)) i))), (8, .int (nI i))]) (fun i => (i ≤ n)) ?_ 0 (show (0 ≤ n) from by omega) hP hD hS hl
      intro i H locs ls hF hP hD hS hl ih_53
      have hF : (i ≤ n) := hF
      have hi := hF
      have hP : va_P D cl_A [ob_J sh 3 [.ref gv, .ref rs], ar_I gv cI 10 (se_v (se_v fgv (fun _ => 0) n) (fun k => nI (qo_ am pp (sN_ pp n) k)) i), ar_L rs cJ 10 (sl_v frs (fun k => lN (re_ am pp (sN_ pp n) k)) i), ar_I pa cI pl fpa] H := hP
      have hD : va_D A [ob_J sh 3 [.ref gv, .ref rs], ar_I gv cI 10 (se_v (se_v fgv (fun _ => 0) n) (fun k => nI (qo_ am pp (sN_ pp n) k)) i), ar_L rs cJ 10 (sl_v frs (fun k => lN (re_ am pp (sN_ pp n) k)) i), ar_I pa cI pl fpa] := hD
      have hl : lv_has ls 11 [(0, .ref sh), (1, .int (nI am)), (2, .ref pa), (3, .int (nI fi)), (4, .int (nI n)), (5, .long (lN (sN_ pp n))), (7, .int (nI (am - sN_ (qo_ am pp (sN_ pp n)) i))), (8, .int (nI i))] := hl
      refine lv_iload hx hb dX3_split_53 (lv_at hl 7 rfl) ?_
      refine lv_iload hx hb dX3_split_55 (lv_at hl 4 rfl) ?_
      refine lv_icmp_ge (tgt := 115) hx hb dX3_split_57 (by decide) (fun c_57 => ?_) (fun c_57 => ?_)
      · have c_57 := qq_ge (a := i) (b := n) c_57 (by omega) (by omega)
        obtain rfl : n = i := by omega
        refine lv_iconst (v := 0) hx hb dX3_split_115 (by decide) ?_
        refine lv_istore (lv' := [(8, .int 0), (0, .ref sh), (1, .int (nI am)), (2, .ref pa), (3, .int (nI fi)), (4, .int (nI n)), (5, .long (lN (sN_ pp n))), (7, .int (nI (am - sN_ (qo_ am pp (sN_ pp n)) n)))]) hx hb dX3_split_116 hl (by decide) rfl (fun ls hl => ?_)
        have hlf : lf_ am pp n ≤ n := lf_le hT
        have q_8 : se_v (se_v fgv (fun _ => 0) n) (fun k => nI (qo_ am pp (sN_ pp n) k)) n = gj_ fgv am pp n 0 := gj_0 _ _ _ _
        obtain ⟨hP, hD⟩ := cs_W (fun z_z => [ob_J sh 3 [.ref gv, .ref rs], ar_I gv cI 10 z_z, ar_L rs cJ 10 (sl_v frs (fun k => lN (re_ am pp (sN_ pp n) k)) n), ar_I pa cI pl fpa]) q_8 hP hD
        have q_9 : sl_v frs (fun k => lN (re_ am pp (sN_ pp n) k)) n = rl_ frs am pp n 0 := rl_0 _ _ _ _
        obtain ⟨hP, hD⟩ := cs_W (fun z_z => [ob_J sh 3 [.ref gv, .ref rs], ar_I gv cI 10 (gj_ fgv am pp n 0), ar_L rs cJ 10 z_z, ar_I pa cI pl fpa]) q_9 hP hD
        have hl := lv_sub (l' := [(0, .ref sh), (1, .int (nI am)), (2, .ref pa), (3, .int (nI fi)), (4, .int (nI n)), (5, .long (lN (sN_ pp n))), (7, .int (nI (am - sN_ (qo_ am pp (sN_ pp n)) n))), (8, .int 0)]) hl [1, 2, 3, 4, 5, 6, 7, 0] rfl
        have q_10 : nI (am - sN_ (qo_ am pp (sN_ pp n)) n) = nI (lf_ am pp n) := rfl
        have hl := cs_L (fun z_z => [(0, .ref sh), (1, .int (nI am)), (2, .ref pa), (3, .int (nI fi)), (4, .int (nI n)), (5, .long (lN (sN_ pp n))), (7, .int z_z), (8, .int 0)]) q_10 hl
        have q_11 : 0 = nI 0 := rfl
        have hl := cs_L (fun z_z => [(0, .ref sh), (1, .int (nI am)), (2, .ref pa), (3, .int (nI fi)), (4, .int (nI n)), (5, .long (lN (sN_ pp n))), (7, .int (nI (lf_ am pp n))), (8, .int z_z)]) q_11 hl
        have hl : lv_has ls 11 [(0, .ref sh), (1, .int (nI am)), (2, .ref pa), (3, .int (nI fi)), (4, .int (nI n)), (5, .long (lN (sN_ pp n))), (7, .int (nI (lf_ am pp n))), (8, .int (nI 0))] := hl
        refine lp_g (σ := Nat) (fun i => n - i) (fun i => [ob_J sh 3 [.ref gv, .ref rs], ar_I gv cI 10 (gj_ fgv am pp n i), ar_L rs cJ 10 (rl_ frs am pp n i), ar_I pa cI pl fpa]) (fun i => [(0, .ref sh), (1, .int (nI am)), (2, .ref pa), (3, .int (nI fi)), (4, .int (nI n)), (5, .long (lN (sN_ pp n))), (7, .int (nI (lf_ am pp n))), (8, .int (nI i))]) (fun i => (i ≤ lf_ am pp n)) ?_ 0 (show (0 ≤ lf_ am pp n) from by omega) hP hD hS hl
        intro i H locs ls hF hP hD hS hl ih_118
        have hF : (i ≤ lf_ am pp n) := hF
        have hi := hF
        have hP : va_P D cl_A [ob_J sh 3 [.ref gv, .ref rs], ar_I gv cI 10 (gj_ fgv am pp n i), ar_L rs cJ 10 (rl_ frs am pp n i), ar_I pa cI pl fpa] H := hP
        have hD : va_D A [ob_J sh 3 [.ref gv, .ref rs], ar_I gv cI 10 (gj_ fgv am pp n i), ar_L rs cJ 10 (rl_ frs am pp n i), ar_I pa cI pl fpa] := hD
        have hl : lv_has ls 11 [(0, .ref sh), (1, .int (nI am)), (2, .ref pa), (3, .int (nI fi)), (4, .int (nI n)), (5, .long (lN (sN_ pp n))), (7, .int (nI (lf_ am pp n))), (8, .int (nI i))] := hl
        refine lv_iload hx hb dX3_split_118 (lv_at hl 7 rfl) ?_
        refine lv_iload hx hb dX3_split_120 (lv_at hl 6 rfl) ?_
        refine lv_icmp_ge (tgt := 144) hx hb dX3_split_122 (by decide) (fun c_122 => ?_) (fun c_122 => ?_)
        · have c_122 := qq_ge (a := i) (b := lf_ am pp n) c_122 (by omega) (by omega)
          have q_12 : gj_ fgv am pp n i = se_v fgv (fun k => nI (sh_ am pp n k)) n := by rw [show i = lf_ am pp n by omega]; exact gj_e hT
          obtain ⟨hP, hD⟩ := cs_W (fun z_z => [ob_J sh 3 [.ref gv, .ref rs], ar_I gv cI 10 z_z, ar_L rs cJ 10 (rl_ frs am pp n i), ar_I pa cI pl fpa]) q_12 hP hD
          exact re_V (w1 := fun u_u : (Nat → Int64) => [ob_J sh 3 [.ref gv, .ref rs], ar_I gv cI 10 (se_v fgv (fun k => nI (sh_ am pp n k)) n), ar_L rs cJ 10 u_u, ar_I pa cI pl fpa]) hx hb hr hlk hK hS (rl_ frs am pp n i) hP hD trivial dX3_split_144
        · have c_122 := qq_nge (a := i) (b := lf_ am pp n) c_122 (by omega) (by omega)
          refine lv_iload hx hb dX3_split_125 (lv_at hl 7 rfl) ?_
          refine lv_iload hx hb dX3_split_127 (lv_at hl 4 rfl) ?_
          refine lv_icmp_ge (tgt := 144) hx hb dX3_split_129 (by decide) (fun c_129 => ?_) (fun c_129 => ?_)
          · have c_129 := qq_ge (a := i) (b := n) c_129 (by omega) (by omega)
            have q_13 : gj_ fgv am pp n i = se_v fgv (fun k => nI (sh_ am pp n k)) n := by rw [show i = lf_ am pp n by omega]; exact gj_e hT
            obtain ⟨hP, hD⟩ := cs_W (fun z_z => [ob_J sh 3 [.ref gv, .ref rs], ar_I gv cI 10 z_z, ar_L rs cJ 10 (rl_ frs am pp n i), ar_I pa cI pl fpa]) q_13 hP hD
            exact re_V (w1 := fun u_u : (Nat → Int64) => [ob_J sh 3 [.ref gv, .ref rs], ar_I gv cI 10 (se_v fgv (fun k => nI (sh_ am pp n k)) n), ar_L rs cJ 10 u_u, ar_I pa cI pl fpa]) hx hb hr hlk hK hS (rl_ frs am pp n i) hP hD trivial dX3_split_144
          · have c_129 := qq_nge (a := i) (b := n) c_129 (by omega) (by omega)
            refine lv_aload_n hx hb dX3_split_132 rfl (lv_at hl 0 rfl) ?_
            refine lv_iload hx hb dX3_split_133 (lv_at hl 4 rfl) ?_
            refine ca_VV (rest := []) (wr := [ar_I pa cI pl fpa]) (w2 := fun u_u => [ob_J sh 3 [.ref gv, .ref rs], ar_I gv cI 10 (upd (gj_ fgv am pp n i) (am_ (rl_ frs am pp n i) n) ((gj_ fgv am pp n i) (am_ (rl_ frs am pp n i) n) + 1)), ar_L rs cJ 10 (vp_updL (rl_ frs am pp n i) (am_ (rl_ frs am pp n i) n) (-1)), ar_I pa cI pl fpa]) (k_X3_giveOneByRest l D cI cJ cZ sh gv rs (gj_ fgv am pp n i) (rl_ frs am pp n i) n (by first | assumption | omega) (by first | assumption | omega)) hx hb hml hown hts hN hK hA hP hD hS 3 0 rfl rfl bw_239 bw_240 bw_241 bw_5 bw_242 1 rfl (by decide +kernel) ⟨by decide, by decide⟩ [0, 1, 2] [3] [1, 2, 3, 0] rfl rfl (by decide) (fun _ => rfl) hl.1 rfl (Nat.le_of_ble_eq_true rfl) dX3_split_135 ⟨Nat.zero_le _, Nat.zero_le _⟩ (fun u_u H locs w_135 hP hD hS => ?_)
            have hP : va_P D cl_A [ob_J sh 3 [.ref gv, .ref rs], ar_I gv cI 10 (upd (gj_ fgv am pp n i) (am_ (rl_ frs am pp n i) n) ((gj_ fgv am pp n i) (am_ (rl_ frs am pp n i) n) + 1)), ar_L rs cJ 10 (vp_updL (rl_ frs am pp n i) (am_ (rl_ frs am pp n i) n) (-1)), ar_I pa cI pl fpa] H := hP
            have hD : va_D A [ob_J sh 3 [.ref gv, .ref rs], ar_I gv cI 10 (upd (gj_ fgv am pp n i) (am_ (rl_ frs am pp n i) n) ((gj_ fgv am pp n i) (am_ (rl_ frs am pp n i) n) + 1)), ar_L rs cJ 10 (vp_updL (rl_ frs am pp n i) (am_ (rl_ frs am pp n i) n) (-1)), ar_I pa cI pl fpa] := hD
            refine lv_iinc (v := nI (i + 1)) (lv' := [(8, .int (nI (i + 1))), (0, .ref sh), (1, .int (nI am)), (2, .ref pa), (3, .int (nI fi)), (4, .int (nI n)), (5, .long (lN (sN_ pp n))), (7, .int (nI (lf_ am pp n)))]) hx hb dX3_split_138 hl (k := 7) rfl (nI_1 _) (by decide) rfl (fun ls hl => ?_)
            refine lv_goto (tgt := 118) hx hb dX3_split_141 (by decide) ?_
            have q_14 : upd (gj_ fgv am pp n i) (am_ (rl_ frs am pp n i) n) ((gj_ fgv am pp n i) (am_ (rl_ frs am pp n i) n) + 1) = gj_ fgv am pp n (i + 1) := gj_s hT (by omega) (by omega)
            obtain ⟨hP, hD⟩ := cs_W (fun z_z => [ob_J sh 3 [.ref gv, .ref rs], ar_I gv cI 10 z_z, ar_L rs cJ 10 (vp_updL (rl_ frs am pp n i) (am_ (rl_ frs am pp n i) n) (-1)), ar_I pa cI pl fpa]) q_14 hP hD
            have q_15 : vp_updL (rl_ frs am pp n i) (am_ (rl_ frs am pp n i) n) (-1) = rl_ frs am pp n (i + 1) := rl_s hT (by omega) (by omega)
            obtain ⟨hP, hD⟩ := cs_W (fun z_z => [ob_J sh 3 [.ref gv, .ref rs], ar_I gv cI 10 (gj_ fgv am pp n (i + 1)), ar_L rs cJ 10 z_z, ar_I pa cI pl fpa]) q_15 hP hD
            have hl := lv_sub (l' := [(0, .ref sh), (1, .int (nI am)), (2, .ref pa), (3, .int (nI fi)), (4, .int (nI n)), (5, .long (lN (sN_ pp n))), (7, .int (nI (lf_ am pp n))), (8, .int (nI (i + 1)))]) hl [1, 2, 3, 4, 5, 6, 7, 0] rfl
            have hl : lv_has ls 11 [(0, .ref sh), (1, .int (nI am)), (2, .ref pa), (3, .int (nI fi)), (4, .int (nI n)), (5, .long (lN (sN_ pp n))), (7, .int (nI (lf_ am pp n))), (8, .int (nI (i + 1)))] := hl
            exact ih_118 (i + 1) (show n - (i + 1) < n - i from by omega) (show ((i + 1) ≤ lf_ am pp n) from by omega) H locs ls hP hD hS hl
      · have c_57 := qq_nge (a := i) (b := n) c_57 (by omega) (by omega)
        refine lv_iload_n hx hb dX3_split_60 rfl (lv_at hl 1 rfl) ?_
        refine lv_i2l (v := lN am) hx hb dX3_split_61 (nI_l (n := am) (by omega)) ?_
        refine lv_aload_n hx hb dX3_split_62 rfl (lv_at hl 2 rfl) ?_
        refine lv_iload_n hx hb dX3_split_63 rfl (lv_at hl 3 rfl) ?_
        refine lv_iload hx hb dX3_split_64 (lv_at hl 7 rfl) ?_
        refine lv_iadd hx hb dX3_split_66 ?_
        refine tp_i (x' := nI (fi + i)) (nn_add rfl rfl) ?_
        refine ar_ld hx hb hK hP 3 (k := fi + i) rfl rfl (by omega) (by omega) dX3_split_67 ?_
        refine tp_i (x' := nI (pp i)) ((hpp i (by omega)).1) ?_
        have hb_i := (hpp i (by omega)).2
        have hmb : am * pp i ≤ 10000 * 2000000 := Nat.mul_le_mul ham hb_i
        refine lv_i2l (v := lN (pp i)) hx hb dX3_split_68 (nI_l (n := pp i) (by omega)) ?_
        refine lv_lmul hx hb dX3_split_69 ?_
        refine tp_l (x' := lN (am * (pp i))) (lN_mul _ _) ?_
        refine lv_lstore (lv' := [(9, .long (lN (am * (pp i)))), (0, .ref sh), (1, .int (nI am)), (2, .ref pa), (3, .int (nI fi)), (4, .int (nI n)), (5, .long (lN (sN_ pp n))), (7, .int (nI (am - sN_ (qo_ am pp (sN_ pp n)) i))), (8, .int (nI i))]) hx hb dX3_split_70 hl (by decide) rfl (fun ls hl => ?_)
        refine lv_aload_n hx hb dX3_split_72 rfl (lv_at hl 1 rfl) ?_
        refine va_get (ci := 3) (v := .ref gv) (C := RX3) (T := TX3) (N := 2) hx hb hts bi_3 hown hK hP 0 rfl rfl 0 (by decide) (hts _ bw_110) (fun _ h9 => h9) rfl dX3_split_73 ?_
        refine lv_iload hx hb dX3_split_76 (lv_at hl 8 rfl) ?_
        refine lv_lload hx hb dX3_split_78 (lv_at hl 0 rfl) ?_
        refine lv_lload hx hb dX3_split_80 (lv_at hl 6 rfl) ?_
        refine lv_ldiv hx hb dX3_split_82 (ln_ne hT (by omega)) ?_
        refine tp_l (x' := lN ((am * (pp i)) / (sN_ pp n))) (pk_lDiv (by omega) (hT) (by omega)) ?_
        refine lv_l2i (v := nI ((am * (pp i)) / (sN_ pp n))) hx hb dX3_split_83 (lN_i _) ?_
        refine ar_st hx hb hK hP hD hS 1 (k := i) rfl rfl (by omega) (by decide) dX3_split_84 _ rfl (fun H locs hP hD hS => ?_)
        have hP : va_P D cl_A [ob_J sh 3 [.ref gv, .ref rs], ar_I gv cI 10 (upd (se_v (se_v fgv (fun _ => 0) n) (fun k => nI (qo_ am pp (sN_ pp n) k)) i) i (nI ((am * (pp i)) / (sN_ pp n)))), ar_L rs cJ 10 (sl_v frs (fun k => lN (re_ am pp (sN_ pp n) k)) i), ar_I pa cI pl fpa] H := hP
        have hD : va_D A [ob_J sh 3 [.ref gv, .ref rs], ar_I gv cI 10 (upd (se_v (se_v fgv (fun _ => 0) n) (fun k => nI (qo_ am pp (sN_ pp n) k)) i) i (nI ((am * (pp i)) / (sN_ pp n)))), ar_L rs cJ 10 (sl_v frs (fun k => lN (re_ am pp (sN_ pp n) k)) i), ar_I pa cI pl fpa] := hD
        refine lv_aload_n hx hb dX3_split_85 rfl (lv_at hl 1 rfl) ?_
        refine va_get (ci := 3) (v := .ref rs) (C := RX3) (T := TX3) (N := 2) hx hb hts bi_3 hown hK hP 0 rfl rfl 1 (by decide) (hts _ bw_112) (fun _ h9 => h9) rfl dX3_split_86 ?_
        refine lv_iload hx hb dX3_split_89 (lv_at hl 8 rfl) ?_
        refine lv_lload hx hb dX3_split_91 (lv_at hl 0 rfl) ?_
        refine lv_lload hx hb dX3_split_93 (lv_at hl 6 rfl) ?_
        refine lv_lrem hx hb dX3_split_95 (ln_ne hT (by omega)) ?_
        refine tp_l (x' := lN ((am * (pp i)) % (sN_ pp n))) (pk_lRem (by omega) (hT) (by omega)) ?_
        refine ar_lst hx hb hK hP hD hS 2 (k := i) rfl rfl (by omega) (by decide) dX3_split_96 _ rfl (fun H locs hP hD hS => ?_)
        have hP : va_P D cl_A [ob_J sh 3 [.ref gv, .ref rs], ar_I gv cI 10 (upd (se_v (se_v fgv (fun _ => 0) n) (fun k => nI (qo_ am pp (sN_ pp n) k)) i) i (nI ((am * (pp i)) / (sN_ pp n)))), ar_L rs cJ 10 (vp_updL (sl_v frs (fun k => lN (re_ am pp (sN_ pp n) k)) i) i (lN ((am * (pp i)) % (sN_ pp n)))), ar_I pa cI pl fpa] H := hP
        have hD : va_D A [ob_J sh 3 [.ref gv, .ref rs], ar_I gv cI 10 (upd (se_v (se_v fgv (fun _ => 0) n) (fun k => nI (qo_ am pp (sN_ pp n) k)) i) i (nI ((am * (pp i)) / (sN_ pp n)))), ar_L rs cJ 10 (vp_updL (sl_v frs (fun k => lN (re_ am pp (sN_ pp n) k)) i) i (lN ((am * (pp i)) % (sN_ pp n)))), ar_I pa cI pl fpa] := hD
        have hqs : sN_ (qo_ am pp (sN_ pp n)) (i + 1) ≤ sN_ (qo_ am pp (sN_ pp n)) n := sN_pre (by omega)
        have hqn : sN_ (qo_ am pp (sN_ pp n)) n ≤ am := qo_le hT
        have hq1 : sN_ (qo_ am pp (sN_ pp n)) i + am * pp i / sN_ pp n ≤ am := Nat.le_trans hqs hqn
        refine lv_iload hx hb dX3_split_97 (lv_at hl 7 rfl) ?_
        refine lv_aload_n hx hb dX3_split_99 rfl (lv_at hl 1 rfl) ?_
        refine va_get (ci := 3) (v := .ref gv) (C := RX3) (T := TX3) (N := 2) hx hb hts bi_3 hown hK hP 0 rfl rfl 0 (by decide) (hts _ bw_110) (fun _ h9 => h9) rfl dX3_split_100 ?_
        refine lv_iload hx hb dX3_split_103 (lv_at hl 8 rfl) ?_
        refine ar_ld hx hb hK hP 1 (k := i) rfl rfl (by omega) (by decide) dX3_split_105 ?_
        refine tp_i (x' := nI ((am * pp i) / sN_ pp n)) (up_i _ _ _) ?_
        refine lv_isub hx hb dX3_split_106 ?_
        refine tp_i (x' := nI ((am - sN_ (qo_ am pp (sN_ pp n)) i) - ((am * pp i) / sN_ pp n))) (nn_sub rfl rfl (by omega)) ?_
        refine lv_istore (lv' := [(7, .int (nI ((am - sN_ (qo_ am pp (sN_ pp n)) i) - ((am * pp i) / sN_ pp n)))), (9, .long (lN (am * (pp i)))), (0, .ref sh), (1, .int (nI am)), (2, .ref pa), (3, .int (nI fi)), (4, .int (nI n)), (5, .long (lN (sN_ pp n))), (8, .int (nI i))]) hx hb dX3_split_107 hl (by decide) rfl (fun ls hl => ?_)
        refine lv_iinc (v := nI (i + 1)) (lv' := [(8, .int (nI (i + 1))), (7, .int (nI ((am - sN_ (qo_ am pp (sN_ pp n)) i) - ((am * pp i) / sN_ pp n)))), (9, .long (lN (am * (pp i)))), (0, .ref sh), (1, .int (nI am)), (2, .ref pa), (3, .int (nI fi)), (4, .int (nI n)), (5, .long (lN (sN_ pp n)))]) hx hb dX3_split_109 hl (k := 8) rfl (nI_1 _) (by decide) rfl (fun ls hl => ?_)
        refine lv_goto (tgt := 53) hx hb dX3_split_112 (by decide) ?_
        have q_16 : upd (se_v (se_v fgv (fun _ => 0) n) (fun k => nI (qo_ am pp (sN_ pp n) k)) i) i (nI ((am * (pp i)) / (sN_ pp n))) = se_v (se_v fgv (fun _ => 0) n) (fun k => nI (qo_ am pp (sN_ pp n) k)) (i + 1) := se_s _ (fun k => nI (qo_ am pp (sN_ pp n) k)) i
        obtain ⟨hP, hD⟩ := cs_W (fun z_z => [ob_J sh 3 [.ref gv, .ref rs], ar_I gv cI 10 z_z, ar_L rs cJ 10 (vp_updL (sl_v frs (fun k => lN (re_ am pp (sN_ pp n) k)) i) i (lN ((am * (pp i)) % (sN_ pp n)))), ar_I pa cI pl fpa]) q_16 hP hD
        have q_17 : vp_updL (sl_v frs (fun k => lN (re_ am pp (sN_ pp n) k)) i) i (lN ((am * (pp i)) % (sN_ pp n))) = sl_v frs (fun k => lN (re_ am pp (sN_ pp n) k)) (i + 1) := sl_s _ (fun k => lN (re_ am pp (sN_ pp n) k)) i
        obtain ⟨hP, hD⟩ := cs_W (fun z_z => [ob_J sh 3 [.ref gv, .ref rs], ar_I gv cI 10 (se_v (se_v fgv (fun _ => 0) n) (fun k => nI (qo_ am pp (sN_ pp n) k)) (i + 1)), ar_L rs cJ 10 z_z, ar_I pa cI pl fpa]) q_17 hP hD
        have hl := lv_sub (l' := [(0, .ref sh), (1, .int (nI am)), (2, .ref pa), (3, .int (nI fi)), (4, .int (nI n)), (5, .long (lN (sN_ pp n))), (7, .int (nI ((am - sN_ (qo_ am pp (sN_ pp n)) i) - ((am * pp i) / sN_ pp n)))), (8, .int (nI (i + 1)))]) hl [3, 4, 5, 6, 7, 8, 1, 0] rfl
        have q_18 : nI ((am - sN_ (qo_ am pp (sN_ pp n)) i) - ((am * pp i) / sN_ pp n)) = nI (am - sN_ (qo_ am pp (sN_ pp n)) (i + 1)) := congrArg nI (Nat.sub_sub _ _ _)
        have hl := cs_L (fun z_z => [(0, .ref sh), (1, .int (nI am)), (2, .ref pa), (3, .int (nI fi)), (4, .int (nI n)), (5, .long (lN (sN_ pp n))), (7, .int z_z), (8, .int (nI (i + 1)))]) q_18 hl
        have hl : lv_has ls 11 [(0, .ref sh), (1, .int (nI am)), (2, .ref pa), (3, .int (nI fi)), (4, .int (nI n)), (5, .long (lN (sN_ pp n))), (7, .int (nI (am - sN_ (qo_ am pp (sN_ pp n)) (i + 1)))), (8, .int (nI (i + 1)))] := hl
        exact ih_53 (i + 1) (show n - (i + 1) < n - i from by omega) (show ((i + 1) ≤ n) from by omega) H locs ls hP hD hS hl
    · have c_43 := lc_ngt c_43
      have hT0 : sN_ pp n = 0 := ln_z c_43 (by omega)
      have q_19 : se_v fgv (fun _ => 0) n = se_v fgv (fun k => nI (sh_ am pp n k)) n := sh_e0 hT0
      obtain ⟨hP, hD⟩ := cs_W (fun z_z => [ob_J sh 3 [.ref gv, .ref rs], ar_I gv cI 10 z_z, ar_L rs cJ 10 frs, ar_I pa cI pl fpa]) q_19 hP hD
      exact re_V (w1 := fun u_u : (Nat → Int64) => [ob_J sh 3 [.ref gv, .ref rs], ar_I gv cI 10 (se_v fgv (fun k => nI (sh_ am pp n k)) n), ar_L rs cJ 10 u_u, ar_I pa cI pl fpa]) hx hb hr hlk hK hS frs hP hD trivial dX3_split_46
  · have c_10 := qq_nge (a := i) (b := n) c_10 (by omega) (by omega)
    refine lv_aload_n hx hb dX3_split_13 rfl (lv_at hl 0 rfl) ?_
    refine va_get (ci := 3) (v := .ref gv) (C := RX3) (T := TX3) (N := 2) hx hb hts bi_3 hown hK hP 0 rfl rfl 0 (by decide) (hts _ bw_110) (fun _ h9 => h9) rfl dX3_split_14 ?_
    refine lv_iload hx hb dX3_split_17 (lv_at hl 6 rfl) ?_
    refine lv_iconst (v := 0) hx hb dX3_split_19 (by decide) ?_
    refine ar_st hx hb hK hP hD hS 1 (k := i) rfl rfl (by omega) (by decide) dX3_split_20 _ rfl (fun H locs hP hD hS => ?_)
    have hP : va_P D cl_A [ob_J sh 3 [.ref gv, .ref rs], ar_I gv cI 10 (upd (se_v fgv (fun _ => 0) i) i 0), ar_L rs cJ 10 frs, ar_I pa cI pl fpa] H := hP
    have hD : va_D A [ob_J sh 3 [.ref gv, .ref rs], ar_I gv cI 10 (upd (se_v fgv (fun _ => 0) i) i 0), ar_L rs cJ 10 frs, ar_I pa cI pl fpa] := hD
    refine lv_lload hx hb dX3_split_21 (lv_at hl 5 rfl) ?_
    refine lv_aload_n hx hb dX3_split_23 rfl (lv_at hl 2 rfl) ?_
    refine lv_iload_n hx hb dX3_split_24 rfl (lv_at hl 3 rfl) ?_
    refine lv_iload hx hb dX3_split_25 (lv_at hl 6 rfl) ?_
    refine lv_iadd hx hb dX3_split_27 ?_
    refine tp_i (x' := nI (fi + i)) (nn_add rfl rfl) ?_
    refine ar_ld hx hb hK hP 3 (k := fi + i) rfl rfl (by omega) (by omega) dX3_split_28 ?_
    refine tp_i (x' := nI (pp i)) ((hpp i (by omega)).1) ?_
    have hb_i := (hpp i (by omega)).2
    refine lv_i2l (v := lN (pp i)) hx hb dX3_split_29 (nI_l (n := pp i) (by omega)) ?_
    refine lv_ladd hx hb dX3_split_30 ?_
    refine tp_l (x' := lN ((sN_ pp i) + (pp i))) (lN_add _ _) ?_
    refine lv_lstore (lv' := [(5, .long (lN ((sN_ pp i) + (pp i)))), (0, .ref sh), (1, .int (nI am)), (2, .ref pa), (3, .int (nI fi)), (4, .int (nI n)), (7, .int (nI i))]) hx hb dX3_split_31 hl (by decide) rfl (fun ls hl => ?_)
    refine lv_iinc (v := nI (i + 1)) (lv' := [(7, .int (nI (i + 1))), (5, .long (lN ((sN_ pp i) + (pp i)))), (0, .ref sh), (1, .int (nI am)), (2, .ref pa), (3, .int (nI fi)), (4, .int (nI n))]) hx hb dX3_split_33 hl (k := 6) rfl (nI_1 _) (by decide) rfl (fun ls hl => ?_)
    refine lv_goto (tgt := 6) hx hb dX3_split_36 (by decide) ?_
    have q_20 : upd (se_v fgv (fun _ => 0) i) i 0 = se_v fgv (fun _ => 0) (i + 1) := se_s fgv (fun _ => 0) i
    obtain ⟨hP, hD⟩ := cs_W (fun z_z => [ob_J sh 3 [.ref gv, .ref rs], ar_I gv cI 10 z_z, ar_L rs cJ 10 frs, ar_I pa cI pl fpa]) q_20 hP hD
    have hl := lv_sub (l' := [(0, .ref sh), (1, .int (nI am)), (2, .ref pa), (3, .int (nI fi)), (4, .int (nI n)), (5, .long (lN ((sN_ pp i) + (pp i)))), (7, .int (nI (i + 1)))]) hl [2, 3, 4, 5, 6, 1, 0] rfl
    have q_21 : lN ((sN_ pp i) + (pp i)) = lN (sN_ pp (i + 1)) := rfl
    have hl := cs_L (fun z_z => [(0, .ref sh), (1, .int (nI am)), (2, .ref pa), (3, .int (nI fi)), (4, .int (nI n)), (5, .long z_z), (7, .int (nI (i + 1)))]) q_21 hl
    have hl : lv_has ls 11 [(0, .ref sh), (1, .int (nI am)), (2, .ref pa), (3, .int (nI fi)), (4, .int (nI n)), (5, .long (lN (sN_ pp (i + 1)))), (7, .int (nI (i + 1)))] := hl
    exact ih_6 (i + 1) (show n - (i + 1) < n - i from by omega) (show ((i + 1) ≤ n) from by omega) H locs ls hP hD hS hl
end
section
set_option maxHeartbeats 4000000 in
set_option maxRecDepth 100000 in
theorem k_X4_isShorter (l : Launch) (D : va_G) (cI cJ cZ : ClassId) (wy : Nat) (jp : Nat) (nx : Nat) (fjp : Nat → Int32) (kh : Nat) (kv : Nat) (hh : kh ≤ 100) (hv : kv ≤ 100) : mt_I l yX4_isShorter cX4_isShorter 3 .boolean 0 0 D cI cJ cZ [ob_J wy 4 [.ref jp, .ref nx], ar_I jp cI 101 fjp] [.ref wy, .int (nI kh), .int (nI kv)] (fun r (_ : Unit) => r = if ¬ fjp kv = -2 ∧ (fjp kh = -2 ∨ fjp kv + 1 < fjp kh) then 1 else 0) (fun u_u : Unit => [ob_J wy 4 [.ref jp, .ref nx], ar_I jp cI 101 fjp]) := by
  refine en_I (by decide) (Nat.le_of_ble_eq_true rfl) ?_
  intro p e s m below meth c A ls H locs hx hb hr hml hts hown hlk hN hK hA hP hD hS hl
  have hown : s.vm.findClass RX4 = some m.cls := hown
  have hl : lv_has ls 3 [(0, .ref wy), (1, .int (nI kh)), (2, .int (nI kv))] := hl
  refine lv_aload_n hx hb dX4_isShorter_0 rfl (lv_at hl 0 rfl) ?_
  refine va_get (ci := 4) (v := .ref jp) (C := RX4) (T := TX4) (N := 2) hx hb hts bi_4 hown hK hP 0 rfl rfl 0 (by decide) (hts _ bw_125) (fun _ h9 => h9) rfl dX4_isShorter_1 ?_
  refine lv_iload_n hx hb dX4_isShorter_4 rfl (lv_at hl 2 rfl) ?_
  refine ar_ld hx hb hK hP 1 (k := kv) rfl rfl (by omega) (by decide) dX4_isShorter_5 ?_
  refine lv_bipush (v := (-2)) hx hb dX4_isShorter_6 (by decide) ?_
  refine lv_icmp_eq (tgt := 43) hx hb dX4_isShorter_8 (by decide) (fun c_8 => ?_) (fun c_8 => ?_)
  · refine lv_iconst (v := 0) hx hb dX4_isShorter_43 (by decide) ?_
    exact re_I (w1 := fun u_u : Unit => [ob_J wy 4 [.ref jp, .ref nx], ar_I jp cI 101 fjp]) (v := 0) hx hb hr hlk hK hS rfl () hP hD (show _ = if ¬ fjp kv = -2 ∧ (fjp kh = -2 ∨ fjp kv + 1 < fjp kh) then _ else _ from (if_neg (fun z => z.1 c_8)).symm) dX4_isShorter_44
  · refine lv_aload_n hx hb dX4_isShorter_11 rfl (lv_at hl 0 rfl) ?_
    refine va_get (ci := 4) (v := .ref jp) (C := RX4) (T := TX4) (N := 2) hx hb hts bi_4 hown hK hP 0 rfl rfl 0 (by decide) (hts _ bw_125) (fun _ h9 => h9) rfl dX4_isShorter_12 ?_
    refine lv_iload_n hx hb dX4_isShorter_15 rfl (lv_at hl 1 rfl) ?_
    refine ar_ld hx hb hK hP 1 (k := kh) rfl rfl (by omega) (by decide) dX4_isShorter_16 ?_
    refine lv_bipush (v := (-2)) hx hb dX4_isShorter_17 (by decide) ?_
    refine lv_icmp_eq (tgt := 39) hx hb dX4_isShorter_19 (by decide) (fun c_19 => ?_) (fun c_19 => ?_)
    · refine lv_iconst (v := 1) hx hb dX4_isShorter_39 (by decide) ?_
      refine lv_goto (tgt := 44) hx hb dX4_isShorter_40 (by decide) ?_
      exact re_I (w1 := fun u_u : Unit => [ob_J wy 4 [.ref jp, .ref nx], ar_I jp cI 101 fjp]) (v := 1) hx hb hr hlk hK hS rfl () hP hD (show _ = if ¬ fjp kv = -2 ∧ (fjp kh = -2 ∨ fjp kv + 1 < fjp kh) then _ else _ from (if_pos ⟨c_8, Or.inl c_19⟩).symm) dX4_isShorter_44
    · refine lv_aload_n hx hb dX4_isShorter_22 rfl (lv_at hl 0 rfl) ?_
      refine va_get (ci := 4) (v := .ref jp) (C := RX4) (T := TX4) (N := 2) hx hb hts bi_4 hown hK hP 0 rfl rfl 0 (by decide) (hts _ bw_125) (fun _ h9 => h9) rfl dX4_isShorter_23 ?_
      refine lv_iload_n hx hb dX4_isShorter_26 rfl (lv_at hl 2 rfl) ?_
      refine ar_ld hx hb hK hP 1 (k := kv) rfl rfl (by omega) (by decide) dX4_isShorter_27 ?_
      refine lv_iconst (v := 1) hx hb dX4_isShorter_28 (by decide) ?_
      refine lv_iadd hx hb dX4_isShorter_29 ?_
      refine lv_aload_n hx hb dX4_isShorter_30 rfl (lv_at hl 0 rfl) ?_
      refine va_get (ci := 4) (v := .ref jp) (C := RX4) (T := TX4) (N := 2) hx hb hts bi_4 hown hK hP 0 rfl rfl 0 (by decide) (hts _ bw_125) (fun _ h9 => h9) rfl dX4_isShorter_31 ?_
      refine lv_iload_n hx hb dX4_isShorter_34 rfl (lv_at hl 1 rfl) ?_
      refine ar_ld hx hb hK hP 1 (k := kh) rfl rfl (by omega) (by decide) dX4_isShorter_35 ?_
      refine lv_icmp_ge (tgt := 43) hx hb dX4_isShorter_36 (by decide) (fun c_36 => ?_) (fun c_36 => ?_)
      · refine lv_iconst (v := 0) hx hb dX4_isShorter_43 (by decide) ?_
        exact re_I (w1 := fun u_u : Unit => [ob_J wy 4 [.ref jp, .ref nx], ar_I jp cI 101 fjp]) (v := 0) hx hb hr hlk hK hS rfl () hP hD (show _ = if ¬ fjp kv = -2 ∧ (fjp kh = -2 ∨ fjp kv + 1 < fjp kh) then _ else _ from (if_neg (fun z => z.2.elim c_19 (fun q => absurd q (Int32.not_lt.mpr c_36)))).symm) dX4_isShorter_44
      · refine lv_iconst (v := 1) hx hb dX4_isShorter_39 (by decide) ?_
        refine lv_goto (tgt := 44) hx hb dX4_isShorter_40 (by decide) ?_
        exact re_I (w1 := fun u_u : Unit => [ob_J wy 4 [.ref jp, .ref nx], ar_I jp cI 101 fjp]) (v := 1) hx hb hr hlk hK hS rfl () hP hD (show _ = if ¬ fjp kv = -2 ∧ (fjp kh = -2 ∨ fjp kv + 1 < fjp kh) then _ else _ from (if_pos ⟨c_8, Or.inr (Int32.not_le.mp c_36)⟩).symm) dX4_isShorter_44

set_option maxHeartbeats 4000000 in
set_option maxRecDepth 100000 in
theorem k_X4_planFrom (l : Launch) (D : va_G) (cI cJ cZ : ClassId) (wy : Nat) (jp : Nat) (nx : Nat) (st : Nat) (wt : Nat) (al : Nat) (br : Nat) (fjp : Nat → Int32) (fnx : Nat → Int32) (rw : Nat) (fx : Nat) (fwt : Nat → Int32) (fal : Nat → Int32) (fbr : Nat → Int32) (h : Nat) (to_ : Nat) (bb : Nat → Nat) (J : Nat → Nat) (hto : to_ ≤ 100) (hh : h < to_) (hbr : ∀ t, t ≤ to_ → fbr t = nI (bb t) ∧ bb t < 256) (hJ : ∀ v, h < v → v ≤ to_ → fjp v = jc_ (J v) ∧ (J v = 200 ∨ J v + v ≤ to_)) : mt_V l yX4_planFrom cX4_planFrom 5 4 90 D cI cJ cZ [ob_J wy 4 [.ref jp, .ref nx], ar_I jp cI 101 fjp, ar_I nx cI 101 fnx, ob_J st 2 [.ref wt, .ref rw, .ref al, .ref br, .ref fx], ar_I wt cI 808 fwt, ar_I al cI 101 fal, ar_I br cI 101 fbr] [.ref wy, .ref st, .int (nI h), .int (nI to_)] (fun u_u : (Nat) × (Nat) => ps_ (my_ fwt fal bb) J to_ h u_u.1 u_u.2) (fun u_u : (Nat) × (Nat) => [ob_J wy 4 [.ref jp, .ref nx], ar_I jp cI 101 (upd fjp h (jc_ u_u.1)), ar_I nx cI 101 (upd fnx h (nI u_u.2)), ob_J st 2 [.ref wt, .ref rw, .ref al, .ref br, .ref fx], ar_I wt cI 808 fwt, ar_I al cI 101 fal, ar_I br cI 101 fbr]) := by
  refine en_V (by decide) (Nat.le_of_ble_eq_true rfl) ?_
  intro p e s m below meth c A ls H locs hx hb hr hml hts hown hlk hN hK hA hP hD hS hl
  have hown : s.vm.findClass RX4 = some m.cls := hown
  have hl : lv_has ls 5 [(0, .ref wy), (1, .ref st), (2, .int (nI h)), (3, .int (nI to_))] := hl
  refine lv_aload_n hx hb dX4_planFrom_0 rfl (lv_at hl 0 rfl) ?_
  refine va_get (ci := 4) (v := .ref jp) (C := RX4) (T := TX4) (N := 2) hx hb hts bi_4 hown hK hP 0 rfl rfl 0 (by decide) (hts _ bw_125) (fun _ h9 => h9) rfl dX4_planFrom_1 ?_
  refine lv_iload_n hx hb dX4_planFrom_4 rfl (lv_at hl 2 rfl) ?_
  refine lv_bipush (v := (-2)) hx hb dX4_planFrom_5 (by decide) ?_
  refine ar_st hx hb hK hP hD hS 1 (k := h) rfl rfl (by omega) (by decide) dX4_planFrom_7 _ rfl (fun H locs hP hD hS => ?_)
  have hP : va_P D cl_A [ob_J wy 4 [.ref jp, .ref nx], ar_I jp cI 101 (upd fjp h (-2)), ar_I nx cI 101 fnx, ob_J st 2 [.ref wt, .ref rw, .ref al, .ref br, .ref fx], ar_I wt cI 808 fwt, ar_I al cI 101 fal, ar_I br cI 101 fbr] H := hP
  have hD : va_D A [ob_J wy 4 [.ref jp, .ref nx], ar_I jp cI 101 (upd fjp h (-2)), ar_I nx cI 101 fnx, ob_J st 2 [.ref wt, .ref rw, .ref al, .ref br, .ref fx], ar_I wt cI 808 fwt, ar_I al cI 101 fal, ar_I br cI 101 fbr] := hD
  refine lv_aload_n hx hb dX4_planFrom_8 rfl (lv_at hl 0 rfl) ?_
  refine va_get (ci := 4) (v := .ref nx) (C := RX4) (T := TX4) (N := 2) hx hb hts bi_4 hown hK hP 0 rfl rfl 1 (by decide) (hts _ bw_127) (fun _ h9 => h9) rfl dX4_planFrom_9 ?_
  refine lv_iload_n hx hb dX4_planFrom_12 rfl (lv_at hl 2 rfl) ?_
  refine lv_iload_n hx hb dX4_planFrom_13 rfl (lv_at hl 2 rfl) ?_
  refine ar_st hx hb hK hP hD hS 2 (k := h) rfl rfl (by omega) (by decide) dX4_planFrom_14 _ rfl (fun H locs hP hD hS => ?_)
  have hP : va_P D cl_A [ob_J wy 4 [.ref jp, .ref nx], ar_I jp cI 101 (upd fjp h (-2)), ar_I nx cI 101 (upd fnx h (nI h)), ob_J st 2 [.ref wt, .ref rw, .ref al, .ref br, .ref fx], ar_I wt cI 808 fwt, ar_I al cI 101 fal, ar_I br cI 101 fbr] H := hP
  have hD : va_D A [ob_J wy 4 [.ref jp, .ref nx], ar_I jp cI 101 (upd fjp h (-2)), ar_I nx cI 101 (upd fnx h (nI h)), ob_J st 2 [.ref wt, .ref rw, .ref al, .ref br, .ref fx], ar_I wt cI 808 fwt, ar_I al cI 101 fal, ar_I br cI 101 fbr] := hD
  refine lv_iload_n hx hb dX4_planFrom_15 rfl (lv_at hl 3 rfl) ?_
  refine lv_istore (lv' := [(4, .int (nI to_)), (0, .ref wy), (1, .ref st), (2, .int (nI h)), (3, .int (nI to_))]) hx hb dX4_planFrom_16 hl (by decide) rfl (fun ls hl => ?_)
  have q_1 : upd fjp h (-2) = upd fjp h (jc_ 200) := rfl
  obtain ⟨hP, hD⟩ := cs_W (fun z_z => [ob_J wy 4 [.ref jp, .ref nx], ar_I jp cI 101 z_z, ar_I nx cI 101 (upd fnx h (nI h)), ob_J st 2 [.ref wt, .ref rw, .ref al, .ref br, .ref fx], ar_I wt cI 808 fwt, ar_I al cI 101 fal, ar_I br cI 101 fbr]) q_1 hP hD
  have hl := lv_sub (l' := [(0, .ref wy), (1, .ref st), (2, .int (nI h)), (3, .int (nI to_)), (4, .int (nI to_))]) hl [1, 2, 3, 4, 0] rfl
  have hl : lv_has ls 5 [(0, .ref wy), (1, .ref st), (2, .int (nI h)), (3, .int (nI to_)), (4, .int (nI to_))] := hl
  refine lp_g (σ := (Nat) × (Nat) × (Nat)) (fun x_x => x_x.1) (fun x_x => [ob_J wy 4 [.ref jp, .ref nx], ar_I jp cI 101 (upd fjp h (jc_ x_x.2.1)), ar_I nx cI 101 (upd fnx h (nI x_x.2.2)), ob_J st 2 [.ref wt, .ref rw, .ref al, .ref br, .ref fx], ar_I wt cI 808 fwt, ar_I al cI 101 fal, ar_I br cI 101 fbr]) (fun x_x => [(0, .ref wy), (1, .ref st), (2, .int (nI h)), (3, .int (nI to_)), (4, .int (nI x_x.1))]) (fun x_x => (h ≤ x_x.1) ∧ (x_x.1 ≤ to_) ∧ (pp_ (my_ fwt fal bb) J to_ h x_x.1 x_x.2.1 x_x.2.2)) ?_ (to_, 200, h) (show (h ≤ to_) ∧ (to_ ≤ to_) ∧ (pp_ (my_ fwt fal bb) J to_ h to_ 200 h) from ⟨by omega, by omega, pp_0 _ _ _ _⟩) hP hD hS hl
  intro x_x H locs ls hF hP hD hS hl ih_18
  obtain ⟨v, j, b⟩ := x_x
  have hF : (h ≤ v) ∧ (v ≤ to_) ∧ (pp_ (my_ fwt fal bb) J to_ h v j b) := hF
  obtain ⟨hv, hvt, hpp⟩ := hF
  have hP : va_P D cl_A [ob_J wy 4 [.ref jp, .ref nx], ar_I jp cI 101 (upd fjp h (jc_ j)), ar_I nx cI 101 (upd fnx h (nI b)), ob_J st 2 [.ref wt, .ref rw, .ref al, .ref br, .ref fx], ar_I wt cI 808 fwt, ar_I al cI 101 fal, ar_I br cI 101 fbr] H := hP
  have hD : va_D A [ob_J wy 4 [.ref jp, .ref nx], ar_I jp cI 101 (upd fjp h (jc_ j)), ar_I nx cI 101 (upd fnx h (nI b)), ob_J st 2 [.ref wt, .ref rw, .ref al, .ref br, .ref fx], ar_I wt cI 808 fwt, ar_I al cI 101 fal, ar_I br cI 101 fbr] := hD
  have hl : lv_has ls 5 [(0, .ref wy), (1, .ref st), (2, .int (nI h)), (3, .int (nI to_)), (4, .int (nI v))] := hl
  have hjb := pp_j hpp hv (fun v h1 h2 => (hJ v h1 h2).2) hto
  refine lv_iload hx hb dX4_planFrom_18 (lv_at hl 4 rfl) ?_
  refine lv_iload_n hx hb dX4_planFrom_20 rfl (lv_at hl 2 rfl) ?_
  refine lv_icmp_le (tgt := 90) hx hb dX4_planFrom_21 (by decide) (fun c_21 => ?_) (fun c_21 => ?_)
  · have c_21 := qq_le (a := v) (b := h) c_21 (by omega) (by omega)
    exact re_V (w1 := fun u_u : (Nat) × (Nat) => [ob_J wy 4 [.ref jp, .ref nx], ar_I jp cI 101 (upd fjp h (jc_ u_u.1)), ar_I nx cI 101 (upd fnx h (nI u_u.2)), ob_J st 2 [.ref wt, .ref rw, .ref al, .ref br, .ref fx], ar_I wt cI 808 fwt, ar_I al cI 101 fal, ar_I br cI 101 fbr]) hx hb hr hlk hK hS (j, b) hP hD (show ps_ (my_ fwt fal bb) J to_ h j b from by exact pp_e1 hpp (by omega)) dX4_planFrom_90
  · have c_21 := qq_nle (a := v) (b := h) c_21 (by omega) (by omega)
    have hJv := (hJ v (by omega) hvt).2
    refine lv_aload_n hx hb dX4_planFrom_24 rfl (lv_at hl 0 rfl) ?_
    refine va_get (ci := 4) (v := .ref jp) (C := RX4) (T := TX4) (N := 2) hx hb hts bi_4 hown hK hP 0 rfl rfl 0 (by decide) (hts _ bw_125) (fun _ h9 => h9) rfl dX4_planFrom_25 ?_
    refine lv_iload_n hx hb dX4_planFrom_28 rfl (lv_at hl 2 rfl) ?_
    refine ar_ld hx hb hK hP 1 (k := h) rfl rfl (by omega) (by decide) dX4_planFrom_29 ?_
    refine tp_i (x' := jc_ j) (up_i _ _ _) ?_
    refine lv_iconst (v := 1) hx hb dX4_planFrom_30 (by decide) ?_
    refine lv_icmp_eq (tgt := 90) hx hb dX4_planFrom_31 (by decide) (fun c_31 => ?_) (fun c_31 => ?_)
    · exact re_V (w1 := fun u_u : (Nat) × (Nat) => [ob_J wy 4 [.ref jp, .ref nx], ar_I jp cI 101 (upd fjp h (jc_ u_u.1)), ar_I nx cI 101 (upd fnx h (nI u_u.2)), ob_J st 2 [.ref wt, .ref rw, .ref al, .ref br, .ref fx], ar_I wt cI 808 fwt, ar_I al cI 101 fal, ar_I br cI 101 fbr]) hx hb hr hlk hK hS (j, b) hP hD (show ps_ (my_ fwt fal bb) J to_ h j b from by exact pp_e2 hpp hv (jc_1 hjb c_31)) dX4_planFrom_90
    · refine lv_aload_n hx hb dX4_planFrom_34 rfl (lv_at hl 0 rfl) ?_
      refine lv_iload_n hx hb dX4_planFrom_35 rfl (lv_at hl 2 rfl) ?_
      refine lv_iload hx hb dX4_planFrom_36 (lv_at hl 4 rfl) ?_
      refine ca_VI (rest := []) (wr := [ar_I nx cI 101 (upd fnx h (nI b)), ob_J st 2 [.ref wt, .ref rw, .ref al, .ref br, .ref fx], ar_I wt cI 808 fwt, ar_I al cI 101 fal, ar_I br cI 101 fbr]) (w2 := fun u_u => [ob_J wy 4 [.ref jp, .ref nx], ar_I jp cI 101 (upd fjp h (jc_ j)), ar_I nx cI 101 (upd fnx h (nI b)), ob_J st 2 [.ref wt, .ref rw, .ref al, .ref br, .ref fx], ar_I wt cI 808 fwt, ar_I al cI 101 fal, ar_I br cI 101 fbr]) (k_X4_isShorter l D cI cJ cZ wy jp nx (upd fjp h (jc_ j)) h v (by first | assumption | omega) (by first | assumption | omega)) hx hb hml hown hts hN hK hA hP hD hS 4 0 rfl rfl bw_371 bw_372 bw_373 bw_6 bw_374 2 rfl (by decide +kernel) ⟨by decide, by decide⟩ [0, 1] [2, 3, 4, 5, 6] [5, 6, 0, 1, 2, 3, 4] rfl rfl (by decide) (fun _ => rfl) hl.1 rfl (Nat.le_of_ble_eq_true rfl) dX4_planFrom_38 ⟨Nat.zero_le _, Nat.zero_le _⟩ (fun r_38 u_u H locs w_38 hP hD hS => ?_)
      have hP : va_P D cl_A [ob_J wy 4 [.ref jp, .ref nx], ar_I jp cI 101 (upd fjp h (jc_ j)), ar_I nx cI 101 (upd fnx h (nI b)), ob_J st 2 [.ref wt, .ref rw, .ref al, .ref br, .ref fx], ar_I wt cI 808 fwt, ar_I al cI 101 fal, ar_I br cI 101 fbr] H := hP
      have hD : va_D A [ob_J wy 4 [.ref jp, .ref nx], ar_I jp cI 101 (upd fjp h (jc_ j)), ar_I nx cI 101 (upd fnx h (nI b)), ob_J st 2 [.ref wt, .ref rw, .ref al, .ref br, .ref fx], ar_I wt cI 808 fwt, ar_I al cI 101 fal, ar_I br cI 101 fbr] := hD
      have w_38 : r_38 = if ¬ (upd fjp h (jc_ j)) v = -2 ∧ ((upd fjp h (jc_ j)) h = -2 ∨ (upd fjp h (jc_ j)) v + 1 < (upd fjp h (jc_ j)) h) then 1 else 0 := w_38
      by_cases h_38 : ¬ (upd fjp h (jc_ j)) v = -2 ∧ ((upd fjp h (jc_ j)) h = -2 ∨ (upd fjp h (jc_ j)) v + 1 < (upd fjp h (jc_ j)) h)
      · rw [if_pos h_38] at w_38; subst w_38
        have hsh := (is_n (up_n _ _ _ _ (by omega) |>.trans (hJ v (by omega) hvt).1) (up_i _ _ _) (by omega) (by omega)).mp h_38
        refine lv_if_eq (tgt := 84) hx hb dX4_planFrom_41 (by decide) (fun h9 => absurd h9 (by decide)) (fun _ => ?_)
        refine lv_aload_n hx hb dX4_planFrom_44 rfl (lv_at hl 1 rfl) ?_
        refine lv_iload_n hx hb dX4_planFrom_45 rfl (lv_at hl 2 rfl) ?_
        refine lv_iload hx hb dX4_planFrom_46 (lv_at hl 4 rfl) ?_
        refine lv_aload_n hx hb dX4_planFrom_48 rfl (lv_at hl 1 rfl) ?_
        refine va_get (ci := 2) (v := .ref br) (C := RX2) (T := TX2) (N := 5) hx hb hts bi_2 hown hK hP 3 rfl rfl 3 (by decide) (hts _ bw_90) (fun _ h9 => h9) rfl dX4_planFrom_49 ?_
        refine lv_iload hx hb dX4_planFrom_52 (lv_at hl 4 rfl) ?_
        refine ar_ld hx hb hK hP 6 (k := v) rfl rfl (by omega) (by decide) dX4_planFrom_54 ?_
        refine tp_i (x' := nI (bb v)) ((hbr v hvt).1) ?_
        refine ca_VI (rest := []) (wr := [ob_J wy 4 [.ref jp, .ref nx], ar_I jp cI 101 (upd fjp h (jc_ j)), ar_I nx cI 101 (upd fnx h (nI b)), ar_I br cI 101 fbr]) (w2 := fun u_u => [ob_J wy 4 [.ref jp, .ref nx], ar_I jp cI 101 (upd fjp h (jc_ j)), ar_I nx cI 101 (upd fnx h (nI b)), ob_J st 2 [.ref wt, .ref rw, .ref al, .ref br, .ref fx], ar_I wt cI 808 fwt, ar_I al cI 101 fal, ar_I br cI 101 fbr]) (k_X2_allowsJump l D cI cJ cZ st wt al rw br fx fwt fal h v (bb v) (by first | assumption | omega) (by first | assumption | omega) ((hbr v hvt).2)) hx hb hml hown hts hN hK hA hP hD hS 2 0 rfl rfl bw_375 bw_346 bw_347 bw_4 bw_348 3 rfl (by decide +kernel) ⟨by decide, by decide⟩ [3, 4, 5] [0, 1, 2, 6] [0, 1, 2, 4, 5, 6, 3] rfl rfl (by decide) (fun _ => rfl) hl.1 rfl (Nat.le_of_ble_eq_true rfl) dX4_planFrom_55 ⟨Nat.zero_le _, Nat.zero_le _⟩ (fun r_55 u_u H locs w_55 hP hD hS => ?_)
        have hP : va_P D cl_A [ob_J wy 4 [.ref jp, .ref nx], ar_I jp cI 101 (upd fjp h (jc_ j)), ar_I nx cI 101 (upd fnx h (nI b)), ob_J st 2 [.ref wt, .ref rw, .ref al, .ref br, .ref fx], ar_I wt cI 808 fwt, ar_I al cI 101 fal, ar_I br cI 101 fbr] H := hP
        have hD : va_D A [ob_J wy 4 [.ref jp, .ref nx], ar_I jp cI 101 (upd fjp h (jc_ j)), ar_I nx cI 101 (upd fnx h (nI b)), ob_J st 2 [.ref wt, .ref rw, .ref al, .ref br, .ref fx], ar_I wt cI 808 fwt, ar_I al cI 101 fal, ar_I br cI 101 fbr] := hD
        have w_55 : r_55 = if 2 * fal v < 3 * wo_ fwt v (bb v) 8 ∧ fal h < 3 * wo_ fwt h (bb v) 8 then 1 else 0 := w_55
        by_cases h_55 : 2 * fal v < 3 * wo_ fwt v (bb v) 8 ∧ fal h < 3 * wo_ fwt h (bb v) 8
        · rw [if_pos h_55] at w_55; subst w_55
          refine lv_if_eq (tgt := 84) hx hb dX4_planFrom_58 (by decide) (fun h9 => absurd h9 (by decide)) (fun _ => ?_)
          refine lv_aload_n hx hb dX4_planFrom_61 rfl (lv_at hl 0 rfl) ?_
          refine va_get (ci := 4) (v := .ref jp) (C := RX4) (T := TX4) (N := 2) hx hb hts bi_4 hown hK hP 0 rfl rfl 0 (by decide) (hts _ bw_125) (fun _ h9 => h9) rfl dX4_planFrom_62 ?_
          refine lv_iload_n hx hb dX4_planFrom_65 rfl (lv_at hl 2 rfl) ?_
          refine lv_aload_n hx hb dX4_planFrom_66 rfl (lv_at hl 0 rfl) ?_
          refine va_get (ci := 4) (v := .ref jp) (C := RX4) (T := TX4) (N := 2) hx hb hts bi_4 hown hK hP 0 rfl rfl 0 (by decide) (hts _ bw_125) (fun _ h9 => h9) rfl dX4_planFrom_67 ?_
          refine lv_iload hx hb dX4_planFrom_70 (lv_at hl 4 rfl) ?_
          refine ar_ld hx hb hK hP 1 (k := v) rfl rfl (by omega) (by decide) dX4_planFrom_72 ?_
          refine tp_i (x' := nI (J v)) ((up_n _ _ _ _ (by omega)).trans ((hJ v (by omega) hvt).1.trans (jc_n hsh.1))) ?_
          refine lv_iconst (v := 1) hx hb dX4_planFrom_73 (by decide) ?_
          refine lv_iadd hx hb dX4_planFrom_74 ?_
          refine tp_i (x' := nI ((J v) + 1)) (nn_add rfl rfl) ?_
          refine ar_st hx hb hK hP hD hS 1 (k := h) rfl rfl (by omega) (by decide) dX4_planFrom_75 _ rfl (fun H locs hP hD hS => ?_)
          have hP : va_P D cl_A [ob_J wy 4 [.ref jp, .ref nx], ar_I jp cI 101 (upd (upd fjp h (jc_ j)) h (nI ((J v) + 1))), ar_I nx cI 101 (upd fnx h (nI b)), ob_J st 2 [.ref wt, .ref rw, .ref al, .ref br, .ref fx], ar_I wt cI 808 fwt, ar_I al cI 101 fal, ar_I br cI 101 fbr] H := hP
          have hD : va_D A [ob_J wy 4 [.ref jp, .ref nx], ar_I jp cI 101 (upd (upd fjp h (jc_ j)) h (nI ((J v) + 1))), ar_I nx cI 101 (upd fnx h (nI b)), ob_J st 2 [.ref wt, .ref rw, .ref al, .ref br, .ref fx], ar_I wt cI 808 fwt, ar_I al cI 101 fal, ar_I br cI 101 fbr] := hD
          refine lv_aload_n hx hb dX4_planFrom_76 rfl (lv_at hl 0 rfl) ?_
          refine va_get (ci := 4) (v := .ref nx) (C := RX4) (T := TX4) (N := 2) hx hb hts bi_4 hown hK hP 0 rfl rfl 1 (by decide) (hts _ bw_127) (fun _ h9 => h9) rfl dX4_planFrom_77 ?_
          refine lv_iload_n hx hb dX4_planFrom_80 rfl (lv_at hl 2 rfl) ?_
          refine lv_iload hx hb dX4_planFrom_81 (lv_at hl 4 rfl) ?_
          refine ar_st hx hb hK hP hD hS 2 (k := h) rfl rfl (by omega) (by decide) dX4_planFrom_83 _ rfl (fun H locs hP hD hS => ?_)
          have hP : va_P D cl_A [ob_J wy 4 [.ref jp, .ref nx], ar_I jp cI 101 (upd (upd fjp h (jc_ j)) h (nI ((J v) + 1))), ar_I nx cI 101 (upd (upd fnx h (nI b)) h (nI v)), ob_J st 2 [.ref wt, .ref rw, .ref al, .ref br, .ref fx], ar_I wt cI 808 fwt, ar_I al cI 101 fal, ar_I br cI 101 fbr] H := hP
          have hD : va_D A [ob_J wy 4 [.ref jp, .ref nx], ar_I jp cI 101 (upd (upd fjp h (jc_ j)) h (nI ((J v) + 1))), ar_I nx cI 101 (upd (upd fnx h (nI b)) h (nI v)), ob_J st 2 [.ref wt, .ref rw, .ref al, .ref br, .ref fx], ar_I wt cI 808 fwt, ar_I al cI 101 fal, ar_I br cI 101 fbr] := hD
          refine lv_iinc (v := nI (v - 1)) (lv' := [(4, .int (nI (v - 1))), (0, .ref wy), (1, .ref st), (2, .int (nI h)), (3, .int (nI to_))]) hx hb dX4_planFrom_84 hl (k := 4) rfl (nn_dec (by omega)) (by decide) rfl (fun ls hl => ?_)
          refine lv_goto (tgt := 18) hx hb dX4_planFrom_87 (by decide) ?_
          have q_2 : upd (upd fjp h (jc_ j)) h (nI ((J v) + 1)) = upd fjp h (jc_ (J v + 1)) := by rw [up_uu, jc_n (by omega)]
          obtain ⟨hP, hD⟩ := cs_W (fun z_z => [ob_J wy 4 [.ref jp, .ref nx], ar_I jp cI 101 z_z, ar_I nx cI 101 (upd (upd fnx h (nI b)) h (nI v)), ob_J st 2 [.ref wt, .ref rw, .ref al, .ref br, .ref fx], ar_I wt cI 808 fwt, ar_I al cI 101 fal, ar_I br cI 101 fbr]) q_2 hP hD
          have q_3 : upd (upd fnx h (nI b)) h (nI v) = upd fnx h (nI v) := up_uu _ _ _ _
          obtain ⟨hP, hD⟩ := cs_W (fun z_z => [ob_J wy 4 [.ref jp, .ref nx], ar_I jp cI 101 (upd fjp h (jc_ (J v + 1))), ar_I nx cI 101 z_z, ob_J st 2 [.ref wt, .ref rw, .ref al, .ref br, .ref fx], ar_I wt cI 808 fwt, ar_I al cI 101 fal, ar_I br cI 101 fbr]) q_3 hP hD
          have hl := lv_sub (l' := [(0, .ref wy), (1, .ref st), (2, .int (nI h)), (3, .int (nI to_)), (4, .int (nI (v - 1)))]) hl [1, 2, 3, 4, 0] rfl
          have hl : lv_has ls 5 [(0, .ref wy), (1, .ref st), (2, .int (nI h)), (3, .int (nI to_)), (4, .int (nI (v - 1)))] := hl
          exact ih_18 (v - 1, J v + 1, v) (show (v - 1) < v from by omega) (show (h ≤ (v - 1)) ∧ ((v - 1) ≤ to_) ∧ (pp_ (my_ fwt fal bb) J to_ h (v - 1) (J v + 1) v) from ⟨by omega, by omega, pp_1 hpp c_21 hvt hsh.1 hsh.2 h_55 (fun v h1 h2 => (hJ v h1 h2).2) hto⟩) H locs ls hP hD hS hl
        · rw [if_neg h_55] at w_55; subst w_55
          refine lv_if_eq (tgt := 84) hx hb dX4_planFrom_58 (by decide) (fun _ => ?_) (fun h9 => absurd (by decide) h9)
          refine lv_iinc (v := nI (v - 1)) (lv' := [(4, .int (nI (v - 1))), (0, .ref wy), (1, .ref st), (2, .int (nI h)), (3, .int (nI to_))]) hx hb dX4_planFrom_84 hl (k := 4) rfl (nn_dec (by omega)) (by decide) rfl (fun ls hl => ?_)
          refine lv_goto (tgt := 18) hx hb dX4_planFrom_87 (by decide) ?_
          have hl := lv_sub (l' := [(0, .ref wy), (1, .ref st), (2, .int (nI h)), (3, .int (nI to_)), (4, .int (nI (v - 1)))]) hl [1, 2, 3, 4, 0] rfl
          have hl : lv_has ls 5 [(0, .ref wy), (1, .ref st), (2, .int (nI h)), (3, .int (nI to_)), (4, .int (nI (v - 1)))] := hl
          exact ih_18 (v - 1, j, b) (show (v - 1) < v from by omega) (show (h ≤ (v - 1)) ∧ ((v - 1) ≤ to_) ∧ (pp_ (my_ fwt fal bb) J to_ h (v - 1) j b) from ⟨by omega, by omega, pp_2 hpp c_21 (fun z => h_55 z.2.2)⟩) H locs ls hP hD hS hl
      · rw [if_neg h_38] at w_38; subst w_38
        refine lv_if_eq (tgt := 84) hx hb dX4_planFrom_41 (by decide) (fun _ => ?_) (fun h9 => absurd (by decide) h9)
        refine lv_iinc (v := nI (v - 1)) (lv' := [(4, .int (nI (v - 1))), (0, .ref wy), (1, .ref st), (2, .int (nI h)), (3, .int (nI to_))]) hx hb dX4_planFrom_84 hl (k := 4) rfl (nn_dec (by omega)) (by decide) rfl (fun ls hl => ?_)
        refine lv_goto (tgt := 18) hx hb dX4_planFrom_87 (by decide) ?_
        have hl := lv_sub (l' := [(0, .ref wy), (1, .ref st), (2, .int (nI h)), (3, .int (nI to_)), (4, .int (nI (v - 1)))]) hl [1, 2, 3, 4, 0] rfl
        have hl : lv_has ls 5 [(0, .ref wy), (1, .ref st), (2, .int (nI h)), (3, .int (nI to_)), (4, .int (nI (v - 1)))] := hl
        exact ih_18 (v - 1, j, b) (show (v - 1) < v from by omega) (show (h ≤ (v - 1)) ∧ ((v - 1) ≤ to_) ∧ (pp_ (my_ fwt fal bb) J to_ h (v - 1) j b) from ⟨by omega, by omega, pp_2 hpp c_21 (fun z => h_38 ((is_n (up_n _ _ _ _ (by omega) |>.trans (hJ v (by omega) hvt).1) (up_i _ _ _) (by omega) (by omega)).mpr ⟨z.1, z.2.1⟩))⟩) H locs ls hP hD hS hl

set_option maxHeartbeats 4000000 in
set_option maxRecDepth 100000 in
theorem k_X4_plan (l : Launch) (D : va_G) (cI cJ cZ : ClassId) (wy : Nat) (jp : Nat) (nx : Nat) (st : Nat) (wt : Nat) (al : Nat) (br : Nat) (fjp : Nat → Int32) (fnx : Nat → Int32) (rw : Nat) (fx : Nat) (fwt : Nat → Int32) (fal : Nat → Int32) (fbr : Nat → Int32) (fr_ : Nat) (to_ : Nat) (bb : Nat → Nat) (hto : to_ ≤ 100) (hft : fr_ < to_) (hbr : ∀ t, t ≤ to_ → fbr t = nI (bb t) ∧ bb t < 256) : mt_V l yX4_plan cX4_plan 5 5 114 D cI cJ cZ [ob_J wy 4 [.ref jp, .ref nx], ar_I jp cI 101 fjp, ar_I nx cI 101 fnx, ob_J st 2 [.ref wt, .ref rw, .ref al, .ref br, .ref fx], ar_I wt cI 808 fwt, ar_I al cI 101 fal, ar_I br cI 101 fbr] [.ref wy, .ref st, .int (nI fr_), .int (nI to_)] (fun u_u : (Nat → Int32) × (Nat → Int32) × (Nat → Nat) × (Nat → Nat) => PL_ (my_ fwt fal bb) u_u.2.2.1 u_u.2.2.2 fr_ to_ ∧ ∀ v, fr_ ≤ v → v ≤ to_ → u_u.1 v = jc_ (u_u.2.2.1 v) ∧ u_u.2.1 v = nI (u_u.2.2.2 v)) (fun u_u : (Nat → Int32) × (Nat → Int32) × (Nat → Nat) × (Nat → Nat) => [ob_J wy 4 [.ref jp, .ref nx], ar_I jp cI 101 u_u.1, ar_I nx cI 101 u_u.2.1, ob_J st 2 [.ref wt, .ref rw, .ref al, .ref br, .ref fx], ar_I wt cI 808 fwt, ar_I al cI 101 fal, ar_I br cI 101 fbr]) := by
  refine en_V (by decide) (Nat.le_of_ble_eq_true rfl) ?_
  intro p e s m below meth c A ls H locs hx hb hr hml hts hown hlk hN hK hA hP hD hS hl
  have hown : s.vm.findClass RX4 = some m.cls := hown
  have hl : lv_has ls 5 [(0, .ref wy), (1, .ref st), (2, .int (nI fr_)), (3, .int (nI to_))] := hl
  refine lv_aload_n hx hb dX4_plan_0 rfl (lv_at hl 0 rfl) ?_
  refine va_get (ci := 4) (v := .ref jp) (C := RX4) (T := TX4) (N := 2) hx hb hts bi_4 hown hK hP 0 rfl rfl 0 (by decide) (hts _ bw_125) (fun _ h9 => h9) rfl dX4_plan_1 ?_
  refine lv_iload_n hx hb dX4_plan_4 rfl (lv_at hl 3 rfl) ?_
  refine lv_iconst (v := 0) hx hb dX4_plan_5 (by decide) ?_
  refine ar_st hx hb hK hP hD hS 1 (k := to_) rfl rfl (by omega) (by decide) dX4_plan_6 _ rfl (fun H locs hP hD hS => ?_)
  have hP : va_P D cl_A [ob_J wy 4 [.ref jp, .ref nx], ar_I jp cI 101 (upd fjp to_ 0), ar_I nx cI 101 fnx, ob_J st 2 [.ref wt, .ref rw, .ref al, .ref br, .ref fx], ar_I wt cI 808 fwt, ar_I al cI 101 fal, ar_I br cI 101 fbr] H := hP
  have hD : va_D A [ob_J wy 4 [.ref jp, .ref nx], ar_I jp cI 101 (upd fjp to_ 0), ar_I nx cI 101 fnx, ob_J st 2 [.ref wt, .ref rw, .ref al, .ref br, .ref fx], ar_I wt cI 808 fwt, ar_I al cI 101 fal, ar_I br cI 101 fbr] := hD
  refine lv_aload_n hx hb dX4_plan_7 rfl (lv_at hl 0 rfl) ?_
  refine va_get (ci := 4) (v := .ref nx) (C := RX4) (T := TX4) (N := 2) hx hb hts bi_4 hown hK hP 0 rfl rfl 1 (by decide) (hts _ bw_127) (fun _ h9 => h9) rfl dX4_plan_8 ?_
  refine lv_iload_n hx hb dX4_plan_11 rfl (lv_at hl 3 rfl) ?_
  refine lv_iload_n hx hb dX4_plan_12 rfl (lv_at hl 3 rfl) ?_
  refine ar_st hx hb hK hP hD hS 2 (k := to_) rfl rfl (by omega) (by decide) dX4_plan_13 _ rfl (fun H locs hP hD hS => ?_)
  have hP : va_P D cl_A [ob_J wy 4 [.ref jp, .ref nx], ar_I jp cI 101 (upd fjp to_ 0), ar_I nx cI 101 (upd fnx to_ (nI to_)), ob_J st 2 [.ref wt, .ref rw, .ref al, .ref br, .ref fx], ar_I wt cI 808 fwt, ar_I al cI 101 fal, ar_I br cI 101 fbr] H := hP
  have hD : va_D A [ob_J wy 4 [.ref jp, .ref nx], ar_I jp cI 101 (upd fjp to_ 0), ar_I nx cI 101 (upd fnx to_ (nI to_)), ob_J st 2 [.ref wt, .ref rw, .ref al, .ref br, .ref fx], ar_I wt cI 808 fwt, ar_I al cI 101 fal, ar_I br cI 101 fbr] := hD
  refine lv_iload_n hx hb dX4_plan_14 rfl (lv_at hl 3 rfl) ?_
  refine lv_iconst (v := 1) hx hb dX4_plan_15 (by decide) ?_
  refine lv_isub hx hb dX4_plan_16 ?_
  refine tp_i (x' := nI (to_ - 1)) (nn_sub rfl rfl (by omega)) ?_
  refine lv_istore (lv' := [(4, .int (nI (to_ - 1))), (0, .ref wy), (1, .ref st), (2, .int (nI fr_)), (3, .int (nI to_))]) hx hb dX4_plan_17 hl (by decide) rfl (fun ls hl => ?_)
  have hl := lv_sub (l' := [(0, .ref wy), (1, .ref st), (2, .int (nI fr_)), (3, .int (nI to_)), (4, .int (nI (to_ - 1)))]) hl [1, 2, 3, 4, 0] rfl
  have q_1 : nI (to_ - 1) = (nI to_) + (-1) := by rw [← sb_m1 (by omega)]
  have hl := cs_L (fun z_z => [(0, .ref wy), (1, .ref st), (2, .int (nI fr_)), (3, .int (nI to_)), (4, .int z_z)]) q_1 hl
  have hl : lv_has ls 5 [(0, .ref wy), (1, .ref st), (2, .int (nI fr_)), (3, .int (nI to_)), (4, .int ((nI to_) + (-1)))] := hl
  refine lp_g (σ := (Nat) × (Nat → Int32) × (Nat → Int32) × (Nat → Nat) × (Nat → Nat)) (fun x_x => x_x.1) (fun x_x => [ob_J wy 4 [.ref jp, .ref nx], ar_I jp cI 101 x_x.2.1, ar_I nx cI 101 x_x.2.2.1, ob_J st 2 [.ref wt, .ref rw, .ref al, .ref br, .ref fx], ar_I wt cI 808 fwt, ar_I al cI 101 fal, ar_I br cI 101 fbr]) (fun x_x => [(0, .ref wy), (1, .ref st), (2, .int (nI fr_)), (3, .int (nI to_)), (4, .int ((nI x_x.1) + (-1)))]) (fun x_x => (fr_ ≤ x_x.1) ∧ (x_x.1 ≤ to_) ∧ (PL_ (my_ fwt fal bb) x_x.2.2.2.1 x_x.2.2.2.2 x_x.1 to_) ∧ (∀ v, x_x.1 ≤ v → v ≤ to_ → x_x.2.1 v = jc_ (x_x.2.2.2.1 v) ∧ x_x.2.2.1 v = nI (x_x.2.2.2.2 v))) ?_ (to_, upd fjp to_ 0, upd fnx to_ (nI to_), fun _ => 0, fun _ => to_) (show (fr_ ≤ to_) ∧ (to_ ≤ to_) ∧ (PL_ (my_ fwt fal bb) (fun _ => 0) (fun _ => to_) to_ to_) ∧ (∀ v, to_ ≤ v → v ≤ to_ → (upd fjp to_ 0) v = jc_ ((fun _ => 0) v) ∧ (upd fnx to_ (nI to_)) v = nI ((fun _ => to_) v)) from ⟨by omega, by omega, pl_0, fun v h1 h2 => by
    have e : v = to_ := by omega
    subst e
    exact ⟨up_i _ _ _, up_i _ _ _⟩⟩) hP hD hS hl
  intro x_x H locs ls hF hP hD hS hl ih_19
  obtain ⟨k, fj, fn, J, B⟩ := x_x
  have hF : (fr_ ≤ k) ∧ (k ≤ to_) ∧ (PL_ (my_ fwt fal bb) J B k to_) ∧ (∀ v, k ≤ v → v ≤ to_ → fj v = jc_ (J v) ∧ fn v = nI (B v)) := hF
  obtain ⟨hk1, hk2, hpl, hfj⟩ := hF
  have hP : va_P D cl_A [ob_J wy 4 [.ref jp, .ref nx], ar_I jp cI 101 fj, ar_I nx cI 101 fn, ob_J st 2 [.ref wt, .ref rw, .ref al, .ref br, .ref fx], ar_I wt cI 808 fwt, ar_I al cI 101 fal, ar_I br cI 101 fbr] H := hP
  have hD : va_D A [ob_J wy 4 [.ref jp, .ref nx], ar_I jp cI 101 fj, ar_I nx cI 101 fn, ob_J st 2 [.ref wt, .ref rw, .ref al, .ref br, .ref fx], ar_I wt cI 808 fwt, ar_I al cI 101 fal, ar_I br cI 101 fbr] := hD
  have hl : lv_has ls 5 [(0, .ref wy), (1, .ref st), (2, .int (nI fr_)), (3, .int (nI to_)), (4, .int ((nI k) + (-1)))] := hl
  refine lv_iload hx hb dX4_plan_19 (lv_at hl 4 rfl) ?_
  refine lv_iload_n hx hb dX4_plan_21 rfl (lv_at hl 2 rfl) ?_
  refine lv_icmp_lt (tgt := 39) hx hb dX4_plan_22 (by decide) (fun c_22 => ?_) (fun c_22 => ?_)
  · exact re_V (w1 := fun u_u : (Nat → Int32) × (Nat → Int32) × (Nat → Nat) × (Nat → Nat) => [ob_J wy 4 [.ref jp, .ref nx], ar_I jp cI 101 u_u.1, ar_I nx cI 101 u_u.2.1, ob_J st 2 [.ref wt, .ref rw, .ref al, .ref br, .ref fx], ar_I wt cI 808 fwt, ar_I al cI 101 fal, ar_I br cI 101 fbr]) hx hb hr hlk hK hS (fj, fn, J, B) hP hD (show PL_ (my_ fwt fal bb) J B fr_ to_ ∧ ∀ v, fr_ ≤ v → v ≤ to_ → fj v = jc_ (J v) ∧ fn v = nI (B v) from by rw [dn_ge (by omega) hk1 c_22] at hpl hfj; exact ⟨hpl, hfj⟩) dX4_plan_39
  · have hkf : fr_ < k := dn_lt (by omega) hk1 c_22
    have q_2 : (nI k) + (-1) = nI (k - 1) := sb_m1 (by omega)
    have hl := cs_L (fun z_z => [(0, .ref wy), (1, .ref st), (2, .int (nI fr_)), (3, .int (nI to_)), (4, .int z_z)]) q_2 hl
    have hl : lv_has ls 5 [(0, .ref wy), (1, .ref st), (2, .int (nI fr_)), (3, .int (nI to_)), (4, .int (nI (k - 1)))] := hl
    refine lv_aload_n hx hb dX4_plan_25 rfl (lv_at hl 0 rfl) ?_
    refine lv_aload_n hx hb dX4_plan_26 rfl (lv_at hl 1 rfl) ?_
    refine lv_iload hx hb dX4_plan_27 (lv_at hl 4 rfl) ?_
    refine lv_iload_n hx hb dX4_plan_29 rfl (lv_at hl 3 rfl) ?_
    refine ca_VV (rest := []) (wr := []) (w2 := fun u_u => [ob_J wy 4 [.ref jp, .ref nx], ar_I jp cI 101 (upd fj (k - 1) (jc_ u_u.1)), ar_I nx cI 101 (upd fn (k - 1) (nI u_u.2)), ob_J st 2 [.ref wt, .ref rw, .ref al, .ref br, .ref fx], ar_I wt cI 808 fwt, ar_I al cI 101 fal, ar_I br cI 101 fbr]) (k_X4_planFrom l D cI cJ cZ wy jp nx st wt al br fj fn rw fx fwt fal fbr (k - 1) to_ bb J (by first | assumption | omega) (by first | assumption | omega) (hbr) (fun v h1 h2 => ⟨(hfj v (by omega) h2).1, pl_b hpl (to_ - v) v (Nat.le_refl _) (by omega) h2⟩)) hx hb hml hown hts hN hK hA hP hD hS 4 0 rfl rfl bw_367 bw_368 bw_369 bw_6 bw_370 3 rfl (by decide +kernel) ⟨by decide, by decide⟩ [0, 1, 2, 3, 4, 5, 6] [] [0, 1, 2, 3, 4, 5, 6] rfl rfl (by decide) (fun _ => rfl) hl.1 rfl (Nat.le_of_ble_eq_true rfl) dX4_plan_30 ⟨Nat.zero_le _, Nat.zero_le _⟩ (fun u_u H locs w_30 hP hD hS => ?_)
    obtain ⟨zj_3, zb_4⟩ := u_u
    have hP : va_P D cl_A [ob_J wy 4 [.ref jp, .ref nx], ar_I jp cI 101 (upd fj (k - 1) (jc_ zj_3)), ar_I nx cI 101 (upd fn (k - 1) (nI zb_4)), ob_J st 2 [.ref wt, .ref rw, .ref al, .ref br, .ref fx], ar_I wt cI 808 fwt, ar_I al cI 101 fal, ar_I br cI 101 fbr] H := hP
    have hD : va_D A [ob_J wy 4 [.ref jp, .ref nx], ar_I jp cI 101 (upd fj (k - 1) (jc_ zj_3)), ar_I nx cI 101 (upd fn (k - 1) (nI zb_4)), ob_J st 2 [.ref wt, .ref rw, .ref al, .ref br, .ref fx], ar_I wt cI 808 fwt, ar_I al cI 101 fal, ar_I br cI 101 fbr] := hD
    have w_30 : ps_ (my_ fwt fal bb) J to_ (k - 1) zj_3 zb_4 := w_30
    refine lv_iinc (v := (nI (k - 1)) + (-1)) (lv' := [(4, .int ((nI (k - 1)) + (-1))), (0, .ref wy), (1, .ref st), (2, .int (nI fr_)), (3, .int (nI to_))]) hx hb dX4_plan_33 hl (k := 4) rfl (rfl) (by decide) rfl (fun ls hl => ?_)
    refine lv_goto (tgt := 19) hx hb dX4_plan_36 (by decide) ?_
    have hl := lv_sub (l' := [(0, .ref wy), (1, .ref st), (2, .int (nI fr_)), (3, .int (nI to_)), (4, .int ((nI (k - 1)) + (-1)))]) hl [1, 2, 3, 4, 0] rfl
    have hl : lv_has ls 5 [(0, .ref wy), (1, .ref st), (2, .int (nI fr_)), (3, .int (nI to_)), (4, .int ((nI (k - 1)) + (-1)))] := hl
    exact ih_19 (k - 1, upd fj (k - 1) (jc_ zj_3), upd fn (k - 1) (nI zb_4), un_ J (k - 1) zj_3, un_ B (k - 1) zb_4) (show (k - 1) < k from by omega) (show (fr_ ≤ (k - 1)) ∧ ((k - 1) ≤ to_) ∧ (PL_ (my_ fwt fal bb) (un_ J (k - 1) zj_3) (un_ B (k - 1) zb_4) (k - 1) to_) ∧ (∀ v, (k - 1) ≤ v → v ≤ to_ → (upd fj (k - 1) (jc_ zj_3)) v = jc_ ((un_ J (k - 1) zj_3) v) ∧ (upd fn (k - 1) (nI zb_4)) v = nI ((un_ B (k - 1) zb_4) v)) from ⟨by omega, by omega, pl_s hpl (by omega) hk2 w_30, fun v h1 h2 => by
      by_cases e : v = k - 1
      · subst e; exact ⟨by rw [up_i, un_i], by rw [up_i, un_i]⟩
      · rw [up_n _ _ _ _ e, up_n _ _ _ _ e, un_n e, un_n e]; exact hfj v (by omega) h2⟩) H locs ls hP hD hS hl

set_option maxHeartbeats 4000000 in
set_option maxRecDepth 100000 in
theorem k_X4_heightAt (l : Launch) (D : va_G) (cI cJ cZ : ClassId) (wy : Nat) (nx : Nat) (jp : Nat) (fnx : Nat → Int32) (fr_ : Nat) (to_ : Nat) (i_ : Nat) (B : Nat → Nat) (hto : to_ ≤ 100) (hft : fr_ ≤ to_) (hi_ : i_ < 1000) (hBt : B to_ = to_) (hB : ∀ v, fr_ ≤ v → v ≤ to_ → fnx v = nI (B v)) (hit : ∀ n, fr_ ≤ it_ B fr_ n ∧ it_ B fr_ n ≤ to_) : mt_I l yX4_heightAt cX4_heightAt 6 .int 0 0 D cI cJ cZ [ob_J wy 4 [.ref jp, .ref nx], ar_I nx cI 101 fnx] [.ref wy, .int (nI fr_), .int (nI to_), .int (nI i_)] (fun r (u_u : Unit) => r = nI (it_ B fr_ i_)) (fun u_u : Unit => [ob_J wy 4 [.ref jp, .ref nx], ar_I nx cI 101 fnx]) := by
  refine en_I (by decide) (Nat.le_of_ble_eq_true rfl) ?_
  intro p e s m below meth c A ls H locs hx hb hr hml hts hown hlk hN hK hA hP hD hS hl
  have hown : s.vm.findClass RX4 = some m.cls := hown
  have hl : lv_has ls 6 [(0, .ref wy), (1, .int (nI fr_)), (2, .int (nI to_)), (3, .int (nI i_))] := hl
  refine lv_iload_n hx hb dX4_heightAt_0 rfl (lv_at hl 1 rfl) ?_
  refine lv_istore (lv' := [(4, .int (nI fr_)), (0, .ref wy), (1, .int (nI fr_)), (2, .int (nI to_)), (3, .int (nI i_))]) hx hb dX4_heightAt_1 hl (by decide) rfl (fun ls hl => ?_)
  refine lv_iconst (v := 0) hx hb dX4_heightAt_3 (by decide) ?_
  refine lv_istore (lv' := [(5, .int 0), (4, .int (nI fr_)), (0, .ref wy), (1, .int (nI fr_)), (2, .int (nI to_)), (3, .int (nI i_))]) hx hb dX4_heightAt_4 hl (by decide) rfl (fun ls hl => ?_)
  have hl := lv_sub (l' := [(0, .ref wy), (1, .int (nI fr_)), (2, .int (nI to_)), (3, .int (nI i_)), (4, .int (nI fr_)), (5, .int 0)]) hl [2, 3, 4, 5, 1, 0] rfl
  have q_1 : nI fr_ = nI (it_ B fr_ 0) := rfl
  have hl := cs_L (fun z_z => [(0, .ref wy), (1, .int (nI fr_)), (2, .int (nI to_)), (3, .int (nI i_)), (4, .int z_z), (5, .int 0)]) q_1 hl
  have q_2 : 0 = nI 0 := rfl
  have hl := cs_L (fun z_z => [(0, .ref wy), (1, .int (nI fr_)), (2, .int (nI to_)), (3, .int (nI i_)), (4, .int (nI (it_ B fr_ 0))), (5, .int z_z)]) q_2 hl
  have hl : lv_has ls 6 [(0, .ref wy), (1, .int (nI fr_)), (2, .int (nI to_)), (3, .int (nI i_)), (4, .int (nI (it_ B fr_ 0))), (5, .int (nI 0))] := hl
  refine lp_g (σ := Nat) (fun k => i_ - k) (fun k => [ob_J wy 4 [.ref jp, .ref nx], ar_I nx cI 101 fnx]) (fun k => [(0, .ref wy), (1, .int (nI fr_)), (2, .int (nI to_)), (3, .int (nI i_)), (4, .int (nI (it_ B fr_ k))), (5, .int (nI k))]) (fun k => (k ≤ i_)) ?_ 0 (show (0 ≤ i_) from by omega) hP hD hS hl
  intro k H locs ls hF hP hD hS hl ih_6
  have hF : (k ≤ i_) := hF
  have hk := hF
  have hP : va_P D cl_A [ob_J wy 4 [.ref jp, .ref nx], ar_I nx cI 101 fnx] H := hP
  have hD : va_D A [ob_J wy 4 [.ref jp, .ref nx], ar_I nx cI 101 fnx] := hD
  have hl : lv_has ls 6 [(0, .ref wy), (1, .int (nI fr_)), (2, .int (nI to_)), (3, .int (nI i_)), (4, .int (nI (it_ B fr_ k))), (5, .int (nI k))] := hl
  have hik := hit k
  refine lv_iload hx hb dX4_heightAt_6 (lv_at hl 5 rfl) ?_
  refine lv_iload_n hx hb dX4_heightAt_8 rfl (lv_at hl 3 rfl) ?_
  refine lv_icmp_ge (tgt := 33) hx hb dX4_heightAt_9 (by decide) (fun c_9 => ?_) (fun c_9 => ?_)
  · have c_9 := qq_ge (a := k) (b := i_) c_9 (by omega) (by omega)
    refine lv_iload hx hb dX4_heightAt_33 (lv_at hl 4 rfl) ?_
    exact re_I (w1 := fun u_u : Unit => [ob_J wy 4 [.ref jp, .ref nx], ar_I nx cI 101 fnx]) (v := nI (it_ B fr_ k)) hx hb hr hlk hK hS rfl () hP hD (show nI (it_ B fr_ k) = nI (it_ B fr_ i_) from by rw [show k = i_ by omega]) dX4_heightAt_35
  · have c_9 := qq_nge (a := k) (b := i_) c_9 (by omega) (by omega)
    refine lv_iload hx hb dX4_heightAt_12 (lv_at hl 4 rfl) ?_
    refine lv_iload_n hx hb dX4_heightAt_14 rfl (lv_at hl 2 rfl) ?_
    refine lv_icmp_ge (tgt := 33) hx hb dX4_heightAt_15 (by decide) (fun c_15 => ?_) (fun c_15 => ?_)
    · have c_15 := qq_ge (a := it_ B fr_ k) (b := to_) c_15 (by omega) (by omega)
      refine lv_iload hx hb dX4_heightAt_33 (lv_at hl 4 rfl) ?_
      exact re_I (w1 := fun u_u : Unit => [ob_J wy 4 [.ref jp, .ref nx], ar_I nx cI 101 fnx]) (v := nI (it_ B fr_ k)) hx hb hr hlk hK hS rfl () hP hD (show nI (it_ B fr_ k) = nI (it_ B fr_ i_) from congrArg nI (it_fin hBt ⟨c_15, hik.2⟩ hk)) dX4_heightAt_35
    · have c_15 := qq_nge (a := it_ B fr_ k) (b := to_) c_15 (by omega) (by omega)
      refine lv_aload_n hx hb dX4_heightAt_18 rfl (lv_at hl 0 rfl) ?_
      refine va_get (ci := 4) (v := .ref nx) (C := RX4) (T := TX4) (N := 2) hx hb hts bi_4 hown hK hP 0 rfl rfl 1 (by decide) (hts _ bw_127) (fun _ h9 => h9) rfl dX4_heightAt_19 ?_
      refine lv_iload hx hb dX4_heightAt_22 (lv_at hl 4 rfl) ?_
      refine ar_ld hx hb hK hP 1 (k := it_ B fr_ k) rfl rfl (by omega) (by decide) dX4_heightAt_24 ?_
      refine tp_i (x' := nI (B (it_ B fr_ k))) (hB _ hik.1 hik.2) ?_
      refine lv_istore (lv' := [(4, .int (nI (B (it_ B fr_ k)))), (0, .ref wy), (1, .int (nI fr_)), (2, .int (nI to_)), (3, .int (nI i_)), (5, .int (nI k))]) hx hb dX4_heightAt_25 hl (by decide) rfl (fun ls hl => ?_)
      refine lv_iinc (v := nI (k + 1)) (lv' := [(5, .int (nI (k + 1))), (4, .int (nI (B (it_ B fr_ k)))), (0, .ref wy), (1, .int (nI fr_)), (2, .int (nI to_)), (3, .int (nI i_))]) hx hb dX4_heightAt_27 hl (k := 5) rfl (nI_1 _) (by decide) rfl (fun ls hl => ?_)
      refine lv_goto (tgt := 6) hx hb dX4_heightAt_30 (by decide) ?_
      have hl := lv_sub (l' := [(0, .ref wy), (1, .int (nI fr_)), (2, .int (nI to_)), (3, .int (nI i_)), (4, .int (nI (B (it_ B fr_ k)))), (5, .int (nI (k + 1)))]) hl [2, 3, 4, 5, 1, 0] rfl
      have q_3 : nI (B (it_ B fr_ k)) = nI (it_ B fr_ (k + 1)) := rfl
      have hl := cs_L (fun z_z => [(0, .ref wy), (1, .int (nI fr_)), (2, .int (nI to_)), (3, .int (nI i_)), (4, .int z_z), (5, .int (nI (k + 1)))]) q_3 hl
      have hl : lv_has ls 6 [(0, .ref wy), (1, .int (nI fr_)), (2, .int (nI to_)), (3, .int (nI i_)), (4, .int (nI (it_ B fr_ (k + 1)))), (5, .int (nI (k + 1)))] := hl
      exact ih_6 (k + 1) (show i_ - (k + 1) < i_ - k from by omega) (show ((k + 1) ≤ i_) from by omega) H locs ls hP hD hS hl
end
section
set_option maxHeartbeats 4000000 in
set_option maxRecDepth 100000 in
theorem k_X5_isMove (l : Launch) (D : va_G) (cI cJ cZ : ClassId) (x : Nat) (nd : Nat) (hh : Nat) (rl : Nat) (bk : Nat) (st : Nat) (sh : Nat) (wy : Nat) (sz : Nat) (kp : Nat) (ct : Nat) (sa : Nat) (la : Nat) (fz : Nat) (a : Int32) (n : Int32) (v : Int32)  : mt_I l yX5_isMove cX5_isMove 4 .boolean 2 42 D cI cJ cZ [ob_J x 5 [.int (nI hh), .ref rl, .ref bk, .ref nd, .ref st, .ref sh, .ref wy], ob_J nd 1 [.int (nI sz), .ref kp, .ref ct, .ref sa, .ref la, .ref fz]] [.ref x, .int a, .int n, .int v] (fun r (_ : Unit) => r = if (0 ≤ a ∧ a ≤ 9) ∧ (0 ≤ n ∧ n < nI sz) ∧ (1 ≤ v ∧ v ≤ 1000000) then 1 else 0) (fun u_u : Unit => [ob_J x 5 [.int (nI hh), .ref rl, .ref bk, .ref nd, .ref st, .ref sh, .ref wy], ob_J nd 1 [.int (nI sz), .ref kp, .ref ct, .ref sa, .ref la, .ref fz]]) := by
  refine en_I (by decide) (Nat.le_of_ble_eq_true rfl) ?_
  intro p e s m below meth c A ls H locs hx hb hr hml hts hown hlk hN hK hA hP hD hS hl
  have hown : s.vm.findClass RX5 = some m.cls := hown
  have hl : lv_has ls 4 [(0, .ref x), (1, .int a), (2, .int n), (3, .int v)] := hl
  refine lv_iload_n hx hb dX5_isMove_0 rfl (lv_at hl 1 rfl) ?_
  refine ca_SI (rest := []) (k_X5_isAccount l D cI cJ cZ a ) hx hb hml hown hts hN hK hA hP hD hS bw_170 bw_171 bw_1 bw_172 1 rfl (by decide +kernel) ⟨by decide, by decide⟩ hl.1 rfl (Nat.le_of_ble_eq_true rfl) dX5_isMove_1 ⟨Nat.zero_le _, Nat.zero_le _⟩ (fun r_1 u_u H locs w_1 hP hD hS => ?_)
  have w_1 : r_1 = if 0 ≤ a ∧ a ≤ 9 then 1 else 0 := w_1
  by_cases h_1 : 0 ≤ a ∧ a ≤ 9
  · rw [if_pos h_1] at w_1; subst w_1
    refine lv_if_eq (tgt := 32) hx hb dX5_isMove_4 (by decide) (fun h9 => absurd h9 (by decide)) (fun _ => ?_)
    refine lv_aload_n hx hb dX5_isMove_7 rfl (lv_at hl 0 rfl) ?_
    refine va_get (ci := 5) (v := .ref nd) (C := RX5) (T := TX5) (N := 7) hx hb hts bi_5 hown hK hP 0 rfl rfl 3 (by decide) (hts _ bw_136) (fun _ h9 => h9) rfl dX5_isMove_8 ?_
    refine lv_iload_n hx hb dX5_isMove_11 rfl (lv_at hl 2 rfl) ?_
    refine ca_VI (rest := []) (wr := [ob_J x 5 [.int (nI hh), .ref rl, .ref bk, .ref nd, .ref st, .ref sh, .ref wy]]) (w2 := fun u_u => [ob_J x 5 [.int (nI hh), .ref rl, .ref bk, .ref nd, .ref st, .ref sh, .ref wy], ob_J nd 1 [.int (nI sz), .ref kp, .ref ct, .ref sa, .ref la, .ref fz]]) (k_X1_has l D cI cJ cZ nd sz kp ct sa la fz n ) hx hb hml hown hts hN hK hA hP hD hS 1 0 rfl rfl bw_190 bw_191 bw_192 bw_3 bw_193 1 rfl (by decide +kernel) ⟨by decide, by decide⟩ [1] [0] [0, 1] rfl rfl (by decide) (fun _ => rfl) hl.1 rfl (Nat.le_of_ble_eq_true rfl) dX5_isMove_12 ⟨Nat.zero_le _, Nat.zero_le _⟩ (fun r_12 u_u H locs w_12 hP hD hS => ?_)
    have hP : va_P D cl_A [ob_J x 5 [.int (nI hh), .ref rl, .ref bk, .ref nd, .ref st, .ref sh, .ref wy], ob_J nd 1 [.int (nI sz), .ref kp, .ref ct, .ref sa, .ref la, .ref fz]] H := hP
    have hD : va_D A [ob_J x 5 [.int (nI hh), .ref rl, .ref bk, .ref nd, .ref st, .ref sh, .ref wy], ob_J nd 1 [.int (nI sz), .ref kp, .ref ct, .ref sa, .ref la, .ref fz]] := hD
    have w_12 : r_12 = if 0 ≤ n ∧ n < nI sz then 1 else 0 := w_12
    by_cases h_12 : 0 ≤ n ∧ n < nI sz
    · rw [if_pos h_12] at w_12; subst w_12
      refine lv_if_eq (tgt := 32) hx hb dX5_isMove_15 (by decide) (fun h9 => absurd h9 (by decide)) (fun _ => ?_)
      refine lv_iload_n hx hb dX5_isMove_18 rfl (lv_at hl 3 rfl) ?_
      refine lv_iconst (v := 1) hx hb dX5_isMove_19 (by decide) ?_
      refine lv_ldc (v := 1000000) hx hb hown (hts _ bw_18) dX5_isMove_20 ?_
      refine ca_SI (rest := []) (k_X5_isWithin l D cI cJ cZ v 1 1000000 ) hx hb hml hown hts hN hK hA hP hD hS bw_163 bw_164 bw_1 bw_165 3 rfl (by decide +kernel) ⟨by decide, by decide⟩ hl.1 rfl (Nat.le_of_ble_eq_true rfl) dX5_isMove_22 ⟨Nat.zero_le _, Nat.zero_le _⟩ (fun r_22 u_u H locs w_22 hP hD hS => ?_)
      have w_22 : r_22 = if 1 ≤ v ∧ v ≤ 1000000 then 1 else 0 := w_22
      by_cases h_22 : 1 ≤ v ∧ v ≤ 1000000
      · rw [if_pos h_22] at w_22; subst w_22
        refine lv_if_eq (tgt := 32) hx hb dX5_isMove_25 (by decide) (fun h9 => absurd h9 (by decide)) (fun _ => ?_)
        refine lv_iconst (v := 1) hx hb dX5_isMove_28 (by decide) ?_
        refine lv_goto (tgt := 33) hx hb dX5_isMove_29 (by decide) ?_
        exact re_I (w1 := fun u_u : Unit => [ob_J x 5 [.int (nI hh), .ref rl, .ref bk, .ref nd, .ref st, .ref sh, .ref wy], ob_J nd 1 [.int (nI sz), .ref kp, .ref ct, .ref sa, .ref la, .ref fz]]) (v := 1) hx hb hr hlk hK hS rfl () hP hD (show _ = if (0 ≤ a ∧ a ≤ 9) ∧ (0 ≤ n ∧ n < nI sz) ∧ (1 ≤ v ∧ v ≤ 1000000) then _ else _ from by simp [h_1, h_12, h_22]) dX5_isMove_33
      · rw [if_neg h_22] at w_22; subst w_22
        refine lv_if_eq (tgt := 32) hx hb dX5_isMove_25 (by decide) (fun _ => ?_) (fun h9 => absurd (by decide) h9)
        refine lv_iconst (v := 0) hx hb dX5_isMove_32 (by decide) ?_
        exact re_I (w1 := fun u_u : Unit => [ob_J x 5 [.int (nI hh), .ref rl, .ref bk, .ref nd, .ref st, .ref sh, .ref wy], ob_J nd 1 [.int (nI sz), .ref kp, .ref ct, .ref sa, .ref la, .ref fz]]) (v := 0) hx hb hr hlk hK hS rfl () hP hD (show _ = if (0 ≤ a ∧ a ≤ 9) ∧ (0 ≤ n ∧ n < nI sz) ∧ (1 ≤ v ∧ v ≤ 1000000) then _ else _ from by simp [h_1, h_12, h_22]) dX5_isMove_33
    · rw [if_neg h_12] at w_12; subst w_12
      refine lv_if_eq (tgt := 32) hx hb dX5_isMove_15 (by decide) (fun _ => ?_) (fun h9 => absurd (by decide) h9)
      refine lv_iconst (v := 0) hx hb dX5_isMove_32 (by decide) ?_
      exact re_I (w1 := fun u_u : Unit => [ob_J x 5 [.int (nI hh), .ref rl, .ref bk, .ref nd, .ref st, .ref sh, .ref wy], ob_J nd 1 [.int (nI sz), .ref kp, .ref ct, .ref sa, .ref la, .ref fz]]) (v := 0) hx hb hr hlk hK hS rfl () hP hD (show _ = if (0 ≤ a ∧ a ≤ 9) ∧ (0 ≤ n ∧ n < nI sz) ∧ (1 ≤ v ∧ v ≤ 1000000) then _ else _ from by simp [h_1, h_12]) dX5_isMove_33
  · rw [if_neg h_1] at w_1; subst w_1
    refine lv_if_eq (tgt := 32) hx hb dX5_isMove_4 (by decide) (fun _ => ?_) (fun h9 => absurd (by decide) h9)
    refine lv_iconst (v := 0) hx hb dX5_isMove_32 (by decide) ?_
    exact re_I (w1 := fun u_u : Unit => [ob_J x 5 [.int (nI hh), .ref rl, .ref bk, .ref nd, .ref st, .ref sh, .ref wy], ob_J nd 1 [.int (nI sz), .ref kp, .ref ct, .ref sa, .ref la, .ref fz]]) (v := 0) hx hb hr hlk hK hS rfl () hP hD (show _ = if (0 ≤ a ∧ a ≤ 9) ∧ (0 ≤ n ∧ n < nI sz) ∧ (1 ≤ v ∧ v ≤ 1000000) then _ else _ from by simp [h_1]) dX5_isMove_33

set_option maxHeartbeats 4000000 in
set_option maxRecDepth 100000 in
theorem k_X5_hasSet (l : Launch) (D : va_G) (cI cJ cZ : ClassId) (x : Nat) (hh : Nat) (rl : Nat) (bk : Nat) (nd : Nat) (st : Nat) (sh : Nat) (wy : Nat) (q : Int32)  : mt_I l yX5_hasSet cX5_hasSet 2 .boolean 1 22 D cI cJ cZ [ob_J x 5 [.int (nI hh), .ref rl, .ref bk, .ref nd, .ref st, .ref sh, .ref wy]] [.ref x, .int q] (fun r (_ : Unit) => r = if 0 ≤ q ∧ q ≤ nI hh then 1 else 0) (fun u_u : Unit => [ob_J x 5 [.int (nI hh), .ref rl, .ref bk, .ref nd, .ref st, .ref sh, .ref wy]]) := by
  refine en_I (by decide) (Nat.le_of_ble_eq_true rfl) ?_
  intro p e s m below meth c A ls H locs hx hb hr hml hts hown hlk hN hK hA hP hD hS hl
  have hown : s.vm.findClass RX5 = some m.cls := hown
  have hl : lv_has ls 2 [(0, .ref x), (1, .int q)] := hl
  refine lv_iload_n hx hb dX5_hasSet_0 rfl (lv_at hl 1 rfl) ?_
  refine lv_iconst (v := 0) hx hb dX5_hasSet_1 (by decide) ?_
  refine lv_aload_n hx hb dX5_hasSet_2 rfl (lv_at hl 0 rfl) ?_
  refine va_get (ci := 5) (v := .int (nI hh)) (C := RX5) (T := TX5) (N := 7) hx hb hts bi_5 hown hK hP 0 rfl rfl 0 (by decide) (hts _ bw_133) (fun _ h9 => h9) rfl dX5_hasSet_3 ?_
  refine ca_SI (rest := []) (k_X5_isWithin l D cI cJ cZ q 0 (nI hh) ) hx hb hml hown hts hN hK hA hP hD hS bw_163 bw_164 bw_1 bw_165 3 rfl (by decide +kernel) ⟨by decide, by decide⟩ hl.1 rfl (Nat.le_of_ble_eq_true rfl) dX5_hasSet_6 ⟨Nat.zero_le _, Nat.zero_le _⟩ (fun r_6 u_u H locs w_6 hP hD hS => ?_)
  have w_6 : r_6 = if 0 ≤ q ∧ q ≤ (nI hh) then 1 else 0 := w_6
  by_cases h_6 : 0 ≤ q ∧ q ≤ (nI hh)
  · rw [if_pos h_6] at w_6; subst w_6
    exact re_I (w1 := fun u_u : Unit => [ob_J x 5 [.int (nI hh), .ref rl, .ref bk, .ref nd, .ref st, .ref sh, .ref wy]]) (v := 1) hx hb hr hlk hK hS rfl () hP hD (show _ = if 0 ≤ q ∧ q ≤ nI hh then _ else _ from by simp [h_6]) dX5_hasSet_9
  · rw [if_neg h_6] at w_6; subst w_6
    exact re_I (w1 := fun u_u : Unit => [ob_J x 5 [.int (nI hh), .ref rl, .ref bk, .ref nd, .ref st, .ref sh, .ref wy]]) (v := 0) hx hb hr hlk hK hS rfl () hP hD (show _ = if 0 ≤ q ∧ q ≤ nI hh then _ else _ from by simp [h_6]) dX5_hasSet_9

set_option maxHeartbeats 4000000 in
set_option maxRecDepth 100000 in
theorem k_X5_isUpward (l : Launch) (D : va_G) (cI cJ cZ : ClassId) (x : Nat) (hh : Nat) (rl : Nat) (bk : Nat) (nd : Nat) (st : Nat) (sh : Nat) (wy : Nat) (f : Int32) (t : Int32)  : mt_I l yX5_isUpward cX5_isUpward 3 .boolean 2 43 D cI cJ cZ [ob_J x 5 [.int (nI hh), .ref rl, .ref bk, .ref nd, .ref st, .ref sh, .ref wy]] [.ref x, .int f, .int t] (fun r (_ : Unit) => r = if (0 ≤ f ∧ f ≤ nI hh) ∧ (0 ≤ t ∧ t ≤ nI hh) ∧ f < t then 1 else 0) (fun u_u : Unit => [ob_J x 5 [.int (nI hh), .ref rl, .ref bk, .ref nd, .ref st, .ref sh, .ref wy]]) := by
  refine en_I (by decide) (Nat.le_of_ble_eq_true rfl) ?_
  intro p e s m below meth c A ls H locs hx hb hr hml hts hown hlk hN hK hA hP hD hS hl
  have hown : s.vm.findClass RX5 = some m.cls := hown
  have hl : lv_has ls 3 [(0, .ref x), (1, .int f), (2, .int t)] := hl
  refine lv_aload_n hx hb dX5_isUpward_0 rfl (lv_at hl 0 rfl) ?_
  refine lv_iload_n hx hb dX5_isUpward_1 rfl (lv_at hl 1 rfl) ?_
  refine ca_VI (rest := []) (wr := []) (w2 := fun u_u => [ob_J x 5 [.int (nI hh), .ref rl, .ref bk, .ref nd, .ref st, .ref sh, .ref wy]]) (k_X5_hasSet l D cI cJ cZ x hh rl bk nd st sh wy f ) hx hb hml hown hts hN hK hA hP hD hS 5 0 rfl rfl bw_309 bw_311 bs_6 bw_1 bw_312 1 rfl (by decide +kernel) ⟨by decide, by decide⟩ [0] [] [0] rfl rfl (by decide) (fun _ => rfl) hl.1 rfl (Nat.le_of_ble_eq_true rfl) dX5_isUpward_2 ⟨Nat.zero_le _, Nat.zero_le _⟩ (fun r_2 u_u H locs w_2 hP hD hS => ?_)
  have hP : va_P D cl_A [ob_J x 5 [.int (nI hh), .ref rl, .ref bk, .ref nd, .ref st, .ref sh, .ref wy]] H := hP
  have hD : va_D A [ob_J x 5 [.int (nI hh), .ref rl, .ref bk, .ref nd, .ref st, .ref sh, .ref wy]] := hD
  have w_2 : r_2 = if 0 ≤ f ∧ f ≤ nI hh then 1 else 0 := w_2
  by_cases h_2 : 0 ≤ f ∧ f ≤ nI hh
  · rw [if_pos h_2] at w_2; subst w_2
    refine lv_if_eq (tgt := 25) hx hb dX5_isUpward_5 (by decide) (fun h9 => absurd h9 (by decide)) (fun _ => ?_)
    refine lv_aload_n hx hb dX5_isUpward_8 rfl (lv_at hl 0 rfl) ?_
    refine lv_iload_n hx hb dX5_isUpward_9 rfl (lv_at hl 2 rfl) ?_
    refine ca_VI (rest := []) (wr := []) (w2 := fun u_u => [ob_J x 5 [.int (nI hh), .ref rl, .ref bk, .ref nd, .ref st, .ref sh, .ref wy]]) (k_X5_hasSet l D cI cJ cZ x hh rl bk nd st sh wy t ) hx hb hml hown hts hN hK hA hP hD hS 5 0 rfl rfl bw_309 bw_311 bs_6 bw_1 bw_312 1 rfl (by decide +kernel) ⟨by decide, by decide⟩ [0] [] [0] rfl rfl (by decide) (fun _ => rfl) hl.1 rfl (Nat.le_of_ble_eq_true rfl) dX5_isUpward_10 ⟨Nat.zero_le _, Nat.zero_le _⟩ (fun r_10 u_u H locs w_10 hP hD hS => ?_)
    have hP : va_P D cl_A [ob_J x 5 [.int (nI hh), .ref rl, .ref bk, .ref nd, .ref st, .ref sh, .ref wy]] H := hP
    have hD : va_D A [ob_J x 5 [.int (nI hh), .ref rl, .ref bk, .ref nd, .ref st, .ref sh, .ref wy]] := hD
    have w_10 : r_10 = if 0 ≤ t ∧ t ≤ nI hh then 1 else 0 := w_10
    by_cases h_10 : 0 ≤ t ∧ t ≤ nI hh
    · rw [if_pos h_10] at w_10; subst w_10
      refine lv_if_eq (tgt := 25) hx hb dX5_isUpward_13 (by decide) (fun h9 => absurd h9 (by decide)) (fun _ => ?_)
      refine lv_iload_n hx hb dX5_isUpward_16 rfl (lv_at hl 1 rfl) ?_
      refine lv_iload_n hx hb dX5_isUpward_17 rfl (lv_at hl 2 rfl) ?_
      refine lv_icmp_ge (tgt := 25) hx hb dX5_isUpward_18 (by decide) (fun c_18 => ?_) (fun c_18 => ?_)
      · refine lv_iconst (v := 0) hx hb dX5_isUpward_25 (by decide) ?_
        exact re_I (w1 := fun u_u : Unit => [ob_J x 5 [.int (nI hh), .ref rl, .ref bk, .ref nd, .ref st, .ref sh, .ref wy]]) (v := 0) hx hb hr hlk hK hS rfl () hP hD (show _ = if (0 ≤ f ∧ f ≤ nI hh) ∧ (0 ≤ t ∧ t ≤ nI hh) ∧ f < t then _ else _ from (if_neg (fun z => absurd z.2.2 (Int32.not_lt.mpr c_18))).symm) dX5_isUpward_26
      · refine lv_iconst (v := 1) hx hb dX5_isUpward_21 (by decide) ?_
        refine lv_goto (tgt := 26) hx hb dX5_isUpward_22 (by decide) ?_
        exact re_I (w1 := fun u_u : Unit => [ob_J x 5 [.int (nI hh), .ref rl, .ref bk, .ref nd, .ref st, .ref sh, .ref wy]]) (v := 1) hx hb hr hlk hK hS rfl () hP hD (show _ = if (0 ≤ f ∧ f ≤ nI hh) ∧ (0 ≤ t ∧ t ≤ nI hh) ∧ f < t then _ else _ from (if_pos ⟨h_2, h_10, Int32.not_le.mp c_18⟩).symm) dX5_isUpward_26
    · rw [if_neg h_10] at w_10; subst w_10
      refine lv_if_eq (tgt := 25) hx hb dX5_isUpward_13 (by decide) (fun _ => ?_) (fun h9 => absurd (by decide) h9)
      refine lv_iconst (v := 0) hx hb dX5_isUpward_25 (by decide) ?_
      exact re_I (w1 := fun u_u : Unit => [ob_J x 5 [.int (nI hh), .ref rl, .ref bk, .ref nd, .ref st, .ref sh, .ref wy]]) (v := 0) hx hb hr hlk hK hS rfl () hP hD (show _ = if (0 ≤ f ∧ f ≤ nI hh) ∧ (0 ≤ t ∧ t ≤ nI hh) ∧ f < t then _ else _ from (if_neg (fun z => h_10 z.2.1)).symm) dX5_isUpward_26
  · rw [if_neg h_2] at w_2; subst w_2
    refine lv_if_eq (tgt := 25) hx hb dX5_isUpward_5 (by decide) (fun _ => ?_) (fun h9 => absurd (by decide) h9)
    refine lv_iconst (v := 0) hx hb dX5_isUpward_25 (by decide) ?_
    exact re_I (w1 := fun u_u : Unit => [ob_J x 5 [.int (nI hh), .ref rl, .ref bk, .ref nd, .ref st, .ref sh, .ref wy]]) (v := 0) hx hb hr hlk hK hS rfl () hP hD (show _ = if (0 ≤ f ∧ f ≤ nI hh) ∧ (0 ≤ t ∧ t ≤ nI hh) ∧ f < t then _ else _ from (if_neg (fun z => h_2 z.1)).symm) dX5_isUpward_26

set_option maxHeartbeats 4000000 in
set_option maxRecDepth 100000 in
theorem k_X5_fund (l : Launch) (D : va_G) (cI cJ cZ : ClassId) (x : Nat) (bk : Nat) (bal : Nat) (hh : Nat) (rl : Nat) (nd : Nat) (st : Nat) (sh : Nat) (wy : Nat) (funded : Int32) (rewarded : Int32) (stk : Nat) (due : Nat) (fbal : Nat → Int32) (a : Int32) (v : Int32)  : mt_I l yX5_fund cX5_fund 3 .int 2 42 D cI cJ cZ [ob_J x 5 [.int (nI hh), .ref rl, .ref bk, .ref nd, .ref st, .ref sh, .ref wy], ob_J bk 0 [.int funded, .int rewarded, .ref bal, .ref stk, .ref due], ar_I bal cI 10 fbal] [.ref x, .int a, .int v] (fun r (u_u : Unit) => r = rr_fund funded fbal a v) (fun u_u : Unit => [ob_J x 5 [.int (nI hh), .ref rl, .ref bk, .ref nd, .ref st, .ref sh, .ref wy], ob_J bk 0 [.int (fd_fund funded a v), .int rewarded, .ref bal, .ref stk, .ref due], ar_I bal cI 10 (ba_fund funded fbal a v)]) := by
  refine en_I (by decide) (Nat.le_of_ble_eq_true rfl) ?_
  intro p e s m below meth c A ls H locs hx hb hr hml hts hown hlk hN hK hA hP hD hS hl
  have hown : s.vm.findClass RX5 = some m.cls := hown
  have hl : lv_has ls 3 [(0, .ref x), (1, .int a), (2, .int v)] := hl
  refine lv_iload_n hx hb dX5_fund_0 rfl (lv_at hl 1 rfl) ?_
  refine ca_SI (rest := []) (k_X5_isAccount l D cI cJ cZ a ) hx hb hml hown hts hN hK hA hP hD hS bw_170 bw_171 bw_1 bw_172 1 rfl (by decide +kernel) ⟨by decide, by decide⟩ hl.1 rfl (Nat.le_of_ble_eq_true rfl) dX5_fund_1 ⟨Nat.zero_le _, Nat.zero_le _⟩ (fun r_1 u_u H locs w_1 hP hD hS => ?_)
  have w_1 : r_1 = if 0 ≤ a ∧ a ≤ 9 then 1 else 0 := w_1
  by_cases h_1 : 0 ≤ a ∧ a ≤ 9
  · rw [if_pos h_1] at w_1; subst w_1
    obtain ⟨ia, h_ia, rfl⟩ : ∃ z : Nat, z < 10 ∧ a = nI z := ix_le (by decide) h_1
    have t_ia := tn_nI (n := ia) (by omega)
    refine lv_if_eq (tgt := 17) hx hb dX5_fund_4 (by decide) (fun h9 => absurd h9 (by decide)) (fun _ => ?_)
    refine lv_iload_n hx hb dX5_fund_7 rfl (lv_at hl 2 rfl) ?_
    refine lv_iconst (v := 1) hx hb dX5_fund_8 (by decide) ?_
    refine lv_ldc (v := 100000) hx hb hown (hts _ bw_173) dX5_fund_9 ?_
    refine ca_SI (rest := []) (k_X5_isWithin l D cI cJ cZ v 1 100000 ) hx hb hml hown hts hN hK hA hP hD hS bw_163 bw_164 bw_1 bw_165 3 rfl (by decide +kernel) ⟨by decide, by decide⟩ hl.1 rfl (Nat.le_of_ble_eq_true rfl) dX5_fund_11 ⟨Nat.zero_le _, Nat.zero_le _⟩ (fun r_11 u_u H locs w_11 hP hD hS => ?_)
    have w_11 : r_11 = if 1 ≤ v ∧ v ≤ 100000 then 1 else 0 := w_11
    by_cases h_11 : 1 ≤ v ∧ v ≤ 100000
    · rw [if_pos h_11] at w_11; subst w_11
      refine lv_if_ne (tgt := 19) hx hb dX5_fund_14 (by decide) (fun _ => ?_) (fun h9 => absurd h9 (by decide))
      refine lv_aload_n hx hb dX5_fund_19 rfl (lv_at hl 0 rfl) ?_
      refine va_get (ci := 5) (v := .ref bk) (C := RX5) (T := TX5) (N := 7) hx hb hts bi_5 hown hK hP 0 rfl rfl 2 (by decide) (hts _ bw_135) (fun _ h9 => h9) rfl dX5_fund_20 ?_
      refine va_get (ci := 0) (v := .int funded) (C := RX0) (T := TX0) (N := 5) hx hb hts bi_0 hown hK hP 1 rfl rfl 0 (by decide) (hts _ bw_25) (fun _ h9 => h9) rfl dX5_fund_23 ?_
      refine lv_iload_n hx hb dX5_fund_26 rfl (lv_at hl 2 rfl) ?_
      refine lv_iadd hx hb dX5_fund_27 ?_
      refine lv_ldc (v := 1000000) hx hb hown (hts _ bw_18) dX5_fund_28 ?_
      refine lv_icmp_le (tgt := 36) hx hb dX5_fund_30 (by decide) (fun c_30 => ?_) (fun c_30 => ?_)
      · refine lv_aload_n hx hb dX5_fund_36 rfl (lv_at hl 0 rfl) ?_
        refine va_get (ci := 5) (v := .ref bk) (C := RX5) (T := TX5) (N := 7) hx hb hts bi_5 hown hK hP 0 rfl rfl 2 (by decide) (hts _ bw_135) (fun _ h9 => h9) rfl dX5_fund_37 ?_
        refine lv_dup hx hb dX5_fund_40 rfl ?_
        refine va_get (ci := 0) (v := .int funded) (C := RX0) (T := TX0) (N := 5) hx hb hts bi_0 hown hK hP 1 rfl rfl 0 (by decide) (hts _ bw_25) (fun _ h9 => h9) rfl dX5_fund_41 ?_
        refine lv_iload_n hx hb dX5_fund_44 rfl (lv_at hl 2 rfl) ?_
        refine lv_iadd hx hb dX5_fund_45 ?_
        refine va_put (ci := 0) (v := .int (funded + v)) (ty := .int) (C := RX0) (T := TX0) (N := 5) hx hb hts bi_0 tyX0 tyX0_ok nmX0 hown hK hP hD hS 1 rfl rfl 0 (by decide) (hts _ bw_25) (fun _ h9 => h9) rfl (by decide +kernel) rfl rfl (Nat.le_of_ble_eq_true rfl) dX5_fund_46 (fun H locs hP hD hS => ?_)
        have hP : va_P D cl_A [ob_J x 5 [.int (nI hh), .ref rl, .ref bk, .ref nd, .ref st, .ref sh, .ref wy], ob_J bk 0 [.int (funded + v), .int rewarded, .ref bal, .ref stk, .ref due], ar_I bal cI 10 fbal] H := hP
        have hD : va_D A [ob_J x 5 [.int (nI hh), .ref rl, .ref bk, .ref nd, .ref st, .ref sh, .ref wy], ob_J bk 0 [.int (funded + v), .int rewarded, .ref bal, .ref stk, .ref due], ar_I bal cI 10 fbal] := hD
        refine lv_aload_n hx hb dX5_fund_49 rfl (lv_at hl 0 rfl) ?_
        refine va_get (ci := 5) (v := .ref bk) (C := RX5) (T := TX5) (N := 7) hx hb hts bi_5 hown hK hP 0 rfl rfl 2 (by decide) (hts _ bw_135) (fun _ h9 => h9) rfl dX5_fund_50 ?_
        refine va_get (ci := 0) (v := .ref bal) (C := RX0) (T := TX0) (N := 5) hx hb hts bi_0 hown hK hP 1 rfl rfl 2 (by decide) (hts _ bw_28) (fun _ h9 => h9) rfl dX5_fund_53 ?_
        refine lv_iload_n hx hb dX5_fund_56 rfl (lv_at hl 1 rfl) ?_
        refine lv_dup2_11 hx hb dX5_fund_57 rfl rfl ?_
        refine ar_ld hx hb hK hP 2 (k := ia) rfl rfl (by omega) (by decide) dX5_fund_58 ?_
        refine lv_iload_n hx hb dX5_fund_59 rfl (lv_at hl 2 rfl) ?_
        refine lv_iadd hx hb dX5_fund_60 ?_
        refine ar_st hx hb hK hP hD hS 2 (k := ia) rfl rfl (by omega) (by decide) dX5_fund_61 _ rfl (fun H locs hP hD hS => ?_)
        have hP : va_P D cl_A [ob_J x 5 [.int (nI hh), .ref rl, .ref bk, .ref nd, .ref st, .ref sh, .ref wy], ob_J bk 0 [.int (funded + v), .int rewarded, .ref bal, .ref stk, .ref due], ar_I bal cI 10 (upd fbal ia ((fbal ia) + v))] H := hP
        have hD : va_D A [ob_J x 5 [.int (nI hh), .ref rl, .ref bk, .ref nd, .ref st, .ref sh, .ref wy], ob_J bk 0 [.int (funded + v), .int rewarded, .ref bal, .ref stk, .ref due], ar_I bal cI 10 (upd fbal ia ((fbal ia) + v))] := hD
        refine lv_aload_n hx hb dX5_fund_62 rfl (lv_at hl 0 rfl) ?_
        refine va_get (ci := 5) (v := .ref bk) (C := RX5) (T := TX5) (N := 7) hx hb hts bi_5 hown hK hP 0 rfl rfl 2 (by decide) (hts _ bw_135) (fun _ h9 => h9) rfl dX5_fund_63 ?_
        refine va_get (ci := 0) (v := .ref bal) (C := RX0) (T := TX0) (N := 5) hx hb hts bi_0 hown hK hP 1 rfl rfl 2 (by decide) (hts _ bw_28) (fun _ h9 => h9) rfl dX5_fund_66 ?_
        refine lv_iload_n hx hb dX5_fund_69 rfl (lv_at hl 1 rfl) ?_
        refine ar_ld hx hb hK hP 2 (k := ia) rfl rfl (by omega) (by decide) dX5_fund_70 ?_
        have q_1 : funded + v = fd_fund funded (nI ia) v := by simp [rr_fund, fd_fund, ba_fund, fu_P, up_i, h_1, t_ia, h_11, c_30]
        obtain ⟨hP, hD⟩ := cs_W (fun z_z => [ob_J x 5 [.int (nI hh), .ref rl, .ref bk, .ref nd, .ref st, .ref sh, .ref wy], ob_J bk 0 [.int z_z, .int rewarded, .ref bal, .ref stk, .ref due], ar_I bal cI 10 (upd fbal ia ((fbal ia) + v))]) q_1 hP hD
        have q_2 : upd fbal ia ((fbal ia) + v) = ba_fund funded fbal (nI ia) v := by simp [rr_fund, fd_fund, ba_fund, fu_P, up_i, h_1, t_ia, h_11, c_30]
        obtain ⟨hP, hD⟩ := cs_W (fun z_z => [ob_J x 5 [.int (nI hh), .ref rl, .ref bk, .ref nd, .ref st, .ref sh, .ref wy], ob_J bk 0 [.int (fd_fund funded (nI ia) v), .int rewarded, .ref bal, .ref stk, .ref due], ar_I bal cI 10 z_z]) q_2 hP hD
        exact re_I (w1 := fun u_u : Unit => [ob_J x 5 [.int (nI hh), .ref rl, .ref bk, .ref nd, .ref st, .ref sh, .ref wy], ob_J bk 0 [.int (fd_fund funded (nI ia) v), .int rewarded, .ref bal, .ref stk, .ref due], ar_I bal cI 10 (ba_fund funded fbal (nI ia) v)]) (v := (upd fbal ia ((fbal ia) + v)) ia) hx hb hr hlk hK hS rfl () hP hD (show (upd fbal ia ((fbal ia) + v)) ia = rr_fund funded fbal (nI ia) v from by simp [rr_fund, fd_fund, ba_fund, fu_P, up_i, h_1, t_ia, h_11, c_30]) dX5_fund_71
      · refine lv_bipush (v := (-3)) hx hb dX5_fund_33 (by decide) ?_
        have q_3 : funded = fd_fund funded (nI ia) v := by simp [rr_fund, fd_fund, ba_fund, fu_P, up_i, h_1, t_ia, h_11, c_30]
        obtain ⟨hP, hD⟩ := cs_W (fun z_z => [ob_J x 5 [.int (nI hh), .ref rl, .ref bk, .ref nd, .ref st, .ref sh, .ref wy], ob_J bk 0 [.int z_z, .int rewarded, .ref bal, .ref stk, .ref due], ar_I bal cI 10 fbal]) q_3 hP hD
        have q_4 : fbal = ba_fund funded fbal (nI ia) v := by simp [rr_fund, fd_fund, ba_fund, fu_P, up_i, h_1, t_ia, h_11, c_30]
        obtain ⟨hP, hD⟩ := cs_W (fun z_z => [ob_J x 5 [.int (nI hh), .ref rl, .ref bk, .ref nd, .ref st, .ref sh, .ref wy], ob_J bk 0 [.int (fd_fund funded (nI ia) v), .int rewarded, .ref bal, .ref stk, .ref due], ar_I bal cI 10 z_z]) q_4 hP hD
        exact re_I (w1 := fun u_u : Unit => [ob_J x 5 [.int (nI hh), .ref rl, .ref bk, .ref nd, .ref st, .ref sh, .ref wy], ob_J bk 0 [.int (fd_fund funded (nI ia) v), .int rewarded, .ref bal, .ref stk, .ref due], ar_I bal cI 10 (ba_fund funded fbal (nI ia) v)]) (v := (-3)) hx hb hr hlk hK hS rfl () hP hD (show (-3) = rr_fund funded fbal (nI ia) v from by simp [rr_fund, fd_fund, ba_fund, fu_P, up_i, h_1, t_ia, h_11, c_30]) dX5_fund_35
    · rw [if_neg h_11] at w_11; subst w_11
      refine lv_if_ne (tgt := 19) hx hb dX5_fund_14 (by decide) (fun h9 => absurd (by decide) h9) (fun _ => ?_)
      refine lv_iconst (v := (-1)) hx hb dX5_fund_17 (by decide) ?_
      have q_5 : funded = fd_fund funded (nI ia) v := by simp [rr_fund, fd_fund, ba_fund, fu_P, up_i, h_1, t_ia, h_11]
      obtain ⟨hP, hD⟩ := cs_W (fun z_z => [ob_J x 5 [.int (nI hh), .ref rl, .ref bk, .ref nd, .ref st, .ref sh, .ref wy], ob_J bk 0 [.int z_z, .int rewarded, .ref bal, .ref stk, .ref due], ar_I bal cI 10 fbal]) q_5 hP hD
      have q_6 : fbal = ba_fund funded fbal (nI ia) v := by simp [rr_fund, fd_fund, ba_fund, fu_P, up_i, h_1, t_ia, h_11]
      obtain ⟨hP, hD⟩ := cs_W (fun z_z => [ob_J x 5 [.int (nI hh), .ref rl, .ref bk, .ref nd, .ref st, .ref sh, .ref wy], ob_J bk 0 [.int (fd_fund funded (nI ia) v), .int rewarded, .ref bal, .ref stk, .ref due], ar_I bal cI 10 z_z]) q_6 hP hD
      exact re_I (w1 := fun u_u : Unit => [ob_J x 5 [.int (nI hh), .ref rl, .ref bk, .ref nd, .ref st, .ref sh, .ref wy], ob_J bk 0 [.int (fd_fund funded (nI ia) v), .int rewarded, .ref bal, .ref stk, .ref due], ar_I bal cI 10 (ba_fund funded fbal (nI ia) v)]) (v := (-1)) hx hb hr hlk hK hS rfl () hP hD (show (-1) = rr_fund funded fbal (nI ia) v from by simp [rr_fund, fd_fund, ba_fund, fu_P, up_i, h_1, t_ia, h_11]) dX5_fund_18
  · rw [if_neg h_1] at w_1; subst w_1
    refine lv_if_eq (tgt := 17) hx hb dX5_fund_4 (by decide) (fun _ => ?_) (fun h9 => absurd (by decide) h9)
    refine lv_iconst (v := (-1)) hx hb dX5_fund_17 (by decide) ?_
    have q_7 : funded = fd_fund funded a v := by simp [rr_fund, fd_fund, ba_fund, fu_P, up_i, h_1]
    obtain ⟨hP, hD⟩ := cs_W (fun z_z => [ob_J x 5 [.int (nI hh), .ref rl, .ref bk, .ref nd, .ref st, .ref sh, .ref wy], ob_J bk 0 [.int z_z, .int rewarded, .ref bal, .ref stk, .ref due], ar_I bal cI 10 fbal]) q_7 hP hD
    have q_8 : fbal = ba_fund funded fbal a v := by simp [rr_fund, fd_fund, ba_fund, fu_P, up_i, h_1]
    obtain ⟨hP, hD⟩ := cs_W (fun z_z => [ob_J x 5 [.int (nI hh), .ref rl, .ref bk, .ref nd, .ref st, .ref sh, .ref wy], ob_J bk 0 [.int (fd_fund funded a v), .int rewarded, .ref bal, .ref stk, .ref due], ar_I bal cI 10 z_z]) q_8 hP hD
    exact re_I (w1 := fun u_u : Unit => [ob_J x 5 [.int (nI hh), .ref rl, .ref bk, .ref nd, .ref st, .ref sh, .ref wy], ob_J bk 0 [.int (fd_fund funded a v), .int rewarded, .ref bal, .ref stk, .ref due], ar_I bal cI 10 (ba_fund funded fbal a v)]) (v := (-1)) hx hb hr hlk hK hS rfl () hP hD (show (-1) = rr_fund funded fbal a v from by simp [rr_fund, fd_fund, ba_fund, fu_P, up_i, h_1]) dX5_fund_18

set_option maxHeartbeats 4000000 in
set_option maxRecDepth 100000 in
theorem k_X5_node (l : Launch) (D : va_G) (cI cJ cZ : ClassId) (x : Nat) (nd : Nat) (kp : Nat) (ct : Nat) (sa : Nat) (la : Nat) (hh : Nat) (rl : Nat) (bk : Nat) (st : Nat) (sh : Nat) (wy : Nat) (sz : Nat) (fz : Nat) (fkp : Nat → Int32) (fct : Nat → Int32) (fsa : Nat → Int32) (fla : Nat → Int32) (k : Int32) (c_ : Int32) (hsz : sz ≤ 8) : mt_I l yX5_node cX5_node 3 .int 2 42 D cI cJ cZ [ob_J x 5 [.int (nI hh), .ref rl, .ref bk, .ref nd, .ref st, .ref sh, .ref wy], ob_J nd 1 [.int (nI sz), .ref kp, .ref ct, .ref sa, .ref la, .ref fz], ar_I kp cI 8 fkp, ar_I ct cI 8 fct, ar_I sa cI 8 fsa, ar_I la cI 8 fla] [.ref x, .int k, .int c_] (fun r (u_u : Unit) => r = rr_node sz k c_) (fun u_u : Unit => [ob_J x 5 [.int (nI hh), .ref rl, .ref bk, .ref nd, .ref st, .ref sh, .ref wy], ob_J nd 1 [.int (nI (sz_node sz k c_)), .ref kp, .ref ct, .ref sa, .ref la, .ref fz], ar_I kp cI 8 (up_node sz k c_ fkp k), ar_I ct cI 8 (up_node sz k c_ fct c_), ar_I sa cI 8 (up_node sz k c_ fsa 0), ar_I la cI 8 (up_node sz k c_ fla (-2))]) := by
  refine en_I (by decide) (Nat.le_of_ble_eq_true rfl) ?_
  intro p e s m below meth c A ls H locs hx hb hr hml hts hown hlk hN hK hA hP hD hS hl
  have hown : s.vm.findClass RX5 = some m.cls := hown
  have hl : lv_has ls 3 [(0, .ref x), (1, .int k), (2, .int c_)] := hl
  refine lv_iload_n hx hb dX5_node_0 rfl (lv_at hl 1 rfl) ?_
  refine ca_SI (rest := []) (k_X5_isAccount l D cI cJ cZ k ) hx hb hml hown hts hN hK hA hP hD hS bw_170 bw_171 bw_1 bw_172 1 rfl (by decide +kernel) ⟨by decide, by decide⟩ hl.1 rfl (Nat.le_of_ble_eq_true rfl) dX5_node_1 ⟨Nat.zero_le _, Nat.zero_le _⟩ (fun r_1 u_u H locs w_1 hP hD hS => ?_)
  have w_1 : r_1 = if 0 ≤ k ∧ k ≤ 9 then 1 else 0 := w_1
  by_cases h_1 : 0 ≤ k ∧ k ≤ 9
  · rw [if_pos h_1] at w_1; subst w_1
    refine lv_if_eq (tgt := 17) hx hb dX5_node_4 (by decide) (fun h9 => absurd h9 (by decide)) (fun _ => ?_)
    refine lv_iload_n hx hb dX5_node_7 rfl (lv_at hl 2 rfl) ?_
    refine lv_iconst (v := 0) hx hb dX5_node_8 (by decide) ?_
    refine lv_bipush (v := 100) hx hb dX5_node_9 (by decide) ?_
    refine ca_SI (rest := []) (k_X5_isWithin l D cI cJ cZ c_ 0 100 ) hx hb hml hown hts hN hK hA hP hD hS bw_163 bw_164 bw_1 bw_165 3 rfl (by decide +kernel) ⟨by decide, by decide⟩ hl.1 rfl (Nat.le_of_ble_eq_true rfl) dX5_node_11 ⟨Nat.zero_le _, Nat.zero_le _⟩ (fun r_11 u_u H locs w_11 hP hD hS => ?_)
    have w_11 : r_11 = if 0 ≤ c_ ∧ c_ ≤ 100 then 1 else 0 := w_11
    by_cases h_11 : 0 ≤ c_ ∧ c_ ≤ 100
    · rw [if_pos h_11] at w_11; subst w_11
      refine lv_if_ne (tgt := 19) hx hb dX5_node_14 (by decide) (fun _ => ?_) (fun h9 => absurd h9 (by decide))
      refine lv_aload_n hx hb dX5_node_19 rfl (lv_at hl 0 rfl) ?_
      refine va_get (ci := 5) (v := .ref nd) (C := RX5) (T := TX5) (N := 7) hx hb hts bi_5 hown hK hP 0 rfl rfl 3 (by decide) (hts _ bw_136) (fun _ h9 => h9) rfl dX5_node_20 ?_
      refine va_get (ci := 1) (v := .int (nI sz)) (C := RX1) (T := TX1) (N := 6) hx hb hts bi_1 hown hK hP 1 rfl rfl 0 (by decide) (hts _ bw_52) (fun _ h9 => h9) rfl dX5_node_23 ?_
      refine lv_bipush (v := 8) hx hb dX5_node_26 (by decide) ?_
      refine lv_icmp_lt (tgt := 34) hx hb dX5_node_28 (by decide) (fun c_28 => ?_) (fun c_28 => ?_)
      · have c_28 := qq_lt (a := sz) (b := 8) c_28 (by omega) (by omega)
        refine lv_aload_n hx hb dX5_node_34 rfl (lv_at hl 0 rfl) ?_
        refine va_get (ci := 5) (v := .ref nd) (C := RX5) (T := TX5) (N := 7) hx hb hts bi_5 hown hK hP 0 rfl rfl 3 (by decide) (hts _ bw_136) (fun _ h9 => h9) rfl dX5_node_35 ?_
        refine lv_iload_n hx hb dX5_node_38 rfl (lv_at hl 1 rfl) ?_
        refine lv_iload_n hx hb dX5_node_39 rfl (lv_at hl 2 rfl) ?_
        refine ca_VI (rest := []) (wr := [ob_J x 5 [.int (nI hh), .ref rl, .ref bk, .ref nd, .ref st, .ref sh, .ref wy]]) (w2 := fun u_u => [ob_J x 5 [.int (nI hh), .ref rl, .ref bk, .ref nd, .ref st, .ref sh, .ref wy], ob_J nd 1 [.int (nI (sz + 1)), .ref kp, .ref ct, .ref sa, .ref la, .ref fz], ar_I kp cI 8 (upd fkp sz k), ar_I ct cI 8 (upd fct sz c_), ar_I sa cI 8 (upd fsa sz 0), ar_I la cI 8 (upd fla sz (-2))]) (k_X1_open l D cI cJ cZ nd kp ct sa la sz fz fkp fct fsa fla k c_ (by first | assumption | omega)) hx hb hml hown hts hN hK hA hP hD hS 1 0 rfl rfl bw_178 bw_179 bw_180 bw_3 bw_181 2 rfl (by decide +kernel) ⟨by decide, by decide⟩ [1, 2, 3, 4, 5] [0] [0, 1, 2, 3, 4, 5] rfl rfl (by decide) (fun _ => rfl) hl.1 rfl (Nat.le_of_ble_eq_true rfl) dX5_node_40 ⟨Nat.zero_le _, Nat.zero_le _⟩ (fun r_40 u_u H locs w_40 hP hD hS => ?_)
        have hP : va_P D cl_A [ob_J x 5 [.int (nI hh), .ref rl, .ref bk, .ref nd, .ref st, .ref sh, .ref wy], ob_J nd 1 [.int (nI (sz + 1)), .ref kp, .ref ct, .ref sa, .ref la, .ref fz], ar_I kp cI 8 (upd fkp sz k), ar_I ct cI 8 (upd fct sz c_), ar_I sa cI 8 (upd fsa sz 0), ar_I la cI 8 (upd fla sz (-2))] H := hP
        have hD : va_D A [ob_J x 5 [.int (nI hh), .ref rl, .ref bk, .ref nd, .ref st, .ref sh, .ref wy], ob_J nd 1 [.int (nI (sz + 1)), .ref kp, .ref ct, .ref sa, .ref la, .ref fz], ar_I kp cI 8 (upd fkp sz k), ar_I ct cI 8 (upd fct sz c_), ar_I sa cI 8 (upd fsa sz 0), ar_I la cI 8 (upd fla sz (-2))] := hD
        have w_40 : r_40 = nI sz := w_40
        subst w_40
        have q_1 : nI (sz + 1) = nI (sz_node sz k c_) := by simp [rr_node, sz_node, up_node, no_P, h_1, h_11, c_28]
        obtain ⟨hP, hD⟩ := cs_W (fun z_z => [ob_J x 5 [.int (nI hh), .ref rl, .ref bk, .ref nd, .ref st, .ref sh, .ref wy], ob_J nd 1 [.int z_z, .ref kp, .ref ct, .ref sa, .ref la, .ref fz], ar_I kp cI 8 (upd fkp sz k), ar_I ct cI 8 (upd fct sz c_), ar_I sa cI 8 (upd fsa sz 0), ar_I la cI 8 (upd fla sz (-2))]) q_1 hP hD
        have q_2 : upd fkp sz k = up_node sz k c_ fkp k := by simp [rr_node, sz_node, up_node, no_P, h_1, h_11, c_28]
        obtain ⟨hP, hD⟩ := cs_W (fun z_z => [ob_J x 5 [.int (nI hh), .ref rl, .ref bk, .ref nd, .ref st, .ref sh, .ref wy], ob_J nd 1 [.int (nI (sz_node sz k c_)), .ref kp, .ref ct, .ref sa, .ref la, .ref fz], ar_I kp cI 8 z_z, ar_I ct cI 8 (upd fct sz c_), ar_I sa cI 8 (upd fsa sz 0), ar_I la cI 8 (upd fla sz (-2))]) q_2 hP hD
        have q_3 : upd fct sz c_ = up_node sz k c_ fct c_ := by simp [rr_node, sz_node, up_node, no_P, h_1, h_11, c_28]
        obtain ⟨hP, hD⟩ := cs_W (fun z_z => [ob_J x 5 [.int (nI hh), .ref rl, .ref bk, .ref nd, .ref st, .ref sh, .ref wy], ob_J nd 1 [.int (nI (sz_node sz k c_)), .ref kp, .ref ct, .ref sa, .ref la, .ref fz], ar_I kp cI 8 (up_node sz k c_ fkp k), ar_I ct cI 8 z_z, ar_I sa cI 8 (upd fsa sz 0), ar_I la cI 8 (upd fla sz (-2))]) q_3 hP hD
        have q_4 : upd fsa sz 0 = up_node sz k c_ fsa 0 := by simp [rr_node, sz_node, up_node, no_P, h_1, h_11, c_28]
        obtain ⟨hP, hD⟩ := cs_W (fun z_z => [ob_J x 5 [.int (nI hh), .ref rl, .ref bk, .ref nd, .ref st, .ref sh, .ref wy], ob_J nd 1 [.int (nI (sz_node sz k c_)), .ref kp, .ref ct, .ref sa, .ref la, .ref fz], ar_I kp cI 8 (up_node sz k c_ fkp k), ar_I ct cI 8 (up_node sz k c_ fct c_), ar_I sa cI 8 z_z, ar_I la cI 8 (upd fla sz (-2))]) q_4 hP hD
        have q_5 : upd fla sz (-2) = up_node sz k c_ fla (-2) := by simp [rr_node, sz_node, up_node, no_P, h_1, h_11, c_28]
        obtain ⟨hP, hD⟩ := cs_W (fun z_z => [ob_J x 5 [.int (nI hh), .ref rl, .ref bk, .ref nd, .ref st, .ref sh, .ref wy], ob_J nd 1 [.int (nI (sz_node sz k c_)), .ref kp, .ref ct, .ref sa, .ref la, .ref fz], ar_I kp cI 8 (up_node sz k c_ fkp k), ar_I ct cI 8 (up_node sz k c_ fct c_), ar_I sa cI 8 (up_node sz k c_ fsa 0), ar_I la cI 8 z_z]) q_5 hP hD
        exact re_I (w1 := fun u_u : Unit => [ob_J x 5 [.int (nI hh), .ref rl, .ref bk, .ref nd, .ref st, .ref sh, .ref wy], ob_J nd 1 [.int (nI (sz_node sz k c_)), .ref kp, .ref ct, .ref sa, .ref la, .ref fz], ar_I kp cI 8 (up_node sz k c_ fkp k), ar_I ct cI 8 (up_node sz k c_ fct c_), ar_I sa cI 8 (up_node sz k c_ fsa 0), ar_I la cI 8 (up_node sz k c_ fla (-2))]) (v := nI sz) hx hb hr hlk hK hS rfl () hP hD (show nI sz = rr_node sz k c_ from by simp [rr_node, sz_node, up_node, no_P, h_1, h_11, c_28]) dX5_node_43
      · have c_28 := qq_nlt (a := sz) (b := 8) c_28 (by omega) (by omega)
        have c_28 := Nat.not_lt.mpr c_28
        refine lv_bipush (v := (-3)) hx hb dX5_node_31 (by decide) ?_
        have q_6 : nI sz = nI (sz_node sz k c_) := by simp [rr_node, sz_node, up_node, no_P, h_1, h_11, c_28]
        obtain ⟨hP, hD⟩ := cs_W (fun z_z => [ob_J x 5 [.int (nI hh), .ref rl, .ref bk, .ref nd, .ref st, .ref sh, .ref wy], ob_J nd 1 [.int z_z, .ref kp, .ref ct, .ref sa, .ref la, .ref fz], ar_I kp cI 8 fkp, ar_I ct cI 8 fct, ar_I sa cI 8 fsa, ar_I la cI 8 fla]) q_6 hP hD
        have q_7 : fkp = up_node sz k c_ fkp k := by simp [rr_node, sz_node, up_node, no_P, h_1, h_11, c_28]
        obtain ⟨hP, hD⟩ := cs_W (fun z_z => [ob_J x 5 [.int (nI hh), .ref rl, .ref bk, .ref nd, .ref st, .ref sh, .ref wy], ob_J nd 1 [.int (nI (sz_node sz k c_)), .ref kp, .ref ct, .ref sa, .ref la, .ref fz], ar_I kp cI 8 z_z, ar_I ct cI 8 fct, ar_I sa cI 8 fsa, ar_I la cI 8 fla]) q_7 hP hD
        have q_8 : fct = up_node sz k c_ fct c_ := by simp [rr_node, sz_node, up_node, no_P, h_1, h_11, c_28]
        obtain ⟨hP, hD⟩ := cs_W (fun z_z => [ob_J x 5 [.int (nI hh), .ref rl, .ref bk, .ref nd, .ref st, .ref sh, .ref wy], ob_J nd 1 [.int (nI (sz_node sz k c_)), .ref kp, .ref ct, .ref sa, .ref la, .ref fz], ar_I kp cI 8 (up_node sz k c_ fkp k), ar_I ct cI 8 z_z, ar_I sa cI 8 fsa, ar_I la cI 8 fla]) q_8 hP hD
        have q_9 : fsa = up_node sz k c_ fsa 0 := by simp [rr_node, sz_node, up_node, no_P, h_1, h_11, c_28]
        obtain ⟨hP, hD⟩ := cs_W (fun z_z => [ob_J x 5 [.int (nI hh), .ref rl, .ref bk, .ref nd, .ref st, .ref sh, .ref wy], ob_J nd 1 [.int (nI (sz_node sz k c_)), .ref kp, .ref ct, .ref sa, .ref la, .ref fz], ar_I kp cI 8 (up_node sz k c_ fkp k), ar_I ct cI 8 (up_node sz k c_ fct c_), ar_I sa cI 8 z_z, ar_I la cI 8 fla]) q_9 hP hD
        have q_10 : fla = up_node sz k c_ fla (-2) := by simp [rr_node, sz_node, up_node, no_P, h_1, h_11, c_28]
        obtain ⟨hP, hD⟩ := cs_W (fun z_z => [ob_J x 5 [.int (nI hh), .ref rl, .ref bk, .ref nd, .ref st, .ref sh, .ref wy], ob_J nd 1 [.int (nI (sz_node sz k c_)), .ref kp, .ref ct, .ref sa, .ref la, .ref fz], ar_I kp cI 8 (up_node sz k c_ fkp k), ar_I ct cI 8 (up_node sz k c_ fct c_), ar_I sa cI 8 (up_node sz k c_ fsa 0), ar_I la cI 8 z_z]) q_10 hP hD
        exact re_I (w1 := fun u_u : Unit => [ob_J x 5 [.int (nI hh), .ref rl, .ref bk, .ref nd, .ref st, .ref sh, .ref wy], ob_J nd 1 [.int (nI (sz_node sz k c_)), .ref kp, .ref ct, .ref sa, .ref la, .ref fz], ar_I kp cI 8 (up_node sz k c_ fkp k), ar_I ct cI 8 (up_node sz k c_ fct c_), ar_I sa cI 8 (up_node sz k c_ fsa 0), ar_I la cI 8 (up_node sz k c_ fla (-2))]) (v := (-3)) hx hb hr hlk hK hS rfl () hP hD (show (-3) = rr_node sz k c_ from by simp [rr_node, sz_node, up_node, no_P, h_1, h_11, c_28]) dX5_node_33
    · rw [if_neg h_11] at w_11; subst w_11
      refine lv_if_ne (tgt := 19) hx hb dX5_node_14 (by decide) (fun h9 => absurd (by decide) h9) (fun _ => ?_)
      refine lv_iconst (v := (-1)) hx hb dX5_node_17 (by decide) ?_
      have q_11 : nI sz = nI (sz_node sz k c_) := by simp [rr_node, sz_node, up_node, no_P, h_1, h_11]
      obtain ⟨hP, hD⟩ := cs_W (fun z_z => [ob_J x 5 [.int (nI hh), .ref rl, .ref bk, .ref nd, .ref st, .ref sh, .ref wy], ob_J nd 1 [.int z_z, .ref kp, .ref ct, .ref sa, .ref la, .ref fz], ar_I kp cI 8 fkp, ar_I ct cI 8 fct, ar_I sa cI 8 fsa, ar_I la cI 8 fla]) q_11 hP hD
      have q_12 : fkp = up_node sz k c_ fkp k := by simp [rr_node, sz_node, up_node, no_P, h_1, h_11]
      obtain ⟨hP, hD⟩ := cs_W (fun z_z => [ob_J x 5 [.int (nI hh), .ref rl, .ref bk, .ref nd, .ref st, .ref sh, .ref wy], ob_J nd 1 [.int (nI (sz_node sz k c_)), .ref kp, .ref ct, .ref sa, .ref la, .ref fz], ar_I kp cI 8 z_z, ar_I ct cI 8 fct, ar_I sa cI 8 fsa, ar_I la cI 8 fla]) q_12 hP hD
      have q_13 : fct = up_node sz k c_ fct c_ := by simp [rr_node, sz_node, up_node, no_P, h_1, h_11]
      obtain ⟨hP, hD⟩ := cs_W (fun z_z => [ob_J x 5 [.int (nI hh), .ref rl, .ref bk, .ref nd, .ref st, .ref sh, .ref wy], ob_J nd 1 [.int (nI (sz_node sz k c_)), .ref kp, .ref ct, .ref sa, .ref la, .ref fz], ar_I kp cI 8 (up_node sz k c_ fkp k), ar_I ct cI 8 z_z, ar_I sa cI 8 fsa, ar_I la cI 8 fla]) q_13 hP hD
      have q_14 : fsa = up_node sz k c_ fsa 0 := by simp [rr_node, sz_node, up_node, no_P, h_1, h_11]
      obtain ⟨hP, hD⟩ := cs_W (fun z_z => [ob_J x 5 [.int (nI hh), .ref rl, .ref bk, .ref nd, .ref st, .ref sh, .ref wy], ob_J nd 1 [.int (nI (sz_node sz k c_)), .ref kp, .ref ct, .ref sa, .ref la, .ref fz], ar_I kp cI 8 (up_node sz k c_ fkp k), ar_I ct cI 8 (up_node sz k c_ fct c_), ar_I sa cI 8 z_z, ar_I la cI 8 fla]) q_14 hP hD
      have q_15 : fla = up_node sz k c_ fla (-2) := by simp [rr_node, sz_node, up_node, no_P, h_1, h_11]
      obtain ⟨hP, hD⟩ := cs_W (fun z_z => [ob_J x 5 [.int (nI hh), .ref rl, .ref bk, .ref nd, .ref st, .ref sh, .ref wy], ob_J nd 1 [.int (nI (sz_node sz k c_)), .ref kp, .ref ct, .ref sa, .ref la, .ref fz], ar_I kp cI 8 (up_node sz k c_ fkp k), ar_I ct cI 8 (up_node sz k c_ fct c_), ar_I sa cI 8 (up_node sz k c_ fsa 0), ar_I la cI 8 z_z]) q_15 hP hD
      exact re_I (w1 := fun u_u : Unit => [ob_J x 5 [.int (nI hh), .ref rl, .ref bk, .ref nd, .ref st, .ref sh, .ref wy], ob_J nd 1 [.int (nI (sz_node sz k c_)), .ref kp, .ref ct, .ref sa, .ref la, .ref fz], ar_I kp cI 8 (up_node sz k c_ fkp k), ar_I ct cI 8 (up_node sz k c_ fct c_), ar_I sa cI 8 (up_node sz k c_ fsa 0), ar_I la cI 8 (up_node sz k c_ fla (-2))]) (v := (-1)) hx hb hr hlk hK hS rfl () hP hD (show (-1) = rr_node sz k c_ from by simp [rr_node, sz_node, up_node, no_P, h_1, h_11]) dX5_node_18
  · rw [if_neg h_1] at w_1; subst w_1
    refine lv_if_eq (tgt := 17) hx hb dX5_node_4 (by decide) (fun _ => ?_) (fun h9 => absurd (by decide) h9)
    refine lv_iconst (v := (-1)) hx hb dX5_node_17 (by decide) ?_
    have q_16 : nI sz = nI (sz_node sz k c_) := by simp [rr_node, sz_node, up_node, no_P, h_1]
    obtain ⟨hP, hD⟩ := cs_W (fun z_z => [ob_J x 5 [.int (nI hh), .ref rl, .ref bk, .ref nd, .ref st, .ref sh, .ref wy], ob_J nd 1 [.int z_z, .ref kp, .ref ct, .ref sa, .ref la, .ref fz], ar_I kp cI 8 fkp, ar_I ct cI 8 fct, ar_I sa cI 8 fsa, ar_I la cI 8 fla]) q_16 hP hD
    have q_17 : fkp = up_node sz k c_ fkp k := by simp [rr_node, sz_node, up_node, no_P, h_1]
    obtain ⟨hP, hD⟩ := cs_W (fun z_z => [ob_J x 5 [.int (nI hh), .ref rl, .ref bk, .ref nd, .ref st, .ref sh, .ref wy], ob_J nd 1 [.int (nI (sz_node sz k c_)), .ref kp, .ref ct, .ref sa, .ref la, .ref fz], ar_I kp cI 8 z_z, ar_I ct cI 8 fct, ar_I sa cI 8 fsa, ar_I la cI 8 fla]) q_17 hP hD
    have q_18 : fct = up_node sz k c_ fct c_ := by simp [rr_node, sz_node, up_node, no_P, h_1]
    obtain ⟨hP, hD⟩ := cs_W (fun z_z => [ob_J x 5 [.int (nI hh), .ref rl, .ref bk, .ref nd, .ref st, .ref sh, .ref wy], ob_J nd 1 [.int (nI (sz_node sz k c_)), .ref kp, .ref ct, .ref sa, .ref la, .ref fz], ar_I kp cI 8 (up_node sz k c_ fkp k), ar_I ct cI 8 z_z, ar_I sa cI 8 fsa, ar_I la cI 8 fla]) q_18 hP hD
    have q_19 : fsa = up_node sz k c_ fsa 0 := by simp [rr_node, sz_node, up_node, no_P, h_1]
    obtain ⟨hP, hD⟩ := cs_W (fun z_z => [ob_J x 5 [.int (nI hh), .ref rl, .ref bk, .ref nd, .ref st, .ref sh, .ref wy], ob_J nd 1 [.int (nI (sz_node sz k c_)), .ref kp, .ref ct, .ref sa, .ref la, .ref fz], ar_I kp cI 8 (up_node sz k c_ fkp k), ar_I ct cI 8 (up_node sz k c_ fct c_), ar_I sa cI 8 z_z, ar_I la cI 8 fla]) q_19 hP hD
    have q_20 : fla = up_node sz k c_ fla (-2) := by simp [rr_node, sz_node, up_node, no_P, h_1]
    obtain ⟨hP, hD⟩ := cs_W (fun z_z => [ob_J x 5 [.int (nI hh), .ref rl, .ref bk, .ref nd, .ref st, .ref sh, .ref wy], ob_J nd 1 [.int (nI (sz_node sz k c_)), .ref kp, .ref ct, .ref sa, .ref la, .ref fz], ar_I kp cI 8 (up_node sz k c_ fkp k), ar_I ct cI 8 (up_node sz k c_ fct c_), ar_I sa cI 8 (up_node sz k c_ fsa 0), ar_I la cI 8 z_z]) q_20 hP hD
    exact re_I (w1 := fun u_u : Unit => [ob_J x 5 [.int (nI hh), .ref rl, .ref bk, .ref nd, .ref st, .ref sh, .ref wy], ob_J nd 1 [.int (nI (sz_node sz k c_)), .ref kp, .ref ct, .ref sa, .ref la, .ref fz], ar_I kp cI 8 (up_node sz k c_ fkp k), ar_I ct cI 8 (up_node sz k c_ fct c_), ar_I sa cI 8 (up_node sz k c_ fsa 0), ar_I la cI 8 (up_node sz k c_ fla (-2))]) (v := (-1)) hx hb hr hlk hK hS rfl () hP hD (show (-1) = rr_node sz k c_ from by simp [rr_node, sz_node, up_node, no_P, h_1]) dX5_node_18

set_option maxHeartbeats 4000000 in
set_option maxRecDepth 100000 in
theorem k_X5_stake (l : Launch) (D : va_G) (cI cJ cZ : ClassId) (x : Nat) (bk : Nat) (bal : Nat) (stk : Nat) (nd : Nat) (hh : Nat) (rl : Nat) (st : Nat) (sh : Nat) (wy : Nat) (funded : Int32) (rewarded : Int32) (due : Nat) (fbal : Nat → Int32) (fstk : Nat → Int32) (sz : Nat) (kp : Nat) (ct : Nat) (sa : Nat) (la : Nat) (fz : Nat) (a : Int32) (n : Int32) (v : Int32) (hsz : sz ≤ 8) : mt_I l yX5_stake cX5_stake 5 .int 3 65 D cI cJ cZ [ob_J x 5 [.int (nI hh), .ref rl, .ref bk, .ref nd, .ref st, .ref sh, .ref wy], ob_J bk 0 [.int funded, .int rewarded, .ref bal, .ref stk, .ref due], ar_I bal cI 10 fbal, ar_I stk cI 80 fstk, ob_J nd 1 [.int (nI sz), .ref kp, .ref ct, .ref sa, .ref la, .ref fz]] [.ref x, .int a, .int n, .int v] (fun r (u_u : Unit) => r = rr_stake sz fbal fstk a n v) (fun u_u : Unit => [ob_J x 5 [.int (nI hh), .ref rl, .ref bk, .ref nd, .ref st, .ref sh, .ref wy], ob_J bk 0 [.int funded, .int rewarded, .ref bal, .ref stk, .ref due], ar_I bal cI 10 (ba_stake sz fbal a n v), ar_I stk cI 80 (sk_stake sz fbal fstk a n v), ob_J nd 1 [.int (nI sz), .ref kp, .ref ct, .ref sa, .ref la, .ref fz]]) := by
  refine en_I (by decide) (Nat.le_of_ble_eq_true rfl) ?_
  intro p e s m below meth c A ls H locs hx hb hr hml hts hown hlk hN hK hA hP hD hS hl
  have hown : s.vm.findClass RX5 = some m.cls := hown
  have hl : lv_has ls 5 [(0, .ref x), (1, .int a), (2, .int n), (3, .int v)] := hl
  refine lv_aload_n hx hb dX5_stake_0 rfl (lv_at hl 0 rfl) ?_
  refine lv_iload_n hx hb dX5_stake_1 rfl (lv_at hl 1 rfl) ?_
  refine lv_iload_n hx hb dX5_stake_2 rfl (lv_at hl 2 rfl) ?_
  refine lv_iload_n hx hb dX5_stake_3 rfl (lv_at hl 3 rfl) ?_
  refine ca_VI (rest := []) (wr := [ob_J bk 0 [.int funded, .int rewarded, .ref bal, .ref stk, .ref due], ar_I bal cI 10 fbal, ar_I stk cI 80 fstk]) (w2 := fun u_u => [ob_J x 5 [.int (nI hh), .ref rl, .ref bk, .ref nd, .ref st, .ref sh, .ref wy], ob_J bk 0 [.int funded, .int rewarded, .ref bal, .ref stk, .ref due], ar_I bal cI 10 fbal, ar_I stk cI 80 fstk, ob_J nd 1 [.int (nI sz), .ref kp, .ref ct, .ref sa, .ref la, .ref fz]]) (k_X5_isMove l D cI cJ cZ x nd hh rl bk st sh wy sz kp ct sa la fz a n v ) hx hb hml hown hts hN hK hA hP hD hS 5 0 rfl rfl bw_186 bw_188 bs_0 bw_1 bw_189 3 rfl (by decide +kernel) ⟨by decide, by decide⟩ [0, 4] [1, 2, 3] [3, 0, 1, 2, 4] rfl rfl (by decide) (fun _ => rfl) hl.1 rfl (Nat.le_of_ble_eq_true rfl) dX5_stake_4 ⟨Nat.zero_le _, Nat.zero_le _⟩ (fun r_4 u_u H locs w_4 hP hD hS => ?_)
  have hP : va_P D cl_A [ob_J x 5 [.int (nI hh), .ref rl, .ref bk, .ref nd, .ref st, .ref sh, .ref wy], ob_J bk 0 [.int funded, .int rewarded, .ref bal, .ref stk, .ref due], ar_I bal cI 10 fbal, ar_I stk cI 80 fstk, ob_J nd 1 [.int (nI sz), .ref kp, .ref ct, .ref sa, .ref la, .ref fz]] H := hP
  have hD : va_D A [ob_J x 5 [.int (nI hh), .ref rl, .ref bk, .ref nd, .ref st, .ref sh, .ref wy], ob_J bk 0 [.int funded, .int rewarded, .ref bal, .ref stk, .ref due], ar_I bal cI 10 fbal, ar_I stk cI 80 fstk, ob_J nd 1 [.int (nI sz), .ref kp, .ref ct, .ref sa, .ref la, .ref fz]] := hD
  have w_4 : r_4 = if (0 ≤ a ∧ a ≤ 9) ∧ (0 ≤ n ∧ n < nI sz) ∧ (1 ≤ v ∧ v ≤ 1000000) then 1 else 0 := w_4
  by_cases h_4 : (0 ≤ a ∧ a ≤ 9) ∧ (0 ≤ n ∧ n < nI sz) ∧ (1 ≤ v ∧ v ≤ 1000000)
  · rw [if_pos h_4] at w_4; subst w_4
    obtain ⟨ia, h_ia, rfl⟩ : ∃ z : Nat, z < 10 ∧ a = nI z := ix_le (by decide) h_4.1
    have t_ia := tn_nI (n := ia) (by omega)
    obtain ⟨jn, h_jn, rfl⟩ : ∃ z : Nat, z < sz ∧ n = nI z := ix_lt (by omega) h_4.2.1
    have t_jn := tn_nI (n := jn) (by omega)
    refine lv_if_ne (tgt := 12) hx hb dX5_stake_7 (by decide) (fun _ => ?_) (fun h9 => absurd h9 (by decide))
    refine lv_aload_n hx hb dX5_stake_12 rfl (lv_at hl 0 rfl) ?_
    refine va_get (ci := 5) (v := .ref bk) (C := RX5) (T := TX5) (N := 7) hx hb hts bi_5 hown hK hP 0 rfl rfl 2 (by decide) (hts _ bw_135) (fun _ h9 => h9) rfl dX5_stake_13 ?_
    refine va_get (ci := 0) (v := .ref bal) (C := RX0) (T := TX0) (N := 5) hx hb hts bi_0 hown hK hP 1 rfl rfl 2 (by decide) (hts _ bw_28) (fun _ h9 => h9) rfl dX5_stake_16 ?_
    refine lv_iload_n hx hb dX5_stake_19 rfl (lv_at hl 1 rfl) ?_
    refine ar_ld hx hb hK hP 2 (k := ia) rfl rfl (by omega) (by decide) dX5_stake_20 ?_
    refine lv_iload_n hx hb dX5_stake_21 rfl (lv_at hl 3 rfl) ?_
    refine lv_icmp_ge (tgt := 28) hx hb dX5_stake_22 (by decide) (fun c_22 => ?_) (fun c_22 => ?_)
    · refine lv_aload_n hx hb dX5_stake_28 rfl (lv_at hl 0 rfl) ?_
      refine va_get (ci := 5) (v := .ref bk) (C := RX5) (T := TX5) (N := 7) hx hb hts bi_5 hown hK hP 0 rfl rfl 2 (by decide) (hts _ bw_135) (fun _ h9 => h9) rfl dX5_stake_29 ?_
      refine va_get (ci := 0) (v := .ref bal) (C := RX0) (T := TX0) (N := 5) hx hb hts bi_0 hown hK hP 1 rfl rfl 2 (by decide) (hts _ bw_28) (fun _ h9 => h9) rfl dX5_stake_32 ?_
      refine lv_iload_n hx hb dX5_stake_35 rfl (lv_at hl 1 rfl) ?_
      refine lv_dup2_11 hx hb dX5_stake_36 rfl rfl ?_
      refine ar_ld hx hb hK hP 2 (k := ia) rfl rfl (by omega) (by decide) dX5_stake_37 ?_
      refine lv_iload_n hx hb dX5_stake_38 rfl (lv_at hl 3 rfl) ?_
      refine lv_isub hx hb dX5_stake_39 ?_
      refine ar_st hx hb hK hP hD hS 2 (k := ia) rfl rfl (by omega) (by decide) dX5_stake_40 _ rfl (fun H locs hP hD hS => ?_)
      have hP : va_P D cl_A [ob_J x 5 [.int (nI hh), .ref rl, .ref bk, .ref nd, .ref st, .ref sh, .ref wy], ob_J bk 0 [.int funded, .int rewarded, .ref bal, .ref stk, .ref due], ar_I bal cI 10 (upd fbal ia ((fbal ia) - v)), ar_I stk cI 80 fstk, ob_J nd 1 [.int (nI sz), .ref kp, .ref ct, .ref sa, .ref la, .ref fz]] H := hP
      have hD : va_D A [ob_J x 5 [.int (nI hh), .ref rl, .ref bk, .ref nd, .ref st, .ref sh, .ref wy], ob_J bk 0 [.int funded, .int rewarded, .ref bal, .ref stk, .ref due], ar_I bal cI 10 (upd fbal ia ((fbal ia) - v)), ar_I stk cI 80 fstk, ob_J nd 1 [.int (nI sz), .ref kp, .ref ct, .ref sa, .ref la, .ref fz]] := hD
      refine lv_iload_n hx hb dX5_stake_41 rfl (lv_at hl 2 rfl) ?_
      refine lv_iload_n hx hb dX5_stake_42 rfl (lv_at hl 1 rfl) ?_
      refine ca_SI (rest := []) (k_X5_stakePlace l D cI cJ cZ jn ia ) hx hb hml hown hts hN hK hA hP hD hS bw_194 bw_195 bw_1 bw_196 2 rfl (by decide +kernel) ⟨by decide, by decide⟩ hl.1 rfl (Nat.le_of_ble_eq_true rfl) dX5_stake_43 ⟨Nat.zero_le _, Nat.zero_le _⟩ (fun r_43 u_u H locs w_43 hP hD hS => ?_)
      have w_43 : r_43 = nI (jn * 10 + ia) := w_43
      subst w_43
      refine lv_istore (lv' := [(4, .int (nI (jn * 10 + ia))), (0, .ref x), (1, .int (nI ia)), (2, .int (nI jn)), (3, .int v)]) hx hb dX5_stake_46 hl (by decide) rfl (fun ls hl => ?_)
      refine lv_aload_n hx hb dX5_stake_48 rfl (lv_at hl 1 rfl) ?_
      refine va_get (ci := 5) (v := .ref bk) (C := RX5) (T := TX5) (N := 7) hx hb hts bi_5 hown hK hP 0 rfl rfl 2 (by decide) (hts _ bw_135) (fun _ h9 => h9) rfl dX5_stake_49 ?_
      refine va_get (ci := 0) (v := .ref stk) (C := RX0) (T := TX0) (N := 5) hx hb hts bi_0 hown hK hP 1 rfl rfl 3 (by decide) (hts _ bw_30) (fun _ h9 => h9) rfl dX5_stake_52 ?_
      refine lv_iload hx hb dX5_stake_55 (lv_at hl 0 rfl) ?_
      refine lv_dup2_11 hx hb dX5_stake_57 rfl rfl ?_
      refine ar_ld hx hb hK hP 3 (k := jn * 10 + ia) rfl rfl (by omega) (by decide) dX5_stake_58 ?_
      refine lv_iload_n hx hb dX5_stake_59 rfl (lv_at hl 4 rfl) ?_
      refine lv_iadd hx hb dX5_stake_60 ?_
      refine ar_st hx hb hK hP hD hS 3 (k := jn * 10 + ia) rfl rfl (by omega) (by decide) dX5_stake_61 _ rfl (fun H locs hP hD hS => ?_)
      have hP : va_P D cl_A [ob_J x 5 [.int (nI hh), .ref rl, .ref bk, .ref nd, .ref st, .ref sh, .ref wy], ob_J bk 0 [.int funded, .int rewarded, .ref bal, .ref stk, .ref due], ar_I bal cI 10 (upd fbal ia ((fbal ia) - v)), ar_I stk cI 80 (upd fstk (jn * 10 + ia) ((fstk (jn * 10 + ia)) + v)), ob_J nd 1 [.int (nI sz), .ref kp, .ref ct, .ref sa, .ref la, .ref fz]] H := hP
      have hD : va_D A [ob_J x 5 [.int (nI hh), .ref rl, .ref bk, .ref nd, .ref st, .ref sh, .ref wy], ob_J bk 0 [.int funded, .int rewarded, .ref bal, .ref stk, .ref due], ar_I bal cI 10 (upd fbal ia ((fbal ia) - v)), ar_I stk cI 80 (upd fstk (jn * 10 + ia) ((fstk (jn * 10 + ia)) + v)), ob_J nd 1 [.int (nI sz), .ref kp, .ref ct, .ref sa, .ref la, .ref fz]] := hD
      refine lv_aload_n hx hb dX5_stake_62 rfl (lv_at hl 1 rfl) ?_
      refine va_get (ci := 5) (v := .ref bk) (C := RX5) (T := TX5) (N := 7) hx hb hts bi_5 hown hK hP 0 rfl rfl 2 (by decide) (hts _ bw_135) (fun _ h9 => h9) rfl dX5_stake_63 ?_
      refine va_get (ci := 0) (v := .ref stk) (C := RX0) (T := TX0) (N := 5) hx hb hts bi_0 hown hK hP 1 rfl rfl 3 (by decide) (hts _ bw_30) (fun _ h9 => h9) rfl dX5_stake_66 ?_
      refine lv_iload hx hb dX5_stake_69 (lv_at hl 0 rfl) ?_
      refine ar_ld hx hb hK hP 3 (k := jn * 10 + ia) rfl rfl (by omega) (by decide) dX5_stake_71 ?_
      have q_1 : upd fbal ia ((fbal ia) - v) = ba_stake sz fbal (nI ia) (nI jn) v := by simp [rr_stake, ba_stake, sk_stake, mv_P, up_i, h_4, t_ia, t_jn, c_22]
      obtain ⟨hP, hD⟩ := cs_W (fun z_z => [ob_J x 5 [.int (nI hh), .ref rl, .ref bk, .ref nd, .ref st, .ref sh, .ref wy], ob_J bk 0 [.int funded, .int rewarded, .ref bal, .ref stk, .ref due], ar_I bal cI 10 z_z, ar_I stk cI 80 (upd fstk (jn * 10 + ia) ((fstk (jn * 10 + ia)) + v)), ob_J nd 1 [.int (nI sz), .ref kp, .ref ct, .ref sa, .ref la, .ref fz]]) q_1 hP hD
      have q_2 : upd fstk (jn * 10 + ia) ((fstk (jn * 10 + ia)) + v) = sk_stake sz fbal fstk (nI ia) (nI jn) v := by simp [rr_stake, ba_stake, sk_stake, mv_P, up_i, h_4, t_ia, t_jn, c_22]
      obtain ⟨hP, hD⟩ := cs_W (fun z_z => [ob_J x 5 [.int (nI hh), .ref rl, .ref bk, .ref nd, .ref st, .ref sh, .ref wy], ob_J bk 0 [.int funded, .int rewarded, .ref bal, .ref stk, .ref due], ar_I bal cI 10 (ba_stake sz fbal (nI ia) (nI jn) v), ar_I stk cI 80 z_z, ob_J nd 1 [.int (nI sz), .ref kp, .ref ct, .ref sa, .ref la, .ref fz]]) q_2 hP hD
      exact re_I (w1 := fun u_u : Unit => [ob_J x 5 [.int (nI hh), .ref rl, .ref bk, .ref nd, .ref st, .ref sh, .ref wy], ob_J bk 0 [.int funded, .int rewarded, .ref bal, .ref stk, .ref due], ar_I bal cI 10 (ba_stake sz fbal (nI ia) (nI jn) v), ar_I stk cI 80 (sk_stake sz fbal fstk (nI ia) (nI jn) v), ob_J nd 1 [.int (nI sz), .ref kp, .ref ct, .ref sa, .ref la, .ref fz]]) (v := (upd fstk (jn * 10 + ia) ((fstk (jn * 10 + ia)) + v)) (jn * 10 + ia)) hx hb hr hlk hK hS rfl () hP hD (show (upd fstk (jn * 10 + ia) ((fstk (jn * 10 + ia)) + v)) (jn * 10 + ia) = rr_stake sz fbal fstk (nI ia) (nI jn) v from by simp [rr_stake, ba_stake, sk_stake, mv_P, up_i, h_4, t_ia, t_jn, c_22]) dX5_stake_72
    · refine lv_bipush (v := (-3)) hx hb dX5_stake_25 (by decide) ?_
      have q_3 : fbal = ba_stake sz fbal (nI ia) (nI jn) v := by simp [rr_stake, ba_stake, sk_stake, mv_P, up_i, h_4, t_ia, t_jn, c_22]
      obtain ⟨hP, hD⟩ := cs_W (fun z_z => [ob_J x 5 [.int (nI hh), .ref rl, .ref bk, .ref nd, .ref st, .ref sh, .ref wy], ob_J bk 0 [.int funded, .int rewarded, .ref bal, .ref stk, .ref due], ar_I bal cI 10 z_z, ar_I stk cI 80 fstk, ob_J nd 1 [.int (nI sz), .ref kp, .ref ct, .ref sa, .ref la, .ref fz]]) q_3 hP hD
      have q_4 : fstk = sk_stake sz fbal fstk (nI ia) (nI jn) v := by simp [rr_stake, ba_stake, sk_stake, mv_P, up_i, h_4, t_ia, t_jn, c_22]
      obtain ⟨hP, hD⟩ := cs_W (fun z_z => [ob_J x 5 [.int (nI hh), .ref rl, .ref bk, .ref nd, .ref st, .ref sh, .ref wy], ob_J bk 0 [.int funded, .int rewarded, .ref bal, .ref stk, .ref due], ar_I bal cI 10 (ba_stake sz fbal (nI ia) (nI jn) v), ar_I stk cI 80 z_z, ob_J nd 1 [.int (nI sz), .ref kp, .ref ct, .ref sa, .ref la, .ref fz]]) q_4 hP hD
      exact re_I (w1 := fun u_u : Unit => [ob_J x 5 [.int (nI hh), .ref rl, .ref bk, .ref nd, .ref st, .ref sh, .ref wy], ob_J bk 0 [.int funded, .int rewarded, .ref bal, .ref stk, .ref due], ar_I bal cI 10 (ba_stake sz fbal (nI ia) (nI jn) v), ar_I stk cI 80 (sk_stake sz fbal fstk (nI ia) (nI jn) v), ob_J nd 1 [.int (nI sz), .ref kp, .ref ct, .ref sa, .ref la, .ref fz]]) (v := (-3)) hx hb hr hlk hK hS rfl () hP hD (show (-3) = rr_stake sz fbal fstk (nI ia) (nI jn) v from by simp [rr_stake, ba_stake, sk_stake, mv_P, up_i, h_4, t_ia, t_jn, c_22]) dX5_stake_27
  · rw [if_neg h_4] at w_4; subst w_4
    refine lv_if_ne (tgt := 12) hx hb dX5_stake_7 (by decide) (fun h9 => absurd (by decide) h9) (fun _ => ?_)
    refine lv_iconst (v := (-1)) hx hb dX5_stake_10 (by decide) ?_
    have q_5 : fbal = ba_stake sz fbal a n v := by simp [rr_stake, ba_stake, sk_stake, mv_P, up_i, h_4]
    obtain ⟨hP, hD⟩ := cs_W (fun z_z => [ob_J x 5 [.int (nI hh), .ref rl, .ref bk, .ref nd, .ref st, .ref sh, .ref wy], ob_J bk 0 [.int funded, .int rewarded, .ref bal, .ref stk, .ref due], ar_I bal cI 10 z_z, ar_I stk cI 80 fstk, ob_J nd 1 [.int (nI sz), .ref kp, .ref ct, .ref sa, .ref la, .ref fz]]) q_5 hP hD
    have q_6 : fstk = sk_stake sz fbal fstk a n v := by simp [rr_stake, ba_stake, sk_stake, mv_P, up_i, h_4]
    obtain ⟨hP, hD⟩ := cs_W (fun z_z => [ob_J x 5 [.int (nI hh), .ref rl, .ref bk, .ref nd, .ref st, .ref sh, .ref wy], ob_J bk 0 [.int funded, .int rewarded, .ref bal, .ref stk, .ref due], ar_I bal cI 10 (ba_stake sz fbal a n v), ar_I stk cI 80 z_z, ob_J nd 1 [.int (nI sz), .ref kp, .ref ct, .ref sa, .ref la, .ref fz]]) q_6 hP hD
    exact re_I (w1 := fun u_u : Unit => [ob_J x 5 [.int (nI hh), .ref rl, .ref bk, .ref nd, .ref st, .ref sh, .ref wy], ob_J bk 0 [.int funded, .int rewarded, .ref bal, .ref stk, .ref due], ar_I bal cI 10 (ba_stake sz fbal a n v), ar_I stk cI 80 (sk_stake sz fbal fstk a n v), ob_J nd 1 [.int (nI sz), .ref kp, .ref ct, .ref sa, .ref la, .ref fz]]) (v := (-1)) hx hb hr hlk hK hS rfl () hP hD (show (-1) = rr_stake sz fbal fstk a n v from by simp [rr_stake, ba_stake, sk_stake, mv_P, up_i, h_4]) dX5_stake_11

set_option maxHeartbeats 4000000 in
set_option maxRecDepth 100000 in
theorem k_X5_draw (l : Launch) (D : va_G) (cI cJ cZ : ClassId) (x : Nat) (rl : Nat) (bk : Nat) (stk : Nat) (due : Nat) (nd : Nat) (fz : Nat) (hh : Nat) (st : Nat) (sh : Nat) (wy : Nat) (frl : Nat → Int32) (funded : Int32) (rewarded : Int32) (bal : Nat) (fstk : Nat → Int32) (fdue : Nat → Int32) (sz : Nat) (kp : Nat) (ct : Nat) (sa : Nat) (la : Nat) (ffz : Nat → Int32) (a : Int32) (n : Int32) (v : Int32) (w_ : Nat) (hsz : sz ≤ 8) (hhh : hh ≤ 100) (hw : frl 0 = nI w_) (hw9 : w_ ≤ 9) : mt_I l yX5_draw cX5_draw 5 .int 3 65 D cI cJ cZ [ob_J x 5 [.int (nI hh), .ref rl, .ref bk, .ref nd, .ref st, .ref sh, .ref wy], ar_I rl cI 4 frl, ob_J bk 0 [.int funded, .int rewarded, .ref bal, .ref stk, .ref due], ar_I stk cI 80 fstk, ar_I due cI 1100 fdue, ob_J nd 1 [.int (nI sz), .ref kp, .ref ct, .ref sa, .ref la, .ref fz], ar_I fz cZ 8 ffz] [.ref x, .int a, .int n, .int v] (fun r (u_u : Unit) => r = rr_draw sz fstk ffz a n v) (fun u_u : Unit => [ob_J x 5 [.int (nI hh), .ref rl, .ref bk, .ref nd, .ref st, .ref sh, .ref wy], ar_I rl cI 4 frl, ob_J bk 0 [.int funded, .int rewarded, .ref bal, .ref stk, .ref due], ar_I stk cI 80 (sk_draw sz fstk ffz a n v), ar_I due cI 1100 (du_draw hh w_ sz fstk ffz fdue a n v), ob_J nd 1 [.int (nI sz), .ref kp, .ref ct, .ref sa, .ref la, .ref fz], ar_I fz cZ 8 ffz]) := by
  refine en_I (by decide) (Nat.le_of_ble_eq_true rfl) ?_
  intro p e s m below meth c A ls H locs hx hb hr hml hts hown hlk hN hK hA hP hD hS hl
  have hown : s.vm.findClass RX5 = some m.cls := hown
  have hl : lv_has ls 5 [(0, .ref x), (1, .int a), (2, .int n), (3, .int v)] := hl
  refine lv_aload_n hx hb dX5_draw_0 rfl (lv_at hl 0 rfl) ?_
  refine lv_iload_n hx hb dX5_draw_1 rfl (lv_at hl 1 rfl) ?_
  refine lv_iload_n hx hb dX5_draw_2 rfl (lv_at hl 2 rfl) ?_
  refine lv_iload_n hx hb dX5_draw_3 rfl (lv_at hl 3 rfl) ?_
  refine ca_VI (rest := []) (wr := [ar_I rl cI 4 frl, ob_J bk 0 [.int funded, .int rewarded, .ref bal, .ref stk, .ref due], ar_I stk cI 80 fstk, ar_I due cI 1100 fdue, ar_I fz cZ 8 ffz]) (w2 := fun u_u => [ob_J x 5 [.int (nI hh), .ref rl, .ref bk, .ref nd, .ref st, .ref sh, .ref wy], ar_I rl cI 4 frl, ob_J bk 0 [.int funded, .int rewarded, .ref bal, .ref stk, .ref due], ar_I stk cI 80 fstk, ar_I due cI 1100 fdue, ob_J nd 1 [.int (nI sz), .ref kp, .ref ct, .ref sa, .ref la, .ref fz], ar_I fz cZ 8 ffz]) (k_X5_isMove l D cI cJ cZ x nd hh rl bk st sh wy sz kp ct sa la fz a n v ) hx hb hml hown hts hN hK hA hP hD hS 5 0 rfl rfl bw_186 bw_188 bs_0 bw_1 bw_189 3 rfl (by decide +kernel) ⟨by decide, by decide⟩ [0, 5] [1, 2, 3, 4, 6] [5, 0, 1, 2, 3, 6, 4] rfl rfl (by decide) (fun _ => rfl) hl.1 rfl (Nat.le_of_ble_eq_true rfl) dX5_draw_4 ⟨Nat.zero_le _, Nat.zero_le _⟩ (fun r_4 u_u H locs w_4 hP hD hS => ?_)
  have hP : va_P D cl_A [ob_J x 5 [.int (nI hh), .ref rl, .ref bk, .ref nd, .ref st, .ref sh, .ref wy], ar_I rl cI 4 frl, ob_J bk 0 [.int funded, .int rewarded, .ref bal, .ref stk, .ref due], ar_I stk cI 80 fstk, ar_I due cI 1100 fdue, ob_J nd 1 [.int (nI sz), .ref kp, .ref ct, .ref sa, .ref la, .ref fz], ar_I fz cZ 8 ffz] H := hP
  have hD : va_D A [ob_J x 5 [.int (nI hh), .ref rl, .ref bk, .ref nd, .ref st, .ref sh, .ref wy], ar_I rl cI 4 frl, ob_J bk 0 [.int funded, .int rewarded, .ref bal, .ref stk, .ref due], ar_I stk cI 80 fstk, ar_I due cI 1100 fdue, ob_J nd 1 [.int (nI sz), .ref kp, .ref ct, .ref sa, .ref la, .ref fz], ar_I fz cZ 8 ffz] := hD
  have w_4 : r_4 = if (0 ≤ a ∧ a ≤ 9) ∧ (0 ≤ n ∧ n < nI sz) ∧ (1 ≤ v ∧ v ≤ 1000000) then 1 else 0 := w_4
  by_cases h_4 : (0 ≤ a ∧ a ≤ 9) ∧ (0 ≤ n ∧ n < nI sz) ∧ (1 ≤ v ∧ v ≤ 1000000)
  · rw [if_pos h_4] at w_4; subst w_4
    obtain ⟨ia, h_ia, rfl⟩ : ∃ z : Nat, z < 10 ∧ a = nI z := ix_le (by decide) h_4.1
    have t_ia := tn_nI (n := ia) (by omega)
    obtain ⟨jn, h_jn, rfl⟩ : ∃ z : Nat, z < sz ∧ n = nI z := ix_lt (by omega) h_4.2.1
    have t_jn := tn_nI (n := jn) (by omega)
    refine lv_if_ne (tgt := 12) hx hb dX5_draw_7 (by decide) (fun _ => ?_) (fun h9 => absurd h9 (by decide))
    refine lv_iload_n hx hb dX5_draw_12 rfl (lv_at hl 2 rfl) ?_
    refine lv_iload_n hx hb dX5_draw_13 rfl (lv_at hl 1 rfl) ?_
    refine ca_SI (rest := []) (k_X5_stakePlace l D cI cJ cZ jn ia ) hx hb hml hown hts hN hK hA hP hD hS bw_194 bw_195 bw_1 bw_196 2 rfl (by decide +kernel) ⟨by decide, by decide⟩ hl.1 rfl (Nat.le_of_ble_eq_true rfl) dX5_draw_14 ⟨Nat.zero_le _, Nat.zero_le _⟩ (fun r_14 u_u H locs w_14 hP hD hS => ?_)
    have w_14 : r_14 = nI (jn * 10 + ia) := w_14
    subst w_14
    refine lv_istore (lv' := [(4, .int (nI (jn * 10 + ia))), (0, .ref x), (1, .int (nI ia)), (2, .int (nI jn)), (3, .int v)]) hx hb dX5_draw_17 hl (by decide) rfl (fun ls hl => ?_)
    refine lv_aload_n hx hb dX5_draw_19 rfl (lv_at hl 1 rfl) ?_
    refine va_get (ci := 5) (v := .ref bk) (C := RX5) (T := TX5) (N := 7) hx hb hts bi_5 hown hK hP 0 rfl rfl 2 (by decide) (hts _ bw_135) (fun _ h9 => h9) rfl dX5_draw_20 ?_
    refine va_get (ci := 0) (v := .ref stk) (C := RX0) (T := TX0) (N := 5) hx hb hts bi_0 hown hK hP 2 rfl rfl 3 (by decide) (hts _ bw_30) (fun _ h9 => h9) rfl dX5_draw_23 ?_
    refine lv_iload hx hb dX5_draw_26 (lv_at hl 0 rfl) ?_
    refine ar_ld hx hb hK hP 3 (k := jn * 10 + ia) rfl rfl (by omega) (by decide) dX5_draw_28 ?_
    refine lv_iload_n hx hb dX5_draw_29 rfl (lv_at hl 4 rfl) ?_
    refine lv_icmp_ge (tgt := 36) hx hb dX5_draw_30 (by decide) (fun c_30 => ?_) (fun c_30 => ?_)
    · refine lv_aload_n hx hb dX5_draw_36 rfl (lv_at hl 1 rfl) ?_
      refine va_get (ci := 5) (v := .ref nd) (C := RX5) (T := TX5) (N := 7) hx hb hts bi_5 hown hK hP 0 rfl rfl 3 (by decide) (hts _ bw_136) (fun _ h9 => h9) rfl dX5_draw_37 ?_
      refine va_get (ci := 1) (v := .ref fz) (C := RX1) (T := TX1) (N := 6) hx hb hts bi_1 hown hK hP 5 rfl rfl 5 (by decide) (hts _ bw_62) (fun _ h9 => h9) rfl dX5_draw_40 ?_
      refine lv_iload_n hx hb dX5_draw_43 rfl (lv_at hl 3 rfl) ?_
      refine ar_zd hx hb hK hP 6 (k := jn) rfl rfl (by omega) (by decide) dX5_draw_44 ?_
      refine lv_if_eq (tgt := 51) hx hb dX5_draw_45 (by decide) (fun c_45 => ?_) (fun c_45 => ?_)
      · refine lv_aload_n hx hb dX5_draw_51 rfl (lv_at hl 1 rfl) ?_
        refine va_get (ci := 5) (v := .ref bk) (C := RX5) (T := TX5) (N := 7) hx hb hts bi_5 hown hK hP 0 rfl rfl 2 (by decide) (hts _ bw_135) (fun _ h9 => h9) rfl dX5_draw_52 ?_
        refine va_get (ci := 0) (v := .ref stk) (C := RX0) (T := TX0) (N := 5) hx hb hts bi_0 hown hK hP 2 rfl rfl 3 (by decide) (hts _ bw_30) (fun _ h9 => h9) rfl dX5_draw_55 ?_
        refine lv_iload hx hb dX5_draw_58 (lv_at hl 0 rfl) ?_
        refine lv_dup2_11 hx hb dX5_draw_60 rfl rfl ?_
        refine ar_ld hx hb hK hP 3 (k := jn * 10 + ia) rfl rfl (by omega) (by decide) dX5_draw_61 ?_
        refine lv_iload_n hx hb dX5_draw_62 rfl (lv_at hl 4 rfl) ?_
        refine lv_isub hx hb dX5_draw_63 ?_
        refine ar_st hx hb hK hP hD hS 3 (k := jn * 10 + ia) rfl rfl (by omega) (by decide) dX5_draw_64 _ rfl (fun H locs hP hD hS => ?_)
        have hP : va_P D cl_A [ob_J x 5 [.int (nI hh), .ref rl, .ref bk, .ref nd, .ref st, .ref sh, .ref wy], ar_I rl cI 4 frl, ob_J bk 0 [.int funded, .int rewarded, .ref bal, .ref stk, .ref due], ar_I stk cI 80 (upd fstk (jn * 10 + ia) ((fstk (jn * 10 + ia)) - v)), ar_I due cI 1100 fdue, ob_J nd 1 [.int (nI sz), .ref kp, .ref ct, .ref sa, .ref la, .ref fz], ar_I fz cZ 8 ffz] H := hP
        have hD : va_D A [ob_J x 5 [.int (nI hh), .ref rl, .ref bk, .ref nd, .ref st, .ref sh, .ref wy], ar_I rl cI 4 frl, ob_J bk 0 [.int funded, .int rewarded, .ref bal, .ref stk, .ref due], ar_I stk cI 80 (upd fstk (jn * 10 + ia) ((fstk (jn * 10 + ia)) - v)), ar_I due cI 1100 fdue, ob_J nd 1 [.int (nI sz), .ref kp, .ref ct, .ref sa, .ref la, .ref fz], ar_I fz cZ 8 ffz] := hD
        refine lv_aload_n hx hb dX5_draw_65 rfl (lv_at hl 1 rfl) ?_
        refine va_get (ci := 5) (v := .ref bk) (C := RX5) (T := TX5) (N := 7) hx hb hts bi_5 hown hK hP 0 rfl rfl 2 (by decide) (hts _ bw_135) (fun _ h9 => h9) rfl dX5_draw_66 ?_
        refine va_get (ci := 0) (v := .ref due) (C := RX0) (T := TX0) (N := 5) hx hb hts bi_0 hown hK hP 2 rfl rfl 4 (by decide) (hts _ bw_32) (fun _ h9 => h9) rfl dX5_draw_69 ?_
        refine lv_iload_n hx hb dX5_draw_72 rfl (lv_at hl 2 rfl) ?_
        refine lv_aload_n hx hb dX5_draw_73 rfl (lv_at hl 1 rfl) ?_
        refine va_get (ci := 5) (v := .int (nI hh)) (C := RX5) (T := TX5) (N := 7) hx hb hts bi_5 hown hK hP 0 rfl rfl 0 (by decide) (hts _ bw_133) (fun _ h9 => h9) rfl dX5_draw_74 ?_
        refine lv_aload_n hx hb dX5_draw_77 rfl (lv_at hl 1 rfl) ?_
        refine va_get (ci := 5) (v := .ref rl) (C := RX5) (T := TX5) (N := 7) hx hb hts bi_5 hown hK hP 0 rfl rfl 1 (by decide) (hts _ bw_134) (fun _ h9 => h9) rfl dX5_draw_78 ?_
        refine lv_iconst (v := 0) hx hb dX5_draw_81 (by decide) ?_
        refine ar_ld hx hb hK hP 1 (k := 0) rfl rfl (by omega) (by decide) dX5_draw_82 ?_
        refine tp_i (x' := nI w_) (hw) ?_
        refine lv_iadd hx hb dX5_draw_83 ?_
        refine tp_i (x' := nI (hh + w_)) (nn_add rfl rfl) ?_
        refine ca_SI (rest := [.ref due]) (k_X5_duePlace l D cI cJ cZ ia (hh + w_) ) hx hb hml hown hts hN hK hA hP hD hS bw_201 bw_202 bw_1 bw_203 2 rfl (by decide +kernel) ⟨by decide, by decide⟩ hl.1 rfl (Nat.le_of_ble_eq_true rfl) dX5_draw_84 ⟨Nat.zero_le _, Nat.zero_le _⟩ (fun r_84 u_u H locs w_84 hP hD hS => ?_)
        have w_84 : r_84 = nI (ia * 110 + (hh + w_)) := w_84
        subst w_84
        refine lv_dup2_11 hx hb dX5_draw_87 rfl rfl ?_
        refine ar_ld hx hb hK hP 4 (k := ia * 110 + (hh + w_)) rfl rfl (by omega) (by decide) dX5_draw_88 ?_
        refine lv_iload_n hx hb dX5_draw_89 rfl (lv_at hl 4 rfl) ?_
        refine lv_iadd hx hb dX5_draw_90 ?_
        refine ar_st hx hb hK hP hD hS 4 (k := ia * 110 + (hh + w_)) rfl rfl (by omega) (by decide) dX5_draw_91 _ rfl (fun H locs hP hD hS => ?_)
        have hP : va_P D cl_A [ob_J x 5 [.int (nI hh), .ref rl, .ref bk, .ref nd, .ref st, .ref sh, .ref wy], ar_I rl cI 4 frl, ob_J bk 0 [.int funded, .int rewarded, .ref bal, .ref stk, .ref due], ar_I stk cI 80 (upd fstk (jn * 10 + ia) ((fstk (jn * 10 + ia)) - v)), ar_I due cI 1100 (upd fdue (ia * 110 + (hh + w_)) ((fdue (ia * 110 + (hh + w_))) + v)), ob_J nd 1 [.int (nI sz), .ref kp, .ref ct, .ref sa, .ref la, .ref fz], ar_I fz cZ 8 ffz] H := hP
        have hD : va_D A [ob_J x 5 [.int (nI hh), .ref rl, .ref bk, .ref nd, .ref st, .ref sh, .ref wy], ar_I rl cI 4 frl, ob_J bk 0 [.int funded, .int rewarded, .ref bal, .ref stk, .ref due], ar_I stk cI 80 (upd fstk (jn * 10 + ia) ((fstk (jn * 10 + ia)) - v)), ar_I due cI 1100 (upd fdue (ia * 110 + (hh + w_)) ((fdue (ia * 110 + (hh + w_))) + v)), ob_J nd 1 [.int (nI sz), .ref kp, .ref ct, .ref sa, .ref la, .ref fz], ar_I fz cZ 8 ffz] := hD
        refine lv_aload_n hx hb dX5_draw_92 rfl (lv_at hl 1 rfl) ?_
        refine va_get (ci := 5) (v := .ref bk) (C := RX5) (T := TX5) (N := 7) hx hb hts bi_5 hown hK hP 0 rfl rfl 2 (by decide) (hts _ bw_135) (fun _ h9 => h9) rfl dX5_draw_93 ?_
        refine va_get (ci := 0) (v := .ref stk) (C := RX0) (T := TX0) (N := 5) hx hb hts bi_0 hown hK hP 2 rfl rfl 3 (by decide) (hts _ bw_30) (fun _ h9 => h9) rfl dX5_draw_96 ?_
        refine lv_iload hx hb dX5_draw_99 (lv_at hl 0 rfl) ?_
        refine ar_ld hx hb hK hP 3 (k := jn * 10 + ia) rfl rfl (by omega) (by decide) dX5_draw_101 ?_
        have q_1 : upd fstk (jn * 10 + ia) ((fstk (jn * 10 + ia)) - v) = sk_draw sz fstk ffz (nI ia) (nI jn) v := by simp [rr_draw, sk_draw, du_draw, dr_P, mv_P, up_i, h_4, t_ia, t_jn, c_30, c_45]
        obtain ⟨hP, hD⟩ := cs_W (fun z_z => [ob_J x 5 [.int (nI hh), .ref rl, .ref bk, .ref nd, .ref st, .ref sh, .ref wy], ar_I rl cI 4 frl, ob_J bk 0 [.int funded, .int rewarded, .ref bal, .ref stk, .ref due], ar_I stk cI 80 z_z, ar_I due cI 1100 (upd fdue (ia * 110 + (hh + w_)) ((fdue (ia * 110 + (hh + w_))) + v)), ob_J nd 1 [.int (nI sz), .ref kp, .ref ct, .ref sa, .ref la, .ref fz], ar_I fz cZ 8 ffz]) q_1 hP hD
        have q_2 : upd fdue (ia * 110 + (hh + w_)) ((fdue (ia * 110 + (hh + w_))) + v) = du_draw hh w_ sz fstk ffz fdue (nI ia) (nI jn) v := by simp [rr_draw, sk_draw, du_draw, dr_P, mv_P, up_i, h_4, t_ia, t_jn, c_30, c_45]
        obtain ⟨hP, hD⟩ := cs_W (fun z_z => [ob_J x 5 [.int (nI hh), .ref rl, .ref bk, .ref nd, .ref st, .ref sh, .ref wy], ar_I rl cI 4 frl, ob_J bk 0 [.int funded, .int rewarded, .ref bal, .ref stk, .ref due], ar_I stk cI 80 (sk_draw sz fstk ffz (nI ia) (nI jn) v), ar_I due cI 1100 z_z, ob_J nd 1 [.int (nI sz), .ref kp, .ref ct, .ref sa, .ref la, .ref fz], ar_I fz cZ 8 ffz]) q_2 hP hD
        exact re_I (w1 := fun u_u : Unit => [ob_J x 5 [.int (nI hh), .ref rl, .ref bk, .ref nd, .ref st, .ref sh, .ref wy], ar_I rl cI 4 frl, ob_J bk 0 [.int funded, .int rewarded, .ref bal, .ref stk, .ref due], ar_I stk cI 80 (sk_draw sz fstk ffz (nI ia) (nI jn) v), ar_I due cI 1100 (du_draw hh w_ sz fstk ffz fdue (nI ia) (nI jn) v), ob_J nd 1 [.int (nI sz), .ref kp, .ref ct, .ref sa, .ref la, .ref fz], ar_I fz cZ 8 ffz]) (v := (upd fstk (jn * 10 + ia) ((fstk (jn * 10 + ia)) - v)) (jn * 10 + ia)) hx hb hr hlk hK hS rfl () hP hD (show (upd fstk (jn * 10 + ia) ((fstk (jn * 10 + ia)) - v)) (jn * 10 + ia) = rr_draw sz fstk ffz (nI ia) (nI jn) v from by simp [rr_draw, sk_draw, du_draw, dr_P, mv_P, up_i, h_4, t_ia, t_jn, c_30, c_45]) dX5_draw_102
      · refine lv_bipush (v := (-4)) hx hb dX5_draw_48 (by decide) ?_
        have q_3 : fstk = sk_draw sz fstk ffz (nI ia) (nI jn) v := by simp [rr_draw, sk_draw, du_draw, dr_P, mv_P, up_i, h_4, t_ia, t_jn, c_30, c_45]
        obtain ⟨hP, hD⟩ := cs_W (fun z_z => [ob_J x 5 [.int (nI hh), .ref rl, .ref bk, .ref nd, .ref st, .ref sh, .ref wy], ar_I rl cI 4 frl, ob_J bk 0 [.int funded, .int rewarded, .ref bal, .ref stk, .ref due], ar_I stk cI 80 z_z, ar_I due cI 1100 fdue, ob_J nd 1 [.int (nI sz), .ref kp, .ref ct, .ref sa, .ref la, .ref fz], ar_I fz cZ 8 ffz]) q_3 hP hD
        have q_4 : fdue = du_draw hh w_ sz fstk ffz fdue (nI ia) (nI jn) v := by simp [rr_draw, sk_draw, du_draw, dr_P, mv_P, up_i, h_4, t_ia, t_jn, c_30, c_45]
        obtain ⟨hP, hD⟩ := cs_W (fun z_z => [ob_J x 5 [.int (nI hh), .ref rl, .ref bk, .ref nd, .ref st, .ref sh, .ref wy], ar_I rl cI 4 frl, ob_J bk 0 [.int funded, .int rewarded, .ref bal, .ref stk, .ref due], ar_I stk cI 80 (sk_draw sz fstk ffz (nI ia) (nI jn) v), ar_I due cI 1100 z_z, ob_J nd 1 [.int (nI sz), .ref kp, .ref ct, .ref sa, .ref la, .ref fz], ar_I fz cZ 8 ffz]) q_4 hP hD
        exact re_I (w1 := fun u_u : Unit => [ob_J x 5 [.int (nI hh), .ref rl, .ref bk, .ref nd, .ref st, .ref sh, .ref wy], ar_I rl cI 4 frl, ob_J bk 0 [.int funded, .int rewarded, .ref bal, .ref stk, .ref due], ar_I stk cI 80 (sk_draw sz fstk ffz (nI ia) (nI jn) v), ar_I due cI 1100 (du_draw hh w_ sz fstk ffz fdue (nI ia) (nI jn) v), ob_J nd 1 [.int (nI sz), .ref kp, .ref ct, .ref sa, .ref la, .ref fz], ar_I fz cZ 8 ffz]) (v := (-4)) hx hb hr hlk hK hS rfl () hP hD (show (-4) = rr_draw sz fstk ffz (nI ia) (nI jn) v from by simp [rr_draw, sk_draw, du_draw, dr_P, mv_P, up_i, h_4, t_ia, t_jn, c_30, c_45]) dX5_draw_50
    · refine lv_bipush (v := (-3)) hx hb dX5_draw_33 (by decide) ?_
      have q_5 : fstk = sk_draw sz fstk ffz (nI ia) (nI jn) v := by simp [rr_draw, sk_draw, du_draw, dr_P, mv_P, up_i, h_4, t_ia, t_jn, c_30]
      obtain ⟨hP, hD⟩ := cs_W (fun z_z => [ob_J x 5 [.int (nI hh), .ref rl, .ref bk, .ref nd, .ref st, .ref sh, .ref wy], ar_I rl cI 4 frl, ob_J bk 0 [.int funded, .int rewarded, .ref bal, .ref stk, .ref due], ar_I stk cI 80 z_z, ar_I due cI 1100 fdue, ob_J nd 1 [.int (nI sz), .ref kp, .ref ct, .ref sa, .ref la, .ref fz], ar_I fz cZ 8 ffz]) q_5 hP hD
      have q_6 : fdue = du_draw hh w_ sz fstk ffz fdue (nI ia) (nI jn) v := by simp [rr_draw, sk_draw, du_draw, dr_P, mv_P, up_i, h_4, t_ia, t_jn, c_30]
      obtain ⟨hP, hD⟩ := cs_W (fun z_z => [ob_J x 5 [.int (nI hh), .ref rl, .ref bk, .ref nd, .ref st, .ref sh, .ref wy], ar_I rl cI 4 frl, ob_J bk 0 [.int funded, .int rewarded, .ref bal, .ref stk, .ref due], ar_I stk cI 80 (sk_draw sz fstk ffz (nI ia) (nI jn) v), ar_I due cI 1100 z_z, ob_J nd 1 [.int (nI sz), .ref kp, .ref ct, .ref sa, .ref la, .ref fz], ar_I fz cZ 8 ffz]) q_6 hP hD
      exact re_I (w1 := fun u_u : Unit => [ob_J x 5 [.int (nI hh), .ref rl, .ref bk, .ref nd, .ref st, .ref sh, .ref wy], ar_I rl cI 4 frl, ob_J bk 0 [.int funded, .int rewarded, .ref bal, .ref stk, .ref due], ar_I stk cI 80 (sk_draw sz fstk ffz (nI ia) (nI jn) v), ar_I due cI 1100 (du_draw hh w_ sz fstk ffz fdue (nI ia) (nI jn) v), ob_J nd 1 [.int (nI sz), .ref kp, .ref ct, .ref sa, .ref la, .ref fz], ar_I fz cZ 8 ffz]) (v := (-3)) hx hb hr hlk hK hS rfl () hP hD (show (-3) = rr_draw sz fstk ffz (nI ia) (nI jn) v from by simp [rr_draw, sk_draw, du_draw, dr_P, mv_P, up_i, h_4, t_ia, t_jn, c_30]) dX5_draw_35
  · rw [if_neg h_4] at w_4; subst w_4
    refine lv_if_ne (tgt := 12) hx hb dX5_draw_7 (by decide) (fun h9 => absurd (by decide) h9) (fun _ => ?_)
    refine lv_iconst (v := (-1)) hx hb dX5_draw_10 (by decide) ?_
    have q_7 : fstk = sk_draw sz fstk ffz a n v := by simp [rr_draw, sk_draw, du_draw, dr_P, mv_P, up_i, h_4]
    obtain ⟨hP, hD⟩ := cs_W (fun z_z => [ob_J x 5 [.int (nI hh), .ref rl, .ref bk, .ref nd, .ref st, .ref sh, .ref wy], ar_I rl cI 4 frl, ob_J bk 0 [.int funded, .int rewarded, .ref bal, .ref stk, .ref due], ar_I stk cI 80 z_z, ar_I due cI 1100 fdue, ob_J nd 1 [.int (nI sz), .ref kp, .ref ct, .ref sa, .ref la, .ref fz], ar_I fz cZ 8 ffz]) q_7 hP hD
    have q_8 : fdue = du_draw hh w_ sz fstk ffz fdue a n v := by simp [rr_draw, sk_draw, du_draw, dr_P, mv_P, up_i, h_4]
    obtain ⟨hP, hD⟩ := cs_W (fun z_z => [ob_J x 5 [.int (nI hh), .ref rl, .ref bk, .ref nd, .ref st, .ref sh, .ref wy], ar_I rl cI 4 frl, ob_J bk 0 [.int funded, .int rewarded, .ref bal, .ref stk, .ref due], ar_I stk cI 80 (sk_draw sz fstk ffz a n v), ar_I due cI 1100 z_z, ob_J nd 1 [.int (nI sz), .ref kp, .ref ct, .ref sa, .ref la, .ref fz], ar_I fz cZ 8 ffz]) q_8 hP hD
    exact re_I (w1 := fun u_u : Unit => [ob_J x 5 [.int (nI hh), .ref rl, .ref bk, .ref nd, .ref st, .ref sh, .ref wy], ar_I rl cI 4 frl, ob_J bk 0 [.int funded, .int rewarded, .ref bal, .ref stk, .ref due], ar_I stk cI 80 (sk_draw sz fstk ffz a n v), ar_I due cI 1100 (du_draw hh w_ sz fstk ffz fdue a n v), ob_J nd 1 [.int (nI sz), .ref kp, .ref ct, .ref sa, .ref la, .ref fz], ar_I fz cZ 8 ffz]) (v := (-1)) hx hb hr hlk hK hS rfl () hP hD (show (-1) = rr_draw sz fstk ffz a n v from by simp [rr_draw, sk_draw, du_draw, dr_P, mv_P, up_i, h_4]) dX5_draw_11

set_option maxHeartbeats 4000000 in
set_option maxRecDepth 100000 in
theorem k_X5_join (l : Launch) (D : va_G) (cI cJ cZ : ClassId) (x : Nat) (nd : Nat) (sa : Nat) (hh : Nat) (rl : Nat) (bk : Nat) (st : Nat) (sh : Nat) (wy : Nat) (sz : Nat) (kp : Nat) (ct : Nat) (la : Nat) (fz : Nat) (fsa : Nat → Int32) (n : Int32) (hsz : sz ≤ 8) : mt_I l yX5_join cX5_join 2 .int 1 21 D cI cJ cZ [ob_J x 5 [.int (nI hh), .ref rl, .ref bk, .ref nd, .ref st, .ref sh, .ref wy], ob_J nd 1 [.int (nI sz), .ref kp, .ref ct, .ref sa, .ref la, .ref fz], ar_I sa cI 8 fsa] [.ref x, .int n] (fun r (u_u : Unit) => r = rr_join hh sz fsa n) (fun u_u : Unit => [ob_J x 5 [.int (nI hh), .ref rl, .ref bk, .ref nd, .ref st, .ref sh, .ref wy], ob_J nd 1 [.int (nI sz), .ref kp, .ref ct, .ref sa, .ref la, .ref fz], ar_I sa cI 8 (sa_join sz fsa n)]) := by
  refine en_I (by decide) (Nat.le_of_ble_eq_true rfl) ?_
  intro p e s m below meth c A ls H locs hx hb hr hml hts hown hlk hN hK hA hP hD hS hl
  have hown : s.vm.findClass RX5 = some m.cls := hown
  have hl : lv_has ls 2 [(0, .ref x), (1, .int n)] := hl
  refine lv_aload_n hx hb dX5_join_0 rfl (lv_at hl 0 rfl) ?_
  refine va_get (ci := 5) (v := .ref nd) (C := RX5) (T := TX5) (N := 7) hx hb hts bi_5 hown hK hP 0 rfl rfl 3 (by decide) (hts _ bw_136) (fun _ h9 => h9) rfl dX5_join_1 ?_
  refine lv_iload_n hx hb dX5_join_4 rfl (lv_at hl 1 rfl) ?_
  refine ca_VI (rest := []) (wr := [ob_J x 5 [.int (nI hh), .ref rl, .ref bk, .ref nd, .ref st, .ref sh, .ref wy], ar_I sa cI 8 fsa]) (w2 := fun u_u => [ob_J x 5 [.int (nI hh), .ref rl, .ref bk, .ref nd, .ref st, .ref sh, .ref wy], ob_J nd 1 [.int (nI sz), .ref kp, .ref ct, .ref sa, .ref la, .ref fz], ar_I sa cI 8 fsa]) (k_X1_has l D cI cJ cZ nd sz kp ct sa la fz n ) hx hb hml hown hts hN hK hA hP hD hS 1 0 rfl rfl bw_190 bw_191 bw_192 bw_3 bw_193 1 rfl (by decide +kernel) ⟨by decide, by decide⟩ [1] [0, 2] [0, 2, 1] rfl rfl (by decide) (fun _ => rfl) hl.1 rfl (Nat.le_of_ble_eq_true rfl) dX5_join_5 ⟨Nat.zero_le _, Nat.zero_le _⟩ (fun r_5 u_u H locs w_5 hP hD hS => ?_)
  have hP : va_P D cl_A [ob_J x 5 [.int (nI hh), .ref rl, .ref bk, .ref nd, .ref st, .ref sh, .ref wy], ob_J nd 1 [.int (nI sz), .ref kp, .ref ct, .ref sa, .ref la, .ref fz], ar_I sa cI 8 fsa] H := hP
  have hD : va_D A [ob_J x 5 [.int (nI hh), .ref rl, .ref bk, .ref nd, .ref st, .ref sh, .ref wy], ob_J nd 1 [.int (nI sz), .ref kp, .ref ct, .ref sa, .ref la, .ref fz], ar_I sa cI 8 fsa] := hD
  have w_5 : r_5 = if 0 ≤ n ∧ n < nI sz then 1 else 0 := w_5
  by_cases h_5 : 0 ≤ n ∧ n < nI sz
  · rw [if_pos h_5] at w_5; subst w_5
    obtain ⟨jn, h_jn, rfl⟩ : ∃ z : Nat, z < sz ∧ n = nI z := ix_lt (by omega) h_5
    have t_jn := tn_nI (n := jn) (by omega)
    refine lv_if_ne (tgt := 13) hx hb dX5_join_8 (by decide) (fun _ => ?_) (fun h9 => absurd h9 (by decide))
    refine lv_aload_n hx hb dX5_join_13 rfl (lv_at hl 0 rfl) ?_
    refine va_get (ci := 5) (v := .ref nd) (C := RX5) (T := TX5) (N := 7) hx hb hts bi_5 hown hK hP 0 rfl rfl 3 (by decide) (hts _ bw_136) (fun _ h9 => h9) rfl dX5_join_14 ?_
    refine va_get (ci := 1) (v := .ref sa) (C := RX1) (T := TX1) (N := 6) hx hb hts bi_1 hown hK hP 1 rfl rfl 3 (by decide) (hts _ bw_58) (fun _ h9 => h9) rfl dX5_join_17 ?_
    refine lv_iload_n hx hb dX5_join_20 rfl (lv_at hl 1 rfl) ?_
    refine ar_ld hx hb hK hP 2 (k := jn) rfl rfl (by omega) (by decide) dX5_join_21 ?_
    refine lv_if_eq (tgt := 28) hx hb dX5_join_22 (by decide) (fun c_22 => ?_) (fun c_22 => ?_)
    · refine lv_aload_n hx hb dX5_join_28 rfl (lv_at hl 0 rfl) ?_
      refine va_get (ci := 5) (v := .ref nd) (C := RX5) (T := TX5) (N := 7) hx hb hts bi_5 hown hK hP 0 rfl rfl 3 (by decide) (hts _ bw_136) (fun _ h9 => h9) rfl dX5_join_29 ?_
      refine va_get (ci := 1) (v := .ref sa) (C := RX1) (T := TX1) (N := 6) hx hb hts bi_1 hown hK hP 1 rfl rfl 3 (by decide) (hts _ bw_58) (fun _ h9 => h9) rfl dX5_join_32 ?_
      refine lv_iload_n hx hb dX5_join_35 rfl (lv_at hl 1 rfl) ?_
      refine lv_iconst (v := 1) hx hb dX5_join_36 (by decide) ?_
      refine ar_st hx hb hK hP hD hS 2 (k := jn) rfl rfl (by omega) (by decide) dX5_join_37 _ rfl (fun H locs hP hD hS => ?_)
      have hP : va_P D cl_A [ob_J x 5 [.int (nI hh), .ref rl, .ref bk, .ref nd, .ref st, .ref sh, .ref wy], ob_J nd 1 [.int (nI sz), .ref kp, .ref ct, .ref sa, .ref la, .ref fz], ar_I sa cI 8 (upd fsa jn 1)] H := hP
      have hD : va_D A [ob_J x 5 [.int (nI hh), .ref rl, .ref bk, .ref nd, .ref st, .ref sh, .ref wy], ob_J nd 1 [.int (nI sz), .ref kp, .ref ct, .ref sa, .ref la, .ref fz], ar_I sa cI 8 (upd fsa jn 1)] := hD
      refine lv_aload_n hx hb dX5_join_38 rfl (lv_at hl 0 rfl) ?_
      refine va_get (ci := 5) (v := .int (nI hh)) (C := RX5) (T := TX5) (N := 7) hx hb hts bi_5 hown hK hP 0 rfl rfl 0 (by decide) (hts _ bw_133) (fun _ h9 => h9) rfl dX5_join_39 ?_
      refine lv_iconst (v := 1) hx hb dX5_join_42 (by decide) ?_
      refine lv_iadd hx hb dX5_join_43 ?_
      refine tp_i (x' := nI (hh + 1)) (nn_add rfl rfl) ?_
      have q_1 : upd fsa jn 1 = sa_join sz fsa (nI jn) := by simp [rr_join, sa_join, hn_P, h_5, t_jn, c_22]
      obtain ⟨hP, hD⟩ := cs_W (fun z_z => [ob_J x 5 [.int (nI hh), .ref rl, .ref bk, .ref nd, .ref st, .ref sh, .ref wy], ob_J nd 1 [.int (nI sz), .ref kp, .ref ct, .ref sa, .ref la, .ref fz], ar_I sa cI 8 z_z]) q_1 hP hD
      exact re_I (w1 := fun u_u : Unit => [ob_J x 5 [.int (nI hh), .ref rl, .ref bk, .ref nd, .ref st, .ref sh, .ref wy], ob_J nd 1 [.int (nI sz), .ref kp, .ref ct, .ref sa, .ref la, .ref fz], ar_I sa cI 8 (sa_join sz fsa (nI jn))]) (v := nI (hh + 1)) hx hb hr hlk hK hS rfl () hP hD (show nI (hh + 1) = rr_join hh sz fsa (nI jn) from by simp [rr_join, sa_join, hn_P, h_5, t_jn, c_22]) dX5_join_44
    · refine lv_bipush (v := (-4)) hx hb dX5_join_25 (by decide) ?_
      have q_2 : fsa = sa_join sz fsa (nI jn) := by simp [rr_join, sa_join, hn_P, h_5, t_jn, c_22]
      obtain ⟨hP, hD⟩ := cs_W (fun z_z => [ob_J x 5 [.int (nI hh), .ref rl, .ref bk, .ref nd, .ref st, .ref sh, .ref wy], ob_J nd 1 [.int (nI sz), .ref kp, .ref ct, .ref sa, .ref la, .ref fz], ar_I sa cI 8 z_z]) q_2 hP hD
      exact re_I (w1 := fun u_u : Unit => [ob_J x 5 [.int (nI hh), .ref rl, .ref bk, .ref nd, .ref st, .ref sh, .ref wy], ob_J nd 1 [.int (nI sz), .ref kp, .ref ct, .ref sa, .ref la, .ref fz], ar_I sa cI 8 (sa_join sz fsa (nI jn))]) (v := (-4)) hx hb hr hlk hK hS rfl () hP hD (show (-4) = rr_join hh sz fsa (nI jn) from by simp [rr_join, sa_join, hn_P, h_5, t_jn, c_22]) dX5_join_27
  · rw [if_neg h_5] at w_5; subst w_5
    refine lv_if_ne (tgt := 13) hx hb dX5_join_8 (by decide) (fun h9 => absurd (by decide) h9) (fun _ => ?_)
    refine lv_iconst (v := (-1)) hx hb dX5_join_11 (by decide) ?_
    have q_3 : fsa = sa_join sz fsa n := by simp [rr_join, sa_join, hn_P, h_5]
    obtain ⟨hP, hD⟩ := cs_W (fun z_z => [ob_J x 5 [.int (nI hh), .ref rl, .ref bk, .ref nd, .ref st, .ref sh, .ref wy], ob_J nd 1 [.int (nI sz), .ref kp, .ref ct, .ref sa, .ref la, .ref fz], ar_I sa cI 8 z_z]) q_3 hP hD
    exact re_I (w1 := fun u_u : Unit => [ob_J x 5 [.int (nI hh), .ref rl, .ref bk, .ref nd, .ref st, .ref sh, .ref wy], ob_J nd 1 [.int (nI sz), .ref kp, .ref ct, .ref sa, .ref la, .ref fz], ar_I sa cI 8 (sa_join sz fsa n)]) (v := (-1)) hx hb hr hlk hK hS rfl () hP hD (show (-1) = rr_join hh sz fsa n from by simp [rr_join, sa_join, hn_P, h_5]) dX5_join_12

set_option maxHeartbeats 4000000 in
set_option maxRecDepth 100000 in
theorem k_X5_leave (l : Launch) (D : va_G) (cI cJ cZ : ClassId) (x : Nat) (rl : Nat) (nd : Nat) (sa : Nat) (la : Nat) (fz : Nat) (hh : Nat) (bk : Nat) (st : Nat) (sh : Nat) (wy : Nat) (frl : Nat → Int32) (sz : Nat) (kp : Nat) (ct : Nat) (fsa : Nat → Int32) (fla : Nat → Int32) (ffz : Nat → Int32) (n : Int32) (w_ : Nat) (hsz : sz ≤ 8) (hw : frl 0 = nI w_) (hw9 : w_ ≤ 9) : mt_I l yX5_leave cX5_leave 2 .int 1 21 D cI cJ cZ [ob_J x 5 [.int (nI hh), .ref rl, .ref bk, .ref nd, .ref st, .ref sh, .ref wy], ar_I rl cI 4 frl, ob_J nd 1 [.int (nI sz), .ref kp, .ref ct, .ref sa, .ref la, .ref fz], ar_I sa cI 8 fsa, ar_I la cI 8 fla, ar_I fz cZ 8 ffz] [.ref x, .int n] (fun r (u_u : Unit) => r = rr_leave hh w_ sz fsa ffz n) (fun u_u : Unit => [ob_J x 5 [.int (nI hh), .ref rl, .ref bk, .ref nd, .ref st, .ref sh, .ref wy], ar_I rl cI 4 frl, ob_J nd 1 [.int (nI sz), .ref kp, .ref ct, .ref sa, .ref la, .ref fz], ar_I sa cI 8 (up_leave sz fsa ffz n fsa 3), ar_I la cI 8 (up_leave sz fsa ffz n fla (nI (hh + w_))), ar_I fz cZ 8 ffz]) := by
  refine en_I (by decide) (Nat.le_of_ble_eq_true rfl) ?_
  intro p e s m below meth c A ls H locs hx hb hr hml hts hown hlk hN hK hA hP hD hS hl
  have hown : s.vm.findClass RX5 = some m.cls := hown
  have hl : lv_has ls 2 [(0, .ref x), (1, .int n)] := hl
  refine lv_aload_n hx hb dX5_leave_0 rfl (lv_at hl 0 rfl) ?_
  refine va_get (ci := 5) (v := .ref nd) (C := RX5) (T := TX5) (N := 7) hx hb hts bi_5 hown hK hP 0 rfl rfl 3 (by decide) (hts _ bw_136) (fun _ h9 => h9) rfl dX5_leave_1 ?_
  refine lv_iload_n hx hb dX5_leave_4 rfl (lv_at hl 1 rfl) ?_
  refine ca_VI (rest := []) (wr := [ob_J x 5 [.int (nI hh), .ref rl, .ref bk, .ref nd, .ref st, .ref sh, .ref wy], ar_I rl cI 4 frl, ar_I sa cI 8 fsa, ar_I la cI 8 fla, ar_I fz cZ 8 ffz]) (w2 := fun u_u => [ob_J x 5 [.int (nI hh), .ref rl, .ref bk, .ref nd, .ref st, .ref sh, .ref wy], ar_I rl cI 4 frl, ob_J nd 1 [.int (nI sz), .ref kp, .ref ct, .ref sa, .ref la, .ref fz], ar_I sa cI 8 fsa, ar_I la cI 8 fla, ar_I fz cZ 8 ffz]) (k_X1_has l D cI cJ cZ nd sz kp ct sa la fz n ) hx hb hml hown hts hN hK hA hP hD hS 1 0 rfl rfl bw_190 bw_191 bw_192 bw_3 bw_193 1 rfl (by decide +kernel) ⟨by decide, by decide⟩ [2] [0, 1, 3, 4, 5] [0, 1, 5, 2, 3, 4] rfl rfl (by decide) (fun _ => rfl) hl.1 rfl (Nat.le_of_ble_eq_true rfl) dX5_leave_5 ⟨Nat.zero_le _, Nat.zero_le _⟩ (fun r_5 u_u H locs w_5 hP hD hS => ?_)
  have hP : va_P D cl_A [ob_J x 5 [.int (nI hh), .ref rl, .ref bk, .ref nd, .ref st, .ref sh, .ref wy], ar_I rl cI 4 frl, ob_J nd 1 [.int (nI sz), .ref kp, .ref ct, .ref sa, .ref la, .ref fz], ar_I sa cI 8 fsa, ar_I la cI 8 fla, ar_I fz cZ 8 ffz] H := hP
  have hD : va_D A [ob_J x 5 [.int (nI hh), .ref rl, .ref bk, .ref nd, .ref st, .ref sh, .ref wy], ar_I rl cI 4 frl, ob_J nd 1 [.int (nI sz), .ref kp, .ref ct, .ref sa, .ref la, .ref fz], ar_I sa cI 8 fsa, ar_I la cI 8 fla, ar_I fz cZ 8 ffz] := hD
  have w_5 : r_5 = if 0 ≤ n ∧ n < nI sz then 1 else 0 := w_5
  by_cases h_5 : 0 ≤ n ∧ n < nI sz
  · rw [if_pos h_5] at w_5; subst w_5
    obtain ⟨jn, h_jn, rfl⟩ : ∃ z : Nat, z < sz ∧ n = nI z := ix_lt (by omega) h_5
    have t_jn := tn_nI (n := jn) (by omega)
    refine lv_if_ne (tgt := 13) hx hb dX5_leave_8 (by decide) (fun _ => ?_) (fun h9 => absurd h9 (by decide))
    refine lv_aload_n hx hb dX5_leave_13 rfl (lv_at hl 0 rfl) ?_
    refine va_get (ci := 5) (v := .ref nd) (C := RX5) (T := TX5) (N := 7) hx hb hts bi_5 hown hK hP 0 rfl rfl 3 (by decide) (hts _ bw_136) (fun _ h9 => h9) rfl dX5_leave_14 ?_
    refine va_get (ci := 1) (v := .ref sa) (C := RX1) (T := TX1) (N := 6) hx hb hts bi_1 hown hK hP 2 rfl rfl 3 (by decide) (hts _ bw_58) (fun _ h9 => h9) rfl dX5_leave_17 ?_
    refine lv_iload_n hx hb dX5_leave_20 rfl (lv_at hl 1 rfl) ?_
    refine ar_ld hx hb hK hP 3 (k := jn) rfl rfl (by omega) (by decide) dX5_leave_21 ?_
    refine lv_iconst (v := 2) hx hb dX5_leave_22 (by decide) ?_
    refine lv_icmp_ne (tgt := 38) hx hb dX5_leave_23 (by decide) (fun c_23 => ?_) (fun c_23 => ?_)
    · refine lv_bipush (v := (-4)) hx hb dX5_leave_38 (by decide) ?_
      have q_1 : fsa = up_leave sz fsa ffz (nI jn) fsa 3 := by simp [rr_leave, up_leave, le_P, hn_P, up_i, h_5, t_jn, c_23]
      obtain ⟨hP, hD⟩ := cs_W (fun z_z => [ob_J x 5 [.int (nI hh), .ref rl, .ref bk, .ref nd, .ref st, .ref sh, .ref wy], ar_I rl cI 4 frl, ob_J nd 1 [.int (nI sz), .ref kp, .ref ct, .ref sa, .ref la, .ref fz], ar_I sa cI 8 z_z, ar_I la cI 8 fla, ar_I fz cZ 8 ffz]) q_1 hP hD
      have q_2 : fla = up_leave sz fsa ffz (nI jn) fla (nI (hh + w_)) := by simp [rr_leave, up_leave, le_P, hn_P, up_i, h_5, t_jn, c_23]
      obtain ⟨hP, hD⟩ := cs_W (fun z_z => [ob_J x 5 [.int (nI hh), .ref rl, .ref bk, .ref nd, .ref st, .ref sh, .ref wy], ar_I rl cI 4 frl, ob_J nd 1 [.int (nI sz), .ref kp, .ref ct, .ref sa, .ref la, .ref fz], ar_I sa cI 8 (up_leave sz fsa ffz (nI jn) fsa 3), ar_I la cI 8 z_z, ar_I fz cZ 8 ffz]) q_2 hP hD
      exact re_I (w1 := fun u_u : Unit => [ob_J x 5 [.int (nI hh), .ref rl, .ref bk, .ref nd, .ref st, .ref sh, .ref wy], ar_I rl cI 4 frl, ob_J nd 1 [.int (nI sz), .ref kp, .ref ct, .ref sa, .ref la, .ref fz], ar_I sa cI 8 (up_leave sz fsa ffz (nI jn) fsa 3), ar_I la cI 8 (up_leave sz fsa ffz (nI jn) fla (nI (hh + w_))), ar_I fz cZ 8 ffz]) (v := (-4)) hx hb hr hlk hK hS rfl () hP hD (show (-4) = rr_leave hh w_ sz fsa ffz (nI jn) from by simp [rr_leave, up_leave, le_P, hn_P, up_i, h_5, t_jn, c_23]) dX5_leave_40
    · refine lv_aload_n hx hb dX5_leave_26 rfl (lv_at hl 0 rfl) ?_
      refine va_get (ci := 5) (v := .ref nd) (C := RX5) (T := TX5) (N := 7) hx hb hts bi_5 hown hK hP 0 rfl rfl 3 (by decide) (hts _ bw_136) (fun _ h9 => h9) rfl dX5_leave_27 ?_
      refine va_get (ci := 1) (v := .ref fz) (C := RX1) (T := TX1) (N := 6) hx hb hts bi_1 hown hK hP 2 rfl rfl 5 (by decide) (hts _ bw_62) (fun _ h9 => h9) rfl dX5_leave_30 ?_
      refine lv_iload_n hx hb dX5_leave_33 rfl (lv_at hl 1 rfl) ?_
      refine ar_zd hx hb hK hP 5 (k := jn) rfl rfl (by omega) (by decide) dX5_leave_34 ?_
      refine lv_if_eq (tgt := 41) hx hb dX5_leave_35 (by decide) (fun c_35 => ?_) (fun c_35 => ?_)
      · refine lv_aload_n hx hb dX5_leave_41 rfl (lv_at hl 0 rfl) ?_
        refine va_get (ci := 5) (v := .ref nd) (C := RX5) (T := TX5) (N := 7) hx hb hts bi_5 hown hK hP 0 rfl rfl 3 (by decide) (hts _ bw_136) (fun _ h9 => h9) rfl dX5_leave_42 ?_
        refine va_get (ci := 1) (v := .ref sa) (C := RX1) (T := TX1) (N := 6) hx hb hts bi_1 hown hK hP 2 rfl rfl 3 (by decide) (hts _ bw_58) (fun _ h9 => h9) rfl dX5_leave_45 ?_
        refine lv_iload_n hx hb dX5_leave_48 rfl (lv_at hl 1 rfl) ?_
        refine lv_iconst (v := 3) hx hb dX5_leave_49 (by decide) ?_
        refine ar_st hx hb hK hP hD hS 3 (k := jn) rfl rfl (by omega) (by decide) dX5_leave_50 _ rfl (fun H locs hP hD hS => ?_)
        have hP : va_P D cl_A [ob_J x 5 [.int (nI hh), .ref rl, .ref bk, .ref nd, .ref st, .ref sh, .ref wy], ar_I rl cI 4 frl, ob_J nd 1 [.int (nI sz), .ref kp, .ref ct, .ref sa, .ref la, .ref fz], ar_I sa cI 8 (upd fsa jn 3), ar_I la cI 8 fla, ar_I fz cZ 8 ffz] H := hP
        have hD : va_D A [ob_J x 5 [.int (nI hh), .ref rl, .ref bk, .ref nd, .ref st, .ref sh, .ref wy], ar_I rl cI 4 frl, ob_J nd 1 [.int (nI sz), .ref kp, .ref ct, .ref sa, .ref la, .ref fz], ar_I sa cI 8 (upd fsa jn 3), ar_I la cI 8 fla, ar_I fz cZ 8 ffz] := hD
        refine lv_aload_n hx hb dX5_leave_51 rfl (lv_at hl 0 rfl) ?_
        refine va_get (ci := 5) (v := .ref nd) (C := RX5) (T := TX5) (N := 7) hx hb hts bi_5 hown hK hP 0 rfl rfl 3 (by decide) (hts _ bw_136) (fun _ h9 => h9) rfl dX5_leave_52 ?_
        refine va_get (ci := 1) (v := .ref la) (C := RX1) (T := TX1) (N := 6) hx hb hts bi_1 hown hK hP 2 rfl rfl 4 (by decide) (hts _ bw_60) (fun _ h9 => h9) rfl dX5_leave_55 ?_
        refine lv_iload_n hx hb dX5_leave_58 rfl (lv_at hl 1 rfl) ?_
        refine lv_aload_n hx hb dX5_leave_59 rfl (lv_at hl 0 rfl) ?_
        refine va_get (ci := 5) (v := .int (nI hh)) (C := RX5) (T := TX5) (N := 7) hx hb hts bi_5 hown hK hP 0 rfl rfl 0 (by decide) (hts _ bw_133) (fun _ h9 => h9) rfl dX5_leave_60 ?_
        refine lv_aload_n hx hb dX5_leave_63 rfl (lv_at hl 0 rfl) ?_
        refine va_get (ci := 5) (v := .ref rl) (C := RX5) (T := TX5) (N := 7) hx hb hts bi_5 hown hK hP 0 rfl rfl 1 (by decide) (hts _ bw_134) (fun _ h9 => h9) rfl dX5_leave_64 ?_
        refine lv_iconst (v := 0) hx hb dX5_leave_67 (by decide) ?_
        refine ar_ld hx hb hK hP 1 (k := 0) rfl rfl (by omega) (by decide) dX5_leave_68 ?_
        refine tp_i (x' := nI w_) (hw) ?_
        refine lv_iadd hx hb dX5_leave_69 ?_
        refine tp_i (x' := nI (hh + w_)) (nn_add rfl rfl) ?_
        refine ar_st hx hb hK hP hD hS 4 (k := jn) rfl rfl (by omega) (by decide) dX5_leave_70 _ rfl (fun H locs hP hD hS => ?_)
        have hP : va_P D cl_A [ob_J x 5 [.int (nI hh), .ref rl, .ref bk, .ref nd, .ref st, .ref sh, .ref wy], ar_I rl cI 4 frl, ob_J nd 1 [.int (nI sz), .ref kp, .ref ct, .ref sa, .ref la, .ref fz], ar_I sa cI 8 (upd fsa jn 3), ar_I la cI 8 (upd fla jn (nI (hh + w_))), ar_I fz cZ 8 ffz] H := hP
        have hD : va_D A [ob_J x 5 [.int (nI hh), .ref rl, .ref bk, .ref nd, .ref st, .ref sh, .ref wy], ar_I rl cI 4 frl, ob_J nd 1 [.int (nI sz), .ref kp, .ref ct, .ref sa, .ref la, .ref fz], ar_I sa cI 8 (upd fsa jn 3), ar_I la cI 8 (upd fla jn (nI (hh + w_))), ar_I fz cZ 8 ffz] := hD
        refine lv_aload_n hx hb dX5_leave_71 rfl (lv_at hl 0 rfl) ?_
        refine va_get (ci := 5) (v := .ref nd) (C := RX5) (T := TX5) (N := 7) hx hb hts bi_5 hown hK hP 0 rfl rfl 3 (by decide) (hts _ bw_136) (fun _ h9 => h9) rfl dX5_leave_72 ?_
        refine va_get (ci := 1) (v := .ref la) (C := RX1) (T := TX1) (N := 6) hx hb hts bi_1 hown hK hP 2 rfl rfl 4 (by decide) (hts _ bw_60) (fun _ h9 => h9) rfl dX5_leave_75 ?_
        refine lv_iload_n hx hb dX5_leave_78 rfl (lv_at hl 1 rfl) ?_
        refine ar_ld hx hb hK hP 4 (k := jn) rfl rfl (by omega) (by decide) dX5_leave_79 ?_
        have q_3 : upd fsa jn 3 = up_leave sz fsa ffz (nI jn) fsa 3 := by simp [rr_leave, up_leave, le_P, hn_P, up_i, h_5, t_jn, c_23, c_35]
        obtain ⟨hP, hD⟩ := cs_W (fun z_z => [ob_J x 5 [.int (nI hh), .ref rl, .ref bk, .ref nd, .ref st, .ref sh, .ref wy], ar_I rl cI 4 frl, ob_J nd 1 [.int (nI sz), .ref kp, .ref ct, .ref sa, .ref la, .ref fz], ar_I sa cI 8 z_z, ar_I la cI 8 (upd fla jn (nI (hh + w_))), ar_I fz cZ 8 ffz]) q_3 hP hD
        have q_4 : upd fla jn (nI (hh + w_)) = up_leave sz fsa ffz (nI jn) fla (nI (hh + w_)) := by simp [rr_leave, up_leave, le_P, hn_P, up_i, h_5, t_jn, c_23, c_35]
        obtain ⟨hP, hD⟩ := cs_W (fun z_z => [ob_J x 5 [.int (nI hh), .ref rl, .ref bk, .ref nd, .ref st, .ref sh, .ref wy], ar_I rl cI 4 frl, ob_J nd 1 [.int (nI sz), .ref kp, .ref ct, .ref sa, .ref la, .ref fz], ar_I sa cI 8 (up_leave sz fsa ffz (nI jn) fsa 3), ar_I la cI 8 z_z, ar_I fz cZ 8 ffz]) q_4 hP hD
        exact re_I (w1 := fun u_u : Unit => [ob_J x 5 [.int (nI hh), .ref rl, .ref bk, .ref nd, .ref st, .ref sh, .ref wy], ar_I rl cI 4 frl, ob_J nd 1 [.int (nI sz), .ref kp, .ref ct, .ref sa, .ref la, .ref fz], ar_I sa cI 8 (up_leave sz fsa ffz (nI jn) fsa 3), ar_I la cI 8 (up_leave sz fsa ffz (nI jn) fla (nI (hh + w_))), ar_I fz cZ 8 ffz]) (v := (upd fla jn (nI (hh + w_))) jn) hx hb hr hlk hK hS rfl () hP hD (show (upd fla jn (nI (hh + w_))) jn = rr_leave hh w_ sz fsa ffz (nI jn) from by simp [rr_leave, up_leave, le_P, hn_P, up_i, h_5, t_jn, c_23, c_35]) dX5_leave_80
      · refine lv_bipush (v := (-4)) hx hb dX5_leave_38 (by decide) ?_
        have q_5 : fsa = up_leave sz fsa ffz (nI jn) fsa 3 := by simp [rr_leave, up_leave, le_P, hn_P, up_i, h_5, t_jn, c_23, c_35]
        obtain ⟨hP, hD⟩ := cs_W (fun z_z => [ob_J x 5 [.int (nI hh), .ref rl, .ref bk, .ref nd, .ref st, .ref sh, .ref wy], ar_I rl cI 4 frl, ob_J nd 1 [.int (nI sz), .ref kp, .ref ct, .ref sa, .ref la, .ref fz], ar_I sa cI 8 z_z, ar_I la cI 8 fla, ar_I fz cZ 8 ffz]) q_5 hP hD
        have q_6 : fla = up_leave sz fsa ffz (nI jn) fla (nI (hh + w_)) := by simp [rr_leave, up_leave, le_P, hn_P, up_i, h_5, t_jn, c_23, c_35]
        obtain ⟨hP, hD⟩ := cs_W (fun z_z => [ob_J x 5 [.int (nI hh), .ref rl, .ref bk, .ref nd, .ref st, .ref sh, .ref wy], ar_I rl cI 4 frl, ob_J nd 1 [.int (nI sz), .ref kp, .ref ct, .ref sa, .ref la, .ref fz], ar_I sa cI 8 (up_leave sz fsa ffz (nI jn) fsa 3), ar_I la cI 8 z_z, ar_I fz cZ 8 ffz]) q_6 hP hD
        exact re_I (w1 := fun u_u : Unit => [ob_J x 5 [.int (nI hh), .ref rl, .ref bk, .ref nd, .ref st, .ref sh, .ref wy], ar_I rl cI 4 frl, ob_J nd 1 [.int (nI sz), .ref kp, .ref ct, .ref sa, .ref la, .ref fz], ar_I sa cI 8 (up_leave sz fsa ffz (nI jn) fsa 3), ar_I la cI 8 (up_leave sz fsa ffz (nI jn) fla (nI (hh + w_))), ar_I fz cZ 8 ffz]) (v := (-4)) hx hb hr hlk hK hS rfl () hP hD (show (-4) = rr_leave hh w_ sz fsa ffz (nI jn) from by simp [rr_leave, up_leave, le_P, hn_P, up_i, h_5, t_jn, c_23, c_35]) dX5_leave_40
  · rw [if_neg h_5] at w_5; subst w_5
    refine lv_if_ne (tgt := 13) hx hb dX5_leave_8 (by decide) (fun h9 => absurd (by decide) h9) (fun _ => ?_)
    refine lv_iconst (v := (-1)) hx hb dX5_leave_11 (by decide) ?_
    have q_7 : fsa = up_leave sz fsa ffz n fsa 3 := by simp [rr_leave, up_leave, le_P, hn_P, up_i, h_5]
    obtain ⟨hP, hD⟩ := cs_W (fun z_z => [ob_J x 5 [.int (nI hh), .ref rl, .ref bk, .ref nd, .ref st, .ref sh, .ref wy], ar_I rl cI 4 frl, ob_J nd 1 [.int (nI sz), .ref kp, .ref ct, .ref sa, .ref la, .ref fz], ar_I sa cI 8 z_z, ar_I la cI 8 fla, ar_I fz cZ 8 ffz]) q_7 hP hD
    have q_8 : fla = up_leave sz fsa ffz n fla (nI (hh + w_)) := by simp [rr_leave, up_leave, le_P, hn_P, up_i, h_5]
    obtain ⟨hP, hD⟩ := cs_W (fun z_z => [ob_J x 5 [.int (nI hh), .ref rl, .ref bk, .ref nd, .ref st, .ref sh, .ref wy], ar_I rl cI 4 frl, ob_J nd 1 [.int (nI sz), .ref kp, .ref ct, .ref sa, .ref la, .ref fz], ar_I sa cI 8 (up_leave sz fsa ffz n fsa 3), ar_I la cI 8 z_z, ar_I fz cZ 8 ffz]) q_8 hP hD
    exact re_I (w1 := fun u_u : Unit => [ob_J x 5 [.int (nI hh), .ref rl, .ref bk, .ref nd, .ref st, .ref sh, .ref wy], ar_I rl cI 4 frl, ob_J nd 1 [.int (nI sz), .ref kp, .ref ct, .ref sa, .ref la, .ref fz], ar_I sa cI 8 (up_leave sz fsa ffz n fsa 3), ar_I la cI 8 (up_leave sz fsa ffz n fla (nI (hh + w_))), ar_I fz cZ 8 ffz]) (v := (-1)) hx hb hr hlk hK hS rfl () hP hD (show (-1) = rr_leave hh w_ sz fsa ffz n from by simp [rr_leave, up_leave, le_P, hn_P, up_i, h_5]) dX5_leave_12

set_option maxHeartbeats 4000000 in
set_option maxRecDepth 100000 in
theorem k_X5_freeze (l : Launch) (D : va_G) (cI cJ cZ : ClassId) (x : Nat) (nd : Nat) (fz : Nat) (hh : Nat) (rl : Nat) (bk : Nat) (st : Nat) (sh : Nat) (wy : Nat) (sz : Nat) (kp : Nat) (ct : Nat) (sa : Nat) (la : Nat) (ffz : Nat → Int32) (n : Int32) (on_ : Int32) (hsz : sz ≤ 8) (hon : vp_nar .boolean on_ = on_) : mt_I l yX5_freeze cX5_freeze 4 .int 1 21 D cI cJ cZ [ob_J x 5 [.int (nI hh), .ref rl, .ref bk, .ref nd, .ref st, .ref sh, .ref wy], ob_J nd 1 [.int (nI sz), .ref kp, .ref ct, .ref sa, .ref la, .ref fz], ar_I fz cZ 8 ffz] [.ref x, .int n, .int on_] (fun r (u_u : Unit) => r = rr_freeze sz ffz n) (fun u_u : Unit => [ob_J x 5 [.int (nI hh), .ref rl, .ref bk, .ref nd, .ref st, .ref sh, .ref wy], ob_J nd 1 [.int (nI sz), .ref kp, .ref ct, .ref sa, .ref la, .ref fz], ar_I fz cZ 8 (fz_freeze sz ffz n on_)]) := by
  refine en_I (by decide) (Nat.le_of_ble_eq_true rfl) ?_
  intro p e s m below meth c A ls H locs hx hb hr hml hts hown hlk hN hK hA hP hD hS hl
  have hown : s.vm.findClass RX5 = some m.cls := hown
  have hl : lv_has ls 4 [(0, .ref x), (1, .int n), (2, .int on_)] := hl
  refine lv_aload_n hx hb dX5_freeze_0 rfl (lv_at hl 0 rfl) ?_
  refine va_get (ci := 5) (v := .ref nd) (C := RX5) (T := TX5) (N := 7) hx hb hts bi_5 hown hK hP 0 rfl rfl 3 (by decide) (hts _ bw_136) (fun _ h9 => h9) rfl dX5_freeze_1 ?_
  refine lv_iload_n hx hb dX5_freeze_4 rfl (lv_at hl 1 rfl) ?_
  refine ca_VI (rest := []) (wr := [ob_J x 5 [.int (nI hh), .ref rl, .ref bk, .ref nd, .ref st, .ref sh, .ref wy], ar_I fz cZ 8 ffz]) (w2 := fun u_u => [ob_J x 5 [.int (nI hh), .ref rl, .ref bk, .ref nd, .ref st, .ref sh, .ref wy], ob_J nd 1 [.int (nI sz), .ref kp, .ref ct, .ref sa, .ref la, .ref fz], ar_I fz cZ 8 ffz]) (k_X1_has l D cI cJ cZ nd sz kp ct sa la fz n ) hx hb hml hown hts hN hK hA hP hD hS 1 0 rfl rfl bw_190 bw_191 bw_192 bw_3 bw_193 1 rfl (by decide +kernel) ⟨by decide, by decide⟩ [1] [0, 2] [0, 2, 1] rfl rfl (by decide) (fun _ => rfl) hl.1 rfl (Nat.le_of_ble_eq_true rfl) dX5_freeze_5 ⟨Nat.zero_le _, Nat.zero_le _⟩ (fun r_5 u_u H locs w_5 hP hD hS => ?_)
  have hP : va_P D cl_A [ob_J x 5 [.int (nI hh), .ref rl, .ref bk, .ref nd, .ref st, .ref sh, .ref wy], ob_J nd 1 [.int (nI sz), .ref kp, .ref ct, .ref sa, .ref la, .ref fz], ar_I fz cZ 8 ffz] H := hP
  have hD : va_D A [ob_J x 5 [.int (nI hh), .ref rl, .ref bk, .ref nd, .ref st, .ref sh, .ref wy], ob_J nd 1 [.int (nI sz), .ref kp, .ref ct, .ref sa, .ref la, .ref fz], ar_I fz cZ 8 ffz] := hD
  have w_5 : r_5 = if 0 ≤ n ∧ n < nI sz then 1 else 0 := w_5
  by_cases h_5 : 0 ≤ n ∧ n < nI sz
  · rw [if_pos h_5] at w_5; subst w_5
    obtain ⟨jn, h_jn, rfl⟩ : ∃ z : Nat, z < sz ∧ n = nI z := ix_lt (by omega) h_5
    have t_jn := tn_nI (n := jn) (by omega)
    refine lv_if_ne (tgt := 13) hx hb dX5_freeze_8 (by decide) (fun _ => ?_) (fun h9 => absurd h9 (by decide))
    refine lv_aload_n hx hb dX5_freeze_13 rfl (lv_at hl 0 rfl) ?_
    refine va_get (ci := 5) (v := .ref nd) (C := RX5) (T := TX5) (N := 7) hx hb hts bi_5 hown hK hP 0 rfl rfl 3 (by decide) (hts _ bw_136) (fun _ h9 => h9) rfl dX5_freeze_14 ?_
    refine va_get (ci := 1) (v := .ref fz) (C := RX1) (T := TX1) (N := 6) hx hb hts bi_1 hown hK hP 1 rfl rfl 5 (by decide) (hts _ bw_62) (fun _ h9 => h9) rfl dX5_freeze_17 ?_
    refine lv_iload_n hx hb dX5_freeze_20 rfl (lv_at hl 1 rfl) ?_
    refine ar_zd hx hb hK hP 2 (k := jn) rfl rfl (by omega) (by decide) dX5_freeze_21 ?_
    refine lv_if_eq (tgt := 29) hx hb dX5_freeze_22 (by decide) (fun c_22 => ?_) (fun c_22 => ?_)
    · refine lv_iconst (v := 0) hx hb dX5_freeze_29 (by decide) ?_
      refine lv_istore_n (lv' := [(3, .int 0), (0, .ref x), (1, .int (nI jn)), (2, .int on_)]) hx hb dX5_freeze_30 rfl hl (by decide) rfl (fun ls hl => ?_)
      refine lv_aload_n hx hb dX5_freeze_31 rfl (lv_at hl 1 rfl) ?_
      refine va_get (ci := 5) (v := .ref nd) (C := RX5) (T := TX5) (N := 7) hx hb hts bi_5 hown hK hP 0 rfl rfl 3 (by decide) (hts _ bw_136) (fun _ h9 => h9) rfl dX5_freeze_32 ?_
      refine va_get (ci := 1) (v := .ref fz) (C := RX1) (T := TX1) (N := 6) hx hb hts bi_1 hown hK hP 1 rfl rfl 5 (by decide) (hts _ bw_62) (fun _ h9 => h9) rfl dX5_freeze_35 ?_
      refine lv_iload_n hx hb dX5_freeze_38 rfl (lv_at hl 2 rfl) ?_
      refine lv_iload_n hx hb dX5_freeze_39 rfl (lv_at hl 3 rfl) ?_
      refine ar_zst hx hb hK hP hD hS 2 (k := jn) rfl rfl (by omega) (by decide) (hon) dX5_freeze_40 _ rfl (fun H locs hP hD hS => ?_)
      have hP : va_P D cl_A [ob_J x 5 [.int (nI hh), .ref rl, .ref bk, .ref nd, .ref st, .ref sh, .ref wy], ob_J nd 1 [.int (nI sz), .ref kp, .ref ct, .ref sa, .ref la, .ref fz], ar_I fz cZ 8 (upd ffz jn on_)] H := hP
      have hD : va_D A [ob_J x 5 [.int (nI hh), .ref rl, .ref bk, .ref nd, .ref st, .ref sh, .ref wy], ob_J nd 1 [.int (nI sz), .ref kp, .ref ct, .ref sa, .ref la, .ref fz], ar_I fz cZ 8 (upd ffz jn on_)] := hD
      refine lv_iload_n hx hb dX5_freeze_41 rfl (lv_at hl 0 rfl) ?_
      have q_1 : upd ffz jn on_ = fz_freeze sz ffz (nI jn) on_ := by simp [rr_freeze, fz_freeze, hn_P, h_5, t_jn, c_22]
      obtain ⟨hP, hD⟩ := cs_W (fun z_z => [ob_J x 5 [.int (nI hh), .ref rl, .ref bk, .ref nd, .ref st, .ref sh, .ref wy], ob_J nd 1 [.int (nI sz), .ref kp, .ref ct, .ref sa, .ref la, .ref fz], ar_I fz cZ 8 z_z]) q_1 hP hD
      exact re_I (w1 := fun u_u : Unit => [ob_J x 5 [.int (nI hh), .ref rl, .ref bk, .ref nd, .ref st, .ref sh, .ref wy], ob_J nd 1 [.int (nI sz), .ref kp, .ref ct, .ref sa, .ref la, .ref fz], ar_I fz cZ 8 (fz_freeze sz ffz (nI jn) on_)]) (v := 0) hx hb hr hlk hK hS rfl () hP hD (show 0 = rr_freeze sz ffz (nI jn) from by simp [rr_freeze, fz_freeze, hn_P, h_5, t_jn, c_22]) dX5_freeze_42
    · refine lv_iconst (v := 1) hx hb dX5_freeze_25 (by decide) ?_
      refine lv_goto (tgt := 30) hx hb dX5_freeze_26 (by decide) ?_
      refine lv_istore_n (lv' := [(3, .int 1), (0, .ref x), (1, .int (nI jn)), (2, .int on_)]) hx hb dX5_freeze_30 rfl hl (by decide) rfl (fun ls hl => ?_)
      refine lv_aload_n hx hb dX5_freeze_31 rfl (lv_at hl 1 rfl) ?_
      refine va_get (ci := 5) (v := .ref nd) (C := RX5) (T := TX5) (N := 7) hx hb hts bi_5 hown hK hP 0 rfl rfl 3 (by decide) (hts _ bw_136) (fun _ h9 => h9) rfl dX5_freeze_32 ?_
      refine va_get (ci := 1) (v := .ref fz) (C := RX1) (T := TX1) (N := 6) hx hb hts bi_1 hown hK hP 1 rfl rfl 5 (by decide) (hts _ bw_62) (fun _ h9 => h9) rfl dX5_freeze_35 ?_
      refine lv_iload_n hx hb dX5_freeze_38 rfl (lv_at hl 2 rfl) ?_
      refine lv_iload_n hx hb dX5_freeze_39 rfl (lv_at hl 3 rfl) ?_
      refine ar_zst hx hb hK hP hD hS 2 (k := jn) rfl rfl (by omega) (by decide) (hon) dX5_freeze_40 _ rfl (fun H locs hP hD hS => ?_)
      have hP : va_P D cl_A [ob_J x 5 [.int (nI hh), .ref rl, .ref bk, .ref nd, .ref st, .ref sh, .ref wy], ob_J nd 1 [.int (nI sz), .ref kp, .ref ct, .ref sa, .ref la, .ref fz], ar_I fz cZ 8 (upd ffz jn on_)] H := hP
      have hD : va_D A [ob_J x 5 [.int (nI hh), .ref rl, .ref bk, .ref nd, .ref st, .ref sh, .ref wy], ob_J nd 1 [.int (nI sz), .ref kp, .ref ct, .ref sa, .ref la, .ref fz], ar_I fz cZ 8 (upd ffz jn on_)] := hD
      refine lv_iload_n hx hb dX5_freeze_41 rfl (lv_at hl 0 rfl) ?_
      have q_2 : upd ffz jn on_ = fz_freeze sz ffz (nI jn) on_ := by simp [rr_freeze, fz_freeze, hn_P, h_5, t_jn, c_22]
      obtain ⟨hP, hD⟩ := cs_W (fun z_z => [ob_J x 5 [.int (nI hh), .ref rl, .ref bk, .ref nd, .ref st, .ref sh, .ref wy], ob_J nd 1 [.int (nI sz), .ref kp, .ref ct, .ref sa, .ref la, .ref fz], ar_I fz cZ 8 z_z]) q_2 hP hD
      exact re_I (w1 := fun u_u : Unit => [ob_J x 5 [.int (nI hh), .ref rl, .ref bk, .ref nd, .ref st, .ref sh, .ref wy], ob_J nd 1 [.int (nI sz), .ref kp, .ref ct, .ref sa, .ref la, .ref fz], ar_I fz cZ 8 (fz_freeze sz ffz (nI jn) on_)]) (v := 1) hx hb hr hlk hK hS rfl () hP hD (show 1 = rr_freeze sz ffz (nI jn) from by simp [rr_freeze, fz_freeze, hn_P, h_5, t_jn, c_22]) dX5_freeze_42
  · rw [if_neg h_5] at w_5; subst w_5
    refine lv_if_ne (tgt := 13) hx hb dX5_freeze_8 (by decide) (fun h9 => absurd (by decide) h9) (fun _ => ?_)
    refine lv_iconst (v := (-1)) hx hb dX5_freeze_11 (by decide) ?_
    have q_3 : ffz = fz_freeze sz ffz n on_ := by simp [rr_freeze, fz_freeze, hn_P, h_5]
    obtain ⟨hP, hD⟩ := cs_W (fun z_z => [ob_J x 5 [.int (nI hh), .ref rl, .ref bk, .ref nd, .ref st, .ref sh, .ref wy], ob_J nd 1 [.int (nI sz), .ref kp, .ref ct, .ref sa, .ref la, .ref fz], ar_I fz cZ 8 z_z]) q_3 hP hD
    exact re_I (w1 := fun u_u : Unit => [ob_J x 5 [.int (nI hh), .ref rl, .ref bk, .ref nd, .ref st, .ref sh, .ref wy], ob_J nd 1 [.int (nI sz), .ref kp, .ref ct, .ref sa, .ref la, .ref fz], ar_I fz cZ 8 (fz_freeze sz ffz n on_)]) (v := (-1)) hx hb hr hlk hK hS rfl () hP hD (show (-1) = rr_freeze sz ffz n from by simp [rr_freeze, fz_freeze, hn_P, h_5]) dX5_freeze_12

set_option maxHeartbeats 4000000 in
set_option maxRecDepth 100000 in
theorem k_X5_balance (l : Launch) (D : va_G) (cI cJ cZ : ClassId) (x : Nat) (bk : Nat) (bal : Nat) (hh : Nat) (rl : Nat) (nd : Nat) (st : Nat) (sh : Nat) (wy : Nat) (funded : Int32) (rewarded : Int32) (stk : Nat) (due : Nat) (fbal : Nat → Int32) (a : Int32)  : mt_I l yX5_balance cX5_balance 2 .int 2 42 D cI cJ cZ [ob_J x 5 [.int (nI hh), .ref rl, .ref bk, .ref nd, .ref st, .ref sh, .ref wy], ob_J bk 0 [.int funded, .int rewarded, .ref bal, .ref stk, .ref due], ar_I bal cI 10 fbal] [.ref x, .int a] (fun r (u_u : Unit) => r = rr_balance fbal a) (fun u_u : Unit => [ob_J x 5 [.int (nI hh), .ref rl, .ref bk, .ref nd, .ref st, .ref sh, .ref wy], ob_J bk 0 [.int funded, .int rewarded, .ref bal, .ref stk, .ref due], ar_I bal cI 10 fbal]) := by
  refine en_I (by decide) (Nat.le_of_ble_eq_true rfl) ?_
  intro p e s m below meth c A ls H locs hx hb hr hml hts hown hlk hN hK hA hP hD hS hl
  have hown : s.vm.findClass RX5 = some m.cls := hown
  have hl : lv_has ls 2 [(0, .ref x), (1, .int a)] := hl
  refine lv_iload_n hx hb dX5_balance_0 rfl (lv_at hl 1 rfl) ?_
  refine ca_SI (rest := []) (k_X5_isAccount l D cI cJ cZ a ) hx hb hml hown hts hN hK hA hP hD hS bw_170 bw_171 bw_1 bw_172 1 rfl (by decide +kernel) ⟨by decide, by decide⟩ hl.1 rfl (Nat.le_of_ble_eq_true rfl) dX5_balance_1 ⟨Nat.zero_le _, Nat.zero_le _⟩ (fun r_1 u_u H locs w_1 hP hD hS => ?_)
  have w_1 : r_1 = if 0 ≤ a ∧ a ≤ 9 then 1 else 0 := w_1
  by_cases h_1 : 0 ≤ a ∧ a ≤ 9
  · rw [if_pos h_1] at w_1; subst w_1
    obtain ⟨ia, h_ia, rfl⟩ : ∃ z : Nat, z < 10 ∧ a = nI z := ix_le (by decide) h_1
    have t_ia := tn_nI (n := ia) (by omega)
    refine lv_if_eq (tgt := 19) hx hb dX5_balance_4 (by decide) (fun h9 => absurd h9 (by decide)) (fun _ => ?_)
    refine lv_aload_n hx hb dX5_balance_7 rfl (lv_at hl 0 rfl) ?_
    refine va_get (ci := 5) (v := .ref bk) (C := RX5) (T := TX5) (N := 7) hx hb hts bi_5 hown hK hP 0 rfl rfl 2 (by decide) (hts _ bw_135) (fun _ h9 => h9) rfl dX5_balance_8 ?_
    refine va_get (ci := 0) (v := .ref bal) (C := RX0) (T := TX0) (N := 5) hx hb hts bi_0 hown hK hP 1 rfl rfl 2 (by decide) (hts _ bw_28) (fun _ h9 => h9) rfl dX5_balance_11 ?_
    refine lv_iload_n hx hb dX5_balance_14 rfl (lv_at hl 1 rfl) ?_
    refine ar_ld hx hb hK hP 2 (k := ia) rfl rfl (by omega) (by decide) dX5_balance_15 ?_
    refine lv_goto (tgt := 20) hx hb dX5_balance_16 (by decide) ?_
    exact re_I (w1 := fun u_u : Unit => [ob_J x 5 [.int (nI hh), .ref rl, .ref bk, .ref nd, .ref st, .ref sh, .ref wy], ob_J bk 0 [.int funded, .int rewarded, .ref bal, .ref stk, .ref due], ar_I bal cI 10 fbal]) (v := fbal ia) hx hb hr hlk hK hS rfl () hP hD (show fbal ia = rr_balance fbal (nI ia) from by simp [rr_balance, ac_P, h_1, t_ia]) dX5_balance_20
  · rw [if_neg h_1] at w_1; subst w_1
    refine lv_if_eq (tgt := 19) hx hb dX5_balance_4 (by decide) (fun _ => ?_) (fun h9 => absurd (by decide) h9)
    refine lv_iconst (v := (-1)) hx hb dX5_balance_19 (by decide) ?_
    exact re_I (w1 := fun u_u : Unit => [ob_J x 5 [.int (nI hh), .ref rl, .ref bk, .ref nd, .ref st, .ref sh, .ref wy], ob_J bk 0 [.int funded, .int rewarded, .ref bal, .ref stk, .ref due], ar_I bal cI 10 fbal]) (v := (-1)) hx hb hr hlk hK hS rfl () hP hD (show (-1) = rr_balance fbal a from by simp [rr_balance, ac_P, h_1]) dX5_balance_20

set_option maxHeartbeats 4000000 in
set_option maxRecDepth 100000 in
theorem k_X5_staked (l : Launch) (D : va_G) (cI cJ cZ : ClassId) (x : Nat) (bk : Nat) (stk : Nat) (nd : Nat) (hh : Nat) (rl : Nat) (st : Nat) (sh : Nat) (wy : Nat) (funded : Int32) (rewarded : Int32) (bal : Nat) (due : Nat) (fstk : Nat → Int32) (sz : Nat) (kp : Nat) (ct : Nat) (sa : Nat) (la : Nat) (fz : Nat) (a : Int32) (n : Int32) (hsz : sz ≤ 8) : mt_I l yX5_staked cX5_staked 3 .int 2 44 D cI cJ cZ [ob_J x 5 [.int (nI hh), .ref rl, .ref bk, .ref nd, .ref st, .ref sh, .ref wy], ob_J bk 0 [.int funded, .int rewarded, .ref bal, .ref stk, .ref due], ar_I stk cI 80 fstk, ob_J nd 1 [.int (nI sz), .ref kp, .ref ct, .ref sa, .ref la, .ref fz]] [.ref x, .int a, .int n] (fun r (u_u : Unit) => r = rr_staked sz fstk a n) (fun u_u : Unit => [ob_J x 5 [.int (nI hh), .ref rl, .ref bk, .ref nd, .ref st, .ref sh, .ref wy], ob_J bk 0 [.int funded, .int rewarded, .ref bal, .ref stk, .ref due], ar_I stk cI 80 fstk, ob_J nd 1 [.int (nI sz), .ref kp, .ref ct, .ref sa, .ref la, .ref fz]]) := by
  refine en_I (by decide) (Nat.le_of_ble_eq_true rfl) ?_
  intro p e s m below meth c A ls H locs hx hb hr hml hts hown hlk hN hK hA hP hD hS hl
  have hown : s.vm.findClass RX5 = some m.cls := hown
  have hl : lv_has ls 3 [(0, .ref x), (1, .int a), (2, .int n)] := hl
  refine lv_iload_n hx hb dX5_staked_0 rfl (lv_at hl 1 rfl) ?_
  refine ca_SI (rest := []) (k_X5_isAccount l D cI cJ cZ a ) hx hb hml hown hts hN hK hA hP hD hS bw_170 bw_171 bw_1 bw_172 1 rfl (by decide +kernel) ⟨by decide, by decide⟩ hl.1 rfl (Nat.le_of_ble_eq_true rfl) dX5_staked_1 ⟨Nat.zero_le _, Nat.zero_le _⟩ (fun r_1 u_u H locs w_1 hP hD hS => ?_)
  have w_1 : r_1 = if 0 ≤ a ∧ a ≤ 9 then 1 else 0 := w_1
  by_cases h_1 : 0 ≤ a ∧ a ≤ 9
  · rw [if_pos h_1] at w_1; subst w_1
    obtain ⟨ia, h_ia, rfl⟩ : ∃ z : Nat, z < 10 ∧ a = nI z := ix_le (by decide) h_1
    have t_ia := tn_nI (n := ia) (by omega)
    refine lv_if_ne (tgt := 9) hx hb dX5_staked_4 (by decide) (fun _ => ?_) (fun h9 => absurd h9 (by decide))
    refine lv_iload_n hx hb dX5_staked_9 rfl (lv_at hl 2 rfl) ?_
    refine lv_iconst (v := (-1)) hx hb dX5_staked_10 (by decide) ?_
    refine lv_icmp_ne (tgt := 23) hx hb dX5_staked_11 (by decide) (fun c_11 => ?_) (fun c_11 => ?_)
    · refine lv_aload_n hx hb dX5_staked_23 rfl (lv_at hl 0 rfl) ?_
      refine va_get (ci := 5) (v := .ref nd) (C := RX5) (T := TX5) (N := 7) hx hb hts bi_5 hown hK hP 0 rfl rfl 3 (by decide) (hts _ bw_136) (fun _ h9 => h9) rfl dX5_staked_24 ?_
      refine lv_iload_n hx hb dX5_staked_27 rfl (lv_at hl 2 rfl) ?_
      refine ca_VI (rest := []) (wr := [ob_J x 5 [.int (nI hh), .ref rl, .ref bk, .ref nd, .ref st, .ref sh, .ref wy], ob_J bk 0 [.int funded, .int rewarded, .ref bal, .ref stk, .ref due], ar_I stk cI 80 fstk]) (w2 := fun u_u => [ob_J x 5 [.int (nI hh), .ref rl, .ref bk, .ref nd, .ref st, .ref sh, .ref wy], ob_J bk 0 [.int funded, .int rewarded, .ref bal, .ref stk, .ref due], ar_I stk cI 80 fstk, ob_J nd 1 [.int (nI sz), .ref kp, .ref ct, .ref sa, .ref la, .ref fz]]) (k_X1_has l D cI cJ cZ nd sz kp ct sa la fz n ) hx hb hml hown hts hN hK hA hP hD hS 1 0 rfl rfl bw_190 bw_191 bw_192 bw_3 bw_193 1 rfl (by decide +kernel) ⟨by decide, by decide⟩ [3] [0, 1, 2] [0, 1, 2, 3] rfl rfl (by decide) (fun _ => rfl) hl.1 rfl (Nat.le_of_ble_eq_true rfl) dX5_staked_28 ⟨Nat.zero_le _, Nat.zero_le _⟩ (fun r_28 u_u H locs w_28 hP hD hS => ?_)
      have hP : va_P D cl_A [ob_J x 5 [.int (nI hh), .ref rl, .ref bk, .ref nd, .ref st, .ref sh, .ref wy], ob_J bk 0 [.int funded, .int rewarded, .ref bal, .ref stk, .ref due], ar_I stk cI 80 fstk, ob_J nd 1 [.int (nI sz), .ref kp, .ref ct, .ref sa, .ref la, .ref fz]] H := hP
      have hD : va_D A [ob_J x 5 [.int (nI hh), .ref rl, .ref bk, .ref nd, .ref st, .ref sh, .ref wy], ob_J bk 0 [.int funded, .int rewarded, .ref bal, .ref stk, .ref due], ar_I stk cI 80 fstk, ob_J nd 1 [.int (nI sz), .ref kp, .ref ct, .ref sa, .ref la, .ref fz]] := hD
      have w_28 : r_28 = if 0 ≤ n ∧ n < nI sz then 1 else 0 := w_28
      by_cases h_28 : 0 ≤ n ∧ n < nI sz
      · rw [if_pos h_28] at w_28; subst w_28
        obtain ⟨jn, h_jn, rfl⟩ : ∃ z : Nat, z < sz ∧ n = nI z := ix_lt (by omega) h_28
        have t_jn := tn_nI (n := jn) (by omega)
        refine lv_if_eq (tgt := 50) hx hb dX5_staked_31 (by decide) (fun h9 => absurd h9 (by decide)) (fun _ => ?_)
        refine lv_aload_n hx hb dX5_staked_34 rfl (lv_at hl 0 rfl) ?_
        refine va_get (ci := 5) (v := .ref bk) (C := RX5) (T := TX5) (N := 7) hx hb hts bi_5 hown hK hP 0 rfl rfl 2 (by decide) (hts _ bw_135) (fun _ h9 => h9) rfl dX5_staked_35 ?_
        refine va_get (ci := 0) (v := .ref stk) (C := RX0) (T := TX0) (N := 5) hx hb hts bi_0 hown hK hP 1 rfl rfl 3 (by decide) (hts _ bw_30) (fun _ h9 => h9) rfl dX5_staked_38 ?_
        refine lv_iload_n hx hb dX5_staked_41 rfl (lv_at hl 2 rfl) ?_
        refine lv_iload_n hx hb dX5_staked_42 rfl (lv_at hl 1 rfl) ?_
        refine ca_SI (rest := [.ref stk]) (k_X5_stakePlace l D cI cJ cZ jn ia ) hx hb hml hown hts hN hK hA hP hD hS bw_194 bw_195 bw_1 bw_196 2 rfl (by decide +kernel) ⟨by decide, by decide⟩ hl.1 rfl (Nat.le_of_ble_eq_true rfl) dX5_staked_43 ⟨Nat.zero_le _, Nat.zero_le _⟩ (fun r_43 u_u H locs w_43 hP hD hS => ?_)
        have w_43 : r_43 = nI (jn * 10 + ia) := w_43
        subst w_43
        refine ar_ld hx hb hK hP 2 (k := jn * 10 + ia) rfl rfl (by omega) (by decide) dX5_staked_46 ?_
        refine lv_goto (tgt := 51) hx hb dX5_staked_47 (by decide) ?_
        exact re_I (w1 := fun u_u : Unit => [ob_J x 5 [.int (nI hh), .ref rl, .ref bk, .ref nd, .ref st, .ref sh, .ref wy], ob_J bk 0 [.int funded, .int rewarded, .ref bal, .ref stk, .ref due], ar_I stk cI 80 fstk, ob_J nd 1 [.int (nI sz), .ref kp, .ref ct, .ref sa, .ref la, .ref fz]]) (v := fstk (jn * 10 + ia)) hx hb hr hlk hK hS rfl () hP hD (show fstk (jn * 10 + ia) = rr_staked sz fstk (nI ia) (nI jn) from by simp [rr_staked, ac_P, hn_P, h_1, t_ia, c_11, h_28, t_jn]) dX5_staked_51
      · rw [if_neg h_28] at w_28; subst w_28
        refine lv_if_eq (tgt := 50) hx hb dX5_staked_31 (by decide) (fun _ => ?_) (fun h9 => absurd (by decide) h9)
        refine lv_iconst (v := (-1)) hx hb dX5_staked_50 (by decide) ?_
        exact re_I (w1 := fun u_u : Unit => [ob_J x 5 [.int (nI hh), .ref rl, .ref bk, .ref nd, .ref st, .ref sh, .ref wy], ob_J bk 0 [.int funded, .int rewarded, .ref bal, .ref stk, .ref due], ar_I stk cI 80 fstk, ob_J nd 1 [.int (nI sz), .ref kp, .ref ct, .ref sa, .ref la, .ref fz]]) (v := (-1)) hx hb hr hlk hK hS rfl () hP hD (show (-1) = rr_staked sz fstk (nI ia) n from by simp [rr_staked, ac_P, hn_P, h_1, t_ia, c_11, h_28]) dX5_staked_51
    · refine lv_aload_n hx hb dX5_staked_14 rfl (lv_at hl 0 rfl) ?_
      refine va_get (ci := 5) (v := .ref bk) (C := RX5) (T := TX5) (N := 7) hx hb hts bi_5 hown hK hP 0 rfl rfl 2 (by decide) (hts _ bw_135) (fun _ h9 => h9) rfl dX5_staked_15 ?_
      refine lv_iload_n hx hb dX5_staked_18 rfl (lv_at hl 1 rfl) ?_
      refine ca_VI (rest := []) (wr := [ob_J x 5 [.int (nI hh), .ref rl, .ref bk, .ref nd, .ref st, .ref sh, .ref wy], ob_J nd 1 [.int (nI sz), .ref kp, .ref ct, .ref sa, .ref la, .ref fz]]) (w2 := fun u_u => [ob_J x 5 [.int (nI hh), .ref rl, .ref bk, .ref nd, .ref st, .ref sh, .ref wy], ob_J bk 0 [.int funded, .int rewarded, .ref bal, .ref stk, .ref due], ar_I stk cI 80 fstk, ob_J nd 1 [.int (nI sz), .ref kp, .ref ct, .ref sa, .ref la, .ref fz]]) (k_X0_stakesOfAccount l D cI cJ cZ bk stk funded rewarded bal due fstk ia (by first | assumption | omega)) hx hb hml hown hts hN hK hA hP hD hS 0 0 rfl rfl bw_289 bw_290 bw_291 bw_2 bw_292 1 rfl (by decide +kernel) ⟨by decide, by decide⟩ [1, 2] [0, 3] [0, 2, 3, 1] rfl rfl (by decide) (fun _ => rfl) hl.1 rfl (Nat.le_of_ble_eq_true rfl) dX5_staked_19 ⟨Nat.zero_le _, Nat.zero_le _⟩ (fun r_19 u_u H locs w_19 hP hD hS => ?_)
      have hP : va_P D cl_A [ob_J x 5 [.int (nI hh), .ref rl, .ref bk, .ref nd, .ref st, .ref sh, .ref wy], ob_J bk 0 [.int funded, .int rewarded, .ref bal, .ref stk, .ref due], ar_I stk cI 80 fstk, ob_J nd 1 [.int (nI sz), .ref kp, .ref ct, .ref sa, .ref la, .ref fz]] H := hP
      have hD : va_D A [ob_J x 5 [.int (nI hh), .ref rl, .ref bk, .ref nd, .ref st, .ref sh, .ref wy], ob_J bk 0 [.int funded, .int rewarded, .ref bal, .ref stk, .ref due], ar_I stk cI 80 fstk, ob_J nd 1 [.int (nI sz), .ref kp, .ref ct, .ref sa, .ref la, .ref fz]] := hD
      have w_19 : r_19 = sI_ (fun k => fstk (k * 10 + ia)) 8 := w_19
      subst w_19
      exact re_I (w1 := fun u_u : Unit => [ob_J x 5 [.int (nI hh), .ref rl, .ref bk, .ref nd, .ref st, .ref sh, .ref wy], ob_J bk 0 [.int funded, .int rewarded, .ref bal, .ref stk, .ref due], ar_I stk cI 80 fstk, ob_J nd 1 [.int (nI sz), .ref kp, .ref ct, .ref sa, .ref la, .ref fz]]) (v := sI_ (fun k => fstk (k * 10 + ia)) 8) hx hb hr hlk hK hS rfl () hP hD (show sI_ (fun k => fstk (k * 10 + ia)) 8 = rr_staked sz fstk (nI ia) n from by simp [rr_staked, ac_P, hn_P, h_1, t_ia, c_11]) dX5_staked_22
  · rw [if_neg h_1] at w_1; subst w_1
    refine lv_if_ne (tgt := 9) hx hb dX5_staked_4 (by decide) (fun h9 => absurd (by decide) h9) (fun _ => ?_)
    refine lv_iconst (v := (-1)) hx hb dX5_staked_7 (by decide) ?_
    exact re_I (w1 := fun u_u : Unit => [ob_J x 5 [.int (nI hh), .ref rl, .ref bk, .ref nd, .ref st, .ref sh, .ref wy], ob_J bk 0 [.int funded, .int rewarded, .ref bal, .ref stk, .ref due], ar_I stk cI 80 fstk, ob_J nd 1 [.int (nI sz), .ref kp, .ref ct, .ref sa, .ref la, .ref fz]]) (v := (-1)) hx hb hr hlk hK hS rfl () hP hD (show (-1) = rr_staked sz fstk a n from by simp [rr_staked, ac_P, hn_P, h_1]) dX5_staked_8

set_option maxHeartbeats 4000000 in
set_option maxRecDepth 100000 in
theorem k_X5_drawn (l : Launch) (D : va_G) (cI cJ cZ : ClassId) (x : Nat) (bk : Nat) (due : Nat) (hh : Nat) (rl : Nat) (nd : Nat) (st : Nat) (sh : Nat) (wy : Nat) (funded : Int32) (rewarded : Int32) (bal : Nat) (stk : Nat) (fdue : Nat → Int32) (a : Int32) (q : Int32)  : mt_I l yX5_drawn cX5_drawn 3 .int 2 44 D cI cJ cZ [ob_J x 5 [.int (nI hh), .ref rl, .ref bk, .ref nd, .ref st, .ref sh, .ref wy], ob_J bk 0 [.int funded, .int rewarded, .ref bal, .ref stk, .ref due], ar_I due cI 1100 fdue] [.ref x, .int a, .int q] (fun r (u_u : Unit) => r = rr_drawn fdue a q) (fun u_u : Unit => [ob_J x 5 [.int (nI hh), .ref rl, .ref bk, .ref nd, .ref st, .ref sh, .ref wy], ob_J bk 0 [.int funded, .int rewarded, .ref bal, .ref stk, .ref due], ar_I due cI 1100 fdue]) := by
  refine en_I (by decide) (Nat.le_of_ble_eq_true rfl) ?_
  intro p e s m below meth c A ls H locs hx hb hr hml hts hown hlk hN hK hA hP hD hS hl
  have hown : s.vm.findClass RX5 = some m.cls := hown
  have hl : lv_has ls 3 [(0, .ref x), (1, .int a), (2, .int q)] := hl
  refine lv_iload_n hx hb dX5_drawn_0 rfl (lv_at hl 1 rfl) ?_
  refine ca_SI (rest := []) (k_X5_isAccount l D cI cJ cZ a ) hx hb hml hown hts hN hK hA hP hD hS bw_170 bw_171 bw_1 bw_172 1 rfl (by decide +kernel) ⟨by decide, by decide⟩ hl.1 rfl (Nat.le_of_ble_eq_true rfl) dX5_drawn_1 ⟨Nat.zero_le _, Nat.zero_le _⟩ (fun r_1 u_u H locs w_1 hP hD hS => ?_)
  have w_1 : r_1 = if 0 ≤ a ∧ a ≤ 9 then 1 else 0 := w_1
  by_cases h_1 : 0 ≤ a ∧ a ≤ 9
  · rw [if_pos h_1] at w_1; subst w_1
    obtain ⟨ia, h_ia, rfl⟩ : ∃ z : Nat, z < 10 ∧ a = nI z := ix_le (by decide) h_1
    have t_ia := tn_nI (n := ia) (by omega)
    refine lv_if_ne (tgt := 9) hx hb dX5_drawn_4 (by decide) (fun _ => ?_) (fun h9 => absurd h9 (by decide))
    refine lv_iload_n hx hb dX5_drawn_9 rfl (lv_at hl 2 rfl) ?_
    refine lv_iconst (v := (-1)) hx hb dX5_drawn_10 (by decide) ?_
    refine lv_icmp_ne (tgt := 23) hx hb dX5_drawn_11 (by decide) (fun c_11 => ?_) (fun c_11 => ?_)
    · refine lv_iload_n hx hb dX5_drawn_23 rfl (lv_at hl 2 rfl) ?_
      refine lv_iconst (v := 1) hx hb dX5_drawn_24 (by decide) ?_
      refine lv_bipush (v := 109) hx hb dX5_drawn_25 (by decide) ?_
      refine ca_SI (rest := []) (k_X5_isWithin l D cI cJ cZ q 1 109 ) hx hb hml hown hts hN hK hA hP hD hS bw_163 bw_164 bw_1 bw_165 3 rfl (by decide +kernel) ⟨by decide, by decide⟩ hl.1 rfl (Nat.le_of_ble_eq_true rfl) dX5_drawn_27 ⟨Nat.zero_le _, Nat.zero_le _⟩ (fun r_27 u_u H locs w_27 hP hD hS => ?_)
      have w_27 : r_27 = if 1 ≤ q ∧ q ≤ 109 then 1 else 0 := w_27
      by_cases h_27 : 1 ≤ q ∧ q ≤ 109
      · rw [if_pos h_27] at w_27; subst w_27
        obtain ⟨iq, h_iq, rfl⟩ : ∃ z : Nat, z < 110 ∧ q = nI z := ix_le (n := 109) (by decide) ⟨Int32.le_trans (by decide) h_27.1, h_27.2⟩
        have t_iq := tn_nI (n := iq) (by omega)
        refine lv_if_eq (tgt := 49) hx hb dX5_drawn_30 (by decide) (fun h9 => absurd h9 (by decide)) (fun _ => ?_)
        refine lv_aload_n hx hb dX5_drawn_33 rfl (lv_at hl 0 rfl) ?_
        refine va_get (ci := 5) (v := .ref bk) (C := RX5) (T := TX5) (N := 7) hx hb hts bi_5 hown hK hP 0 rfl rfl 2 (by decide) (hts _ bw_135) (fun _ h9 => h9) rfl dX5_drawn_34 ?_
        refine va_get (ci := 0) (v := .ref due) (C := RX0) (T := TX0) (N := 5) hx hb hts bi_0 hown hK hP 1 rfl rfl 4 (by decide) (hts _ bw_32) (fun _ h9 => h9) rfl dX5_drawn_37 ?_
        refine lv_iload_n hx hb dX5_drawn_40 rfl (lv_at hl 1 rfl) ?_
        refine lv_iload_n hx hb dX5_drawn_41 rfl (lv_at hl 2 rfl) ?_
        refine ca_SI (rest := [.ref due]) (k_X5_duePlace l D cI cJ cZ ia iq ) hx hb hml hown hts hN hK hA hP hD hS bw_201 bw_202 bw_1 bw_203 2 rfl (by decide +kernel) ⟨by decide, by decide⟩ hl.1 rfl (Nat.le_of_ble_eq_true rfl) dX5_drawn_42 ⟨Nat.zero_le _, Nat.zero_le _⟩ (fun r_42 u_u H locs w_42 hP hD hS => ?_)
        have w_42 : r_42 = nI (ia * 110 + iq) := w_42
        subst w_42
        refine ar_ld hx hb hK hP 2 (k := ia * 110 + iq) rfl rfl (by omega) (by decide) dX5_drawn_45 ?_
        refine lv_goto (tgt := 50) hx hb dX5_drawn_46 (by decide) ?_
        exact re_I (w1 := fun u_u : Unit => [ob_J x 5 [.int (nI hh), .ref rl, .ref bk, .ref nd, .ref st, .ref sh, .ref wy], ob_J bk 0 [.int funded, .int rewarded, .ref bal, .ref stk, .ref due], ar_I due cI 1100 fdue]) (v := fdue (ia * 110 + iq)) hx hb hr hlk hK hS rfl () hP hD (show fdue (ia * 110 + iq) = rr_drawn fdue (nI ia) (nI iq) from by simp [rr_drawn, ac_P, h_1, t_ia, c_11, h_27, t_iq]) dX5_drawn_50
      · rw [if_neg h_27] at w_27; subst w_27
        refine lv_if_eq (tgt := 49) hx hb dX5_drawn_30 (by decide) (fun _ => ?_) (fun h9 => absurd (by decide) h9)
        refine lv_iconst (v := (-1)) hx hb dX5_drawn_49 (by decide) ?_
        exact re_I (w1 := fun u_u : Unit => [ob_J x 5 [.int (nI hh), .ref rl, .ref bk, .ref nd, .ref st, .ref sh, .ref wy], ob_J bk 0 [.int funded, .int rewarded, .ref bal, .ref stk, .ref due], ar_I due cI 1100 fdue]) (v := (-1)) hx hb hr hlk hK hS rfl () hP hD (show (-1) = rr_drawn fdue (nI ia) q from by simp [rr_drawn, ac_P, h_1, t_ia, c_11, h_27]) dX5_drawn_50
    · refine lv_aload_n hx hb dX5_drawn_14 rfl (lv_at hl 0 rfl) ?_
      refine va_get (ci := 5) (v := .ref bk) (C := RX5) (T := TX5) (N := 7) hx hb hts bi_5 hown hK hP 0 rfl rfl 2 (by decide) (hts _ bw_135) (fun _ h9 => h9) rfl dX5_drawn_15 ?_
      refine lv_iload_n hx hb dX5_drawn_18 rfl (lv_at hl 1 rfl) ?_
      refine ca_VI (rest := []) (wr := [ob_J x 5 [.int (nI hh), .ref rl, .ref bk, .ref nd, .ref st, .ref sh, .ref wy]]) (w2 := fun u_u => [ob_J x 5 [.int (nI hh), .ref rl, .ref bk, .ref nd, .ref st, .ref sh, .ref wy], ob_J bk 0 [.int funded, .int rewarded, .ref bal, .ref stk, .ref due], ar_I due cI 1100 fdue]) (k_X0_dueOfAccount l D cI cJ cZ bk due funded rewarded bal stk fdue ia (by first | assumption | omega)) hx hb hml hown hts hN hK hA hP hD hS 0 0 rfl rfl bw_297 bw_298 bw_299 bw_2 bw_300 1 rfl (by decide +kernel) ⟨by decide, by decide⟩ [1, 2] [0] [0, 1, 2] rfl rfl (by decide) (fun _ => rfl) hl.1 rfl (Nat.le_of_ble_eq_true rfl) dX5_drawn_19 ⟨Nat.zero_le _, Nat.zero_le _⟩ (fun r_19 u_u H locs w_19 hP hD hS => ?_)
      have hP : va_P D cl_A [ob_J x 5 [.int (nI hh), .ref rl, .ref bk, .ref nd, .ref st, .ref sh, .ref wy], ob_J bk 0 [.int funded, .int rewarded, .ref bal, .ref stk, .ref due], ar_I due cI 1100 fdue] H := hP
      have hD : va_D A [ob_J x 5 [.int (nI hh), .ref rl, .ref bk, .ref nd, .ref st, .ref sh, .ref wy], ob_J bk 0 [.int funded, .int rewarded, .ref bal, .ref stk, .ref due], ar_I due cI 1100 fdue] := hD
      have w_19 : r_19 = sI_ (fun k => fdue (ia * 110 + (k + 1))) 109 := w_19
      subst w_19
      exact re_I (w1 := fun u_u : Unit => [ob_J x 5 [.int (nI hh), .ref rl, .ref bk, .ref nd, .ref st, .ref sh, .ref wy], ob_J bk 0 [.int funded, .int rewarded, .ref bal, .ref stk, .ref due], ar_I due cI 1100 fdue]) (v := sI_ (fun k => fdue (ia * 110 + (k + 1))) 109) hx hb hr hlk hK hS rfl () hP hD (show sI_ (fun k => fdue (ia * 110 + (k + 1))) 109 = rr_drawn fdue (nI ia) q from by simp [rr_drawn, ac_P, h_1, t_ia, c_11]) dX5_drawn_22
  · rw [if_neg h_1] at w_1; subst w_1
    refine lv_if_ne (tgt := 9) hx hb dX5_drawn_4 (by decide) (fun h9 => absurd (by decide) h9) (fun _ => ?_)
    refine lv_iconst (v := (-1)) hx hb dX5_drawn_7 (by decide) ?_
    exact re_I (w1 := fun u_u : Unit => [ob_J x 5 [.int (nI hh), .ref rl, .ref bk, .ref nd, .ref st, .ref sh, .ref wy], ob_J bk 0 [.int funded, .int rewarded, .ref bal, .ref stk, .ref due], ar_I due cI 1100 fdue]) (v := (-1)) hx hb hr hlk hK hS rfl () hP hD (show (-1) = rr_drawn fdue a q from by simp [rr_drawn, ac_P, h_1]) dX5_drawn_8

set_option maxHeartbeats 4000000 in
set_option maxRecDepth 100000 in
theorem k_X5_about (l : Launch) (D : va_G) (cI cJ cZ : ClassId) (x : Nat) (bk : Nat) (stk : Nat) (nd : Nat) (kp : Nat) (ct : Nat) (sa : Nat) (la : Nat) (fz : Nat) (hh : Nat) (rl : Nat) (st : Nat) (sh : Nat) (wy : Nat) (funded : Int32) (rewarded : Int32) (bal : Nat) (due : Nat) (fstk : Nat → Int32) (sz : Nat) (fkp : Nat → Int32) (fct : Nat → Int32) (fsa : Nat → Int32) (fla : Nat → Int32) (ffz : Nat → Int32) (n : Int32) (what : Int32) (hsz : sz ≤ 8) : mt_I l yX5_about cX5_about 3 .int 2 44 D cI cJ cZ [ob_J x 5 [.int (nI hh), .ref rl, .ref bk, .ref nd, .ref st, .ref sh, .ref wy], ob_J bk 0 [.int funded, .int rewarded, .ref bal, .ref stk, .ref due], ar_I stk cI 80 fstk, ob_J nd 1 [.int (nI sz), .ref kp, .ref ct, .ref sa, .ref la, .ref fz], ar_I kp cI 8 fkp, ar_I ct cI 8 fct, ar_I sa cI 8 fsa, ar_I la cI 8 fla, ar_I fz cZ 8 ffz] [.ref x, .int n, .int what] (fun r (u_u : Unit) => r = rr_about sz fsa ffz fla fkp fct fstk n what) (fun u_u : Unit => [ob_J x 5 [.int (nI hh), .ref rl, .ref bk, .ref nd, .ref st, .ref sh, .ref wy], ob_J bk 0 [.int funded, .int rewarded, .ref bal, .ref stk, .ref due], ar_I stk cI 80 fstk, ob_J nd 1 [.int (nI sz), .ref kp, .ref ct, .ref sa, .ref la, .ref fz], ar_I kp cI 8 fkp, ar_I ct cI 8 fct, ar_I sa cI 8 fsa, ar_I la cI 8 fla, ar_I fz cZ 8 ffz]) := by
  refine en_I (by decide) (Nat.le_of_ble_eq_true rfl) ?_
  intro p e s m below meth c A ls H locs hx hb hr hml hts hown hlk hN hK hA hP hD hS hl
  have hown : s.vm.findClass RX5 = some m.cls := hown
  have hl : lv_has ls 3 [(0, .ref x), (1, .int n), (2, .int what)] := hl
  refine lv_aload_n hx hb dX5_about_0 rfl (lv_at hl 0 rfl) ?_
  refine va_get (ci := 5) (v := .ref nd) (C := RX5) (T := TX5) (N := 7) hx hb hts bi_5 hown hK hP 0 rfl rfl 3 (by decide) (hts _ bw_136) (fun _ h9 => h9) rfl dX5_about_1 ?_
  refine lv_iload_n hx hb dX5_about_4 rfl (lv_at hl 1 rfl) ?_
  refine ca_VI (rest := []) (wr := [ob_J x 5 [.int (nI hh), .ref rl, .ref bk, .ref nd, .ref st, .ref sh, .ref wy], ob_J bk 0 [.int funded, .int rewarded, .ref bal, .ref stk, .ref due], ar_I stk cI 80 fstk, ar_I kp cI 8 fkp, ar_I ct cI 8 fct, ar_I sa cI 8 fsa, ar_I la cI 8 fla, ar_I fz cZ 8 ffz]) (w2 := fun u_u => [ob_J x 5 [.int (nI hh), .ref rl, .ref bk, .ref nd, .ref st, .ref sh, .ref wy], ob_J bk 0 [.int funded, .int rewarded, .ref bal, .ref stk, .ref due], ar_I stk cI 80 fstk, ob_J nd 1 [.int (nI sz), .ref kp, .ref ct, .ref sa, .ref la, .ref fz], ar_I kp cI 8 fkp, ar_I ct cI 8 fct, ar_I sa cI 8 fsa, ar_I la cI 8 fla, ar_I fz cZ 8 ffz]) (k_X1_has l D cI cJ cZ nd sz kp ct sa la fz n ) hx hb hml hown hts hN hK hA hP hD hS 1 0 rfl rfl bw_190 bw_191 bw_192 bw_3 bw_193 1 rfl (by decide +kernel) ⟨by decide, by decide⟩ [3] [0, 1, 2, 4, 5, 6, 7, 8] [0, 1, 2, 8, 3, 4, 5, 6, 7] rfl rfl (by decide) (fun _ => rfl) hl.1 rfl (Nat.le_of_ble_eq_true rfl) dX5_about_5 ⟨Nat.zero_le _, Nat.zero_le _⟩ (fun r_5 u_u H locs w_5 hP hD hS => ?_)
  have hP : va_P D cl_A [ob_J x 5 [.int (nI hh), .ref rl, .ref bk, .ref nd, .ref st, .ref sh, .ref wy], ob_J bk 0 [.int funded, .int rewarded, .ref bal, .ref stk, .ref due], ar_I stk cI 80 fstk, ob_J nd 1 [.int (nI sz), .ref kp, .ref ct, .ref sa, .ref la, .ref fz], ar_I kp cI 8 fkp, ar_I ct cI 8 fct, ar_I sa cI 8 fsa, ar_I la cI 8 fla, ar_I fz cZ 8 ffz] H := hP
  have hD : va_D A [ob_J x 5 [.int (nI hh), .ref rl, .ref bk, .ref nd, .ref st, .ref sh, .ref wy], ob_J bk 0 [.int funded, .int rewarded, .ref bal, .ref stk, .ref due], ar_I stk cI 80 fstk, ob_J nd 1 [.int (nI sz), .ref kp, .ref ct, .ref sa, .ref la, .ref fz], ar_I kp cI 8 fkp, ar_I ct cI 8 fct, ar_I sa cI 8 fsa, ar_I la cI 8 fla, ar_I fz cZ 8 ffz] := hD
  have w_5 : r_5 = if 0 ≤ n ∧ n < nI sz then 1 else 0 := w_5
  by_cases h_5 : 0 ≤ n ∧ n < nI sz
  · rw [if_pos h_5] at w_5; subst w_5
    obtain ⟨jn, h_jn, rfl⟩ : ∃ z : Nat, z < sz ∧ n = nI z := ix_lt (by omega) h_5
    have t_jn := tn_nI (n := jn) (by omega)
    refine lv_if_ne (tgt := 13) hx hb dX5_about_8 (by decide) (fun _ => ?_) (fun h9 => absurd h9 (by decide))
    refine lv_iload_n hx hb dX5_about_13 rfl (lv_at hl 2 rfl) ?_
    by_cases e_14_0 : what = 0
    · subst e_14_0
      refine lv_tableIn (off := 38) (tgt := 52) hx hb dX5_about_14 (by decide) (by decide) (by decide) (by decide) ?_
      refine lv_aload_n hx hb dX5_about_52 rfl (lv_at hl 0 rfl) ?_
      refine va_get (ci := 5) (v := .ref nd) (C := RX5) (T := TX5) (N := 7) hx hb hts bi_5 hown hK hP 0 rfl rfl 3 (by decide) (hts _ bw_136) (fun _ h9 => h9) rfl dX5_about_53 ?_
      refine va_get (ci := 1) (v := .ref sa) (C := RX1) (T := TX1) (N := 6) hx hb hts bi_1 hown hK hP 3 rfl rfl 3 (by decide) (hts _ bw_58) (fun _ h9 => h9) rfl dX5_about_56 ?_
      refine lv_iload_n hx hb dX5_about_59 rfl (lv_at hl 1 rfl) ?_
      refine ar_ld hx hb hK hP 6 (k := jn) rfl rfl (by omega) (by decide) dX5_about_60 ?_
      exact re_I (w1 := fun u_u : Unit => [ob_J x 5 [.int (nI hh), .ref rl, .ref bk, .ref nd, .ref st, .ref sh, .ref wy], ob_J bk 0 [.int funded, .int rewarded, .ref bal, .ref stk, .ref due], ar_I stk cI 80 fstk, ob_J nd 1 [.int (nI sz), .ref kp, .ref ct, .ref sa, .ref la, .ref fz], ar_I kp cI 8 fkp, ar_I ct cI 8 fct, ar_I sa cI 8 fsa, ar_I la cI 8 fla, ar_I fz cZ 8 ffz]) (v := fsa jn) hx hb hr hlk hK hS rfl () hP hD (show fsa jn = rr_about sz fsa ffz fla fkp fct fstk (nI jn) 0 from by simp [rr_about, hn_P, h_5, t_jn]) dX5_about_61
    by_cases e_14_1 : what = 1
    · subst e_14_1
      refine lv_tableIn (off := 48) (tgt := 62) hx hb dX5_about_14 (by decide) (by decide) (by decide) (by decide) ?_
      refine lv_aload_n hx hb dX5_about_62 rfl (lv_at hl 0 rfl) ?_
      refine va_get (ci := 5) (v := .ref nd) (C := RX5) (T := TX5) (N := 7) hx hb hts bi_5 hown hK hP 0 rfl rfl 3 (by decide) (hts _ bw_136) (fun _ h9 => h9) rfl dX5_about_63 ?_
      refine va_get (ci := 1) (v := .ref fz) (C := RX1) (T := TX1) (N := 6) hx hb hts bi_1 hown hK hP 3 rfl rfl 5 (by decide) (hts _ bw_62) (fun _ h9 => h9) rfl dX5_about_66 ?_
      refine lv_iload_n hx hb dX5_about_69 rfl (lv_at hl 1 rfl) ?_
      refine ar_zd hx hb hK hP 8 (k := jn) rfl rfl (by omega) (by decide) dX5_about_70 ?_
      refine lv_if_eq (tgt := 78) hx hb dX5_about_71 (by decide) (fun c_71 => ?_) (fun c_71 => ?_)
      · refine lv_iconst (v := 0) hx hb dX5_about_78 (by decide) ?_
        exact re_I (w1 := fun u_u : Unit => [ob_J x 5 [.int (nI hh), .ref rl, .ref bk, .ref nd, .ref st, .ref sh, .ref wy], ob_J bk 0 [.int funded, .int rewarded, .ref bal, .ref stk, .ref due], ar_I stk cI 80 fstk, ob_J nd 1 [.int (nI sz), .ref kp, .ref ct, .ref sa, .ref la, .ref fz], ar_I kp cI 8 fkp, ar_I ct cI 8 fct, ar_I sa cI 8 fsa, ar_I la cI 8 fla, ar_I fz cZ 8 ffz]) (v := 0) hx hb hr hlk hK hS rfl () hP hD (show 0 = rr_about sz fsa ffz fla fkp fct fstk (nI jn) 1 from by simp [rr_about, hn_P, h_5, t_jn, e_14_0, c_71]) dX5_about_79
      · refine lv_iconst (v := 1) hx hb dX5_about_74 (by decide) ?_
        refine lv_goto (tgt := 79) hx hb dX5_about_75 (by decide) ?_
        exact re_I (w1 := fun u_u : Unit => [ob_J x 5 [.int (nI hh), .ref rl, .ref bk, .ref nd, .ref st, .ref sh, .ref wy], ob_J bk 0 [.int funded, .int rewarded, .ref bal, .ref stk, .ref due], ar_I stk cI 80 fstk, ob_J nd 1 [.int (nI sz), .ref kp, .ref ct, .ref sa, .ref la, .ref fz], ar_I kp cI 8 fkp, ar_I ct cI 8 fct, ar_I sa cI 8 fsa, ar_I la cI 8 fla, ar_I fz cZ 8 ffz]) (v := 1) hx hb hr hlk hK hS rfl () hP hD (show 1 = rr_about sz fsa ffz fla fkp fct fstk (nI jn) 1 from by simp [rr_about, hn_P, h_5, t_jn, e_14_0, c_71]) dX5_about_79
    by_cases e_14_2 : what = 2
    · subst e_14_2
      refine lv_tableIn (off := 66) (tgt := 80) hx hb dX5_about_14 (by decide) (by decide) (by decide) (by decide) ?_
      refine lv_aload_n hx hb dX5_about_80 rfl (lv_at hl 0 rfl) ?_
      refine va_get (ci := 5) (v := .ref nd) (C := RX5) (T := TX5) (N := 7) hx hb hts bi_5 hown hK hP 0 rfl rfl 3 (by decide) (hts _ bw_136) (fun _ h9 => h9) rfl dX5_about_81 ?_
      refine va_get (ci := 1) (v := .ref la) (C := RX1) (T := TX1) (N := 6) hx hb hts bi_1 hown hK hP 3 rfl rfl 4 (by decide) (hts _ bw_60) (fun _ h9 => h9) rfl dX5_about_84 ?_
      refine lv_iload_n hx hb dX5_about_87 rfl (lv_at hl 1 rfl) ?_
      refine ar_ld hx hb hK hP 7 (k := jn) rfl rfl (by omega) (by decide) dX5_about_88 ?_
      exact re_I (w1 := fun u_u : Unit => [ob_J x 5 [.int (nI hh), .ref rl, .ref bk, .ref nd, .ref st, .ref sh, .ref wy], ob_J bk 0 [.int funded, .int rewarded, .ref bal, .ref stk, .ref due], ar_I stk cI 80 fstk, ob_J nd 1 [.int (nI sz), .ref kp, .ref ct, .ref sa, .ref la, .ref fz], ar_I kp cI 8 fkp, ar_I ct cI 8 fct, ar_I sa cI 8 fsa, ar_I la cI 8 fla, ar_I fz cZ 8 ffz]) (v := fla jn) hx hb hr hlk hK hS rfl () hP hD (show fla jn = rr_about sz fsa ffz fla fkp fct fstk (nI jn) 2 from by simp [rr_about, hn_P, h_5, t_jn, e_14_0, e_14_1]) dX5_about_89
    by_cases e_14_3 : what = 3
    · subst e_14_3
      refine lv_tableIn (off := 76) (tgt := 90) hx hb dX5_about_14 (by decide) (by decide) (by decide) (by decide) ?_
      refine lv_aload_n hx hb dX5_about_90 rfl (lv_at hl 0 rfl) ?_
      refine va_get (ci := 5) (v := .ref nd) (C := RX5) (T := TX5) (N := 7) hx hb hts bi_5 hown hK hP 0 rfl rfl 3 (by decide) (hts _ bw_136) (fun _ h9 => h9) rfl dX5_about_91 ?_
      refine va_get (ci := 1) (v := .ref kp) (C := RX1) (T := TX1) (N := 6) hx hb hts bi_1 hown hK hP 3 rfl rfl 1 (by decide) (hts _ bw_54) (fun _ h9 => h9) rfl dX5_about_94 ?_
      refine lv_iload_n hx hb dX5_about_97 rfl (lv_at hl 1 rfl) ?_
      refine ar_ld hx hb hK hP 4 (k := jn) rfl rfl (by omega) (by decide) dX5_about_98 ?_
      exact re_I (w1 := fun u_u : Unit => [ob_J x 5 [.int (nI hh), .ref rl, .ref bk, .ref nd, .ref st, .ref sh, .ref wy], ob_J bk 0 [.int funded, .int rewarded, .ref bal, .ref stk, .ref due], ar_I stk cI 80 fstk, ob_J nd 1 [.int (nI sz), .ref kp, .ref ct, .ref sa, .ref la, .ref fz], ar_I kp cI 8 fkp, ar_I ct cI 8 fct, ar_I sa cI 8 fsa, ar_I la cI 8 fla, ar_I fz cZ 8 ffz]) (v := fkp jn) hx hb hr hlk hK hS rfl () hP hD (show fkp jn = rr_about sz fsa ffz fla fkp fct fstk (nI jn) 3 from by simp [rr_about, hn_P, h_5, t_jn, e_14_0, e_14_1, e_14_2]) dX5_about_99
    by_cases e_14_4 : what = 4
    · subst e_14_4
      refine lv_tableIn (off := 86) (tgt := 100) hx hb dX5_about_14 (by decide) (by decide) (by decide) (by decide) ?_
      refine lv_aload_n hx hb dX5_about_100 rfl (lv_at hl 0 rfl) ?_
      refine va_get (ci := 5) (v := .ref nd) (C := RX5) (T := TX5) (N := 7) hx hb hts bi_5 hown hK hP 0 rfl rfl 3 (by decide) (hts _ bw_136) (fun _ h9 => h9) rfl dX5_about_101 ?_
      refine va_get (ci := 1) (v := .ref ct) (C := RX1) (T := TX1) (N := 6) hx hb hts bi_1 hown hK hP 3 rfl rfl 2 (by decide) (hts _ bw_56) (fun _ h9 => h9) rfl dX5_about_104 ?_
      refine lv_iload_n hx hb dX5_about_107 rfl (lv_at hl 1 rfl) ?_
      refine ar_ld hx hb hK hP 5 (k := jn) rfl rfl (by omega) (by decide) dX5_about_108 ?_
      exact re_I (w1 := fun u_u : Unit => [ob_J x 5 [.int (nI hh), .ref rl, .ref bk, .ref nd, .ref st, .ref sh, .ref wy], ob_J bk 0 [.int funded, .int rewarded, .ref bal, .ref stk, .ref due], ar_I stk cI 80 fstk, ob_J nd 1 [.int (nI sz), .ref kp, .ref ct, .ref sa, .ref la, .ref fz], ar_I kp cI 8 fkp, ar_I ct cI 8 fct, ar_I sa cI 8 fsa, ar_I la cI 8 fla, ar_I fz cZ 8 ffz]) (v := fct jn) hx hb hr hlk hK hS rfl () hP hD (show fct jn = rr_about sz fsa ffz fla fkp fct fstk (nI jn) 4 from by simp [rr_about, hn_P, h_5, t_jn, e_14_0, e_14_1, e_14_2, e_14_3]) dX5_about_109
    by_cases e_14_5 : what = 5
    · subst e_14_5
      refine lv_tableIn (off := 96) (tgt := 110) hx hb dX5_about_14 (by decide) (by decide) (by decide) (by decide) ?_
      refine lv_aload_n hx hb dX5_about_110 rfl (lv_at hl 0 rfl) ?_
      refine va_get (ci := 5) (v := .ref bk) (C := RX5) (T := TX5) (N := 7) hx hb hts bi_5 hown hK hP 0 rfl rfl 2 (by decide) (hts _ bw_135) (fun _ h9 => h9) rfl dX5_about_111 ?_
      refine lv_iload_n hx hb dX5_about_114 rfl (lv_at hl 1 rfl) ?_
      refine ca_VI (rest := []) (wr := [ob_J x 5 [.int (nI hh), .ref rl, .ref bk, .ref nd, .ref st, .ref sh, .ref wy], ob_J nd 1 [.int (nI sz), .ref kp, .ref ct, .ref sa, .ref la, .ref fz], ar_I kp cI 8 fkp, ar_I ct cI 8 fct, ar_I sa cI 8 fsa, ar_I la cI 8 fla, ar_I fz cZ 8 ffz]) (w2 := fun u_u => [ob_J x 5 [.int (nI hh), .ref rl, .ref bk, .ref nd, .ref st, .ref sh, .ref wy], ob_J bk 0 [.int funded, .int rewarded, .ref bal, .ref stk, .ref due], ar_I stk cI 80 fstk, ob_J nd 1 [.int (nI sz), .ref kp, .ref ct, .ref sa, .ref la, .ref fz], ar_I kp cI 8 fkp, ar_I ct cI 8 fct, ar_I sa cI 8 fsa, ar_I la cI 8 fla, ar_I fz cZ 8 ffz]) (k_X0_stakesOfNode l D cI cJ cZ bk stk funded rewarded bal due fstk jn (by first | assumption | omega)) hx hb hml hown hts hN hK hA hP hD hS 0 0 rfl rfl bw_268 bw_269 bw_270 bw_2 bw_271 1 rfl (by decide +kernel) ⟨by decide, by decide⟩ [1, 2] [0, 3, 4, 5, 6, 7, 8] [0, 7, 8, 1, 2, 3, 4, 5, 6] rfl rfl (by decide) (fun _ => rfl) hl.1 rfl (Nat.le_of_ble_eq_true rfl) dX5_about_115 ⟨Nat.zero_le _, Nat.zero_le _⟩ (fun r_115 u_u H locs w_115 hP hD hS => ?_)
      have hP : va_P D cl_A [ob_J x 5 [.int (nI hh), .ref rl, .ref bk, .ref nd, .ref st, .ref sh, .ref wy], ob_J bk 0 [.int funded, .int rewarded, .ref bal, .ref stk, .ref due], ar_I stk cI 80 fstk, ob_J nd 1 [.int (nI sz), .ref kp, .ref ct, .ref sa, .ref la, .ref fz], ar_I kp cI 8 fkp, ar_I ct cI 8 fct, ar_I sa cI 8 fsa, ar_I la cI 8 fla, ar_I fz cZ 8 ffz] H := hP
      have hD : va_D A [ob_J x 5 [.int (nI hh), .ref rl, .ref bk, .ref nd, .ref st, .ref sh, .ref wy], ob_J bk 0 [.int funded, .int rewarded, .ref bal, .ref stk, .ref due], ar_I stk cI 80 fstk, ob_J nd 1 [.int (nI sz), .ref kp, .ref ct, .ref sa, .ref la, .ref fz], ar_I kp cI 8 fkp, ar_I ct cI 8 fct, ar_I sa cI 8 fsa, ar_I la cI 8 fla, ar_I fz cZ 8 ffz] := hD
      have w_115 : r_115 = sI_ (fun a => fstk (jn * 10 + a)) 10 := w_115
      subst w_115
      exact re_I (w1 := fun u_u : Unit => [ob_J x 5 [.int (nI hh), .ref rl, .ref bk, .ref nd, .ref st, .ref sh, .ref wy], ob_J bk 0 [.int funded, .int rewarded, .ref bal, .ref stk, .ref due], ar_I stk cI 80 fstk, ob_J nd 1 [.int (nI sz), .ref kp, .ref ct, .ref sa, .ref la, .ref fz], ar_I kp cI 8 fkp, ar_I ct cI 8 fct, ar_I sa cI 8 fsa, ar_I la cI 8 fla, ar_I fz cZ 8 ffz]) (v := sI_ (fun a => fstk (jn * 10 + a)) 10) hx hb hr hlk hK hS rfl () hP hD (show sI_ (fun a => fstk (jn * 10 + a)) 10 = rr_about sz fsa ffz fla fkp fct fstk (nI jn) 5 from by simp [rr_about, hn_P, h_5, t_jn, e_14_0, e_14_1, e_14_2, e_14_3, e_14_4]) dX5_about_118
    refine lv_tableOut (tgt := 119) hx hb dX5_about_14 (sw_out 5 (fun z hz => ?_)) (by decide) ?_
    · rcases (show z = 0 ∨ z = 1 ∨ z = 2 ∨ z = 3 ∨ z = 4 ∨ z = 5 by omega) with rfl | rfl | rfl | rfl | rfl | rfl
      · exact e_14_0
      · exact e_14_1
      · exact e_14_2
      · exact e_14_3
      · exact e_14_4
      · exact e_14_5
    · refine lv_iconst (v := (-1)) hx hb dX5_about_119 (by decide) ?_
      exact re_I (w1 := fun u_u : Unit => [ob_J x 5 [.int (nI hh), .ref rl, .ref bk, .ref nd, .ref st, .ref sh, .ref wy], ob_J bk 0 [.int funded, .int rewarded, .ref bal, .ref stk, .ref due], ar_I stk cI 80 fstk, ob_J nd 1 [.int (nI sz), .ref kp, .ref ct, .ref sa, .ref la, .ref fz], ar_I kp cI 8 fkp, ar_I ct cI 8 fct, ar_I sa cI 8 fsa, ar_I la cI 8 fla, ar_I fz cZ 8 ffz]) (v := (-1)) hx hb hr hlk hK hS rfl () hP hD (show (-1) = rr_about sz fsa ffz fla fkp fct fstk (nI jn) what from by simp [rr_about, hn_P, h_5, t_jn, e_14_0, e_14_1, e_14_2, e_14_3, e_14_4, e_14_5]) dX5_about_120
  · rw [if_neg h_5] at w_5; subst w_5
    refine lv_if_ne (tgt := 13) hx hb dX5_about_8 (by decide) (fun h9 => absurd (by decide) h9) (fun _ => ?_)
    refine lv_iconst (v := (-1)) hx hb dX5_about_11 (by decide) ?_
    exact re_I (w1 := fun u_u : Unit => [ob_J x 5 [.int (nI hh), .ref rl, .ref bk, .ref nd, .ref st, .ref sh, .ref wy], ob_J bk 0 [.int funded, .int rewarded, .ref bal, .ref stk, .ref due], ar_I stk cI 80 fstk, ob_J nd 1 [.int (nI sz), .ref kp, .ref ct, .ref sa, .ref la, .ref fz], ar_I kp cI 8 fkp, ar_I ct cI 8 fct, ar_I sa cI 8 fsa, ar_I la cI 8 fla, ar_I fz cZ 8 ffz]) (v := (-1)) hx hb hr hlk hK hS rfl () hP hD (show (-1) = rr_about sz fsa ffz fla fkp fct fstk n what from by simp [rr_about, hn_P, h_5]) dX5_about_12

set_option maxHeartbeats 4000000 in
set_option maxRecDepth 100000 in
theorem k_X5_weight (l : Launch) (D : va_G) (cI cJ cZ : ClassId) (x : Nat) (nd : Nat) (st : Nat) (wt : Nat) (al : Nat) (hh : Nat) (rl : Nat) (bk : Nat) (sh : Nat) (wy : Nat) (sz : Nat) (kp : Nat) (ct : Nat) (sa : Nat) (la : Nat) (fz : Nat) (rw : Nat) (br : Nat) (fx : Nat) (fwt : Nat → Int32) (fal : Nat → Int32) (n : Int32) (q : Int32) (hsz : sz ≤ 8) (hhh : hh ≤ 100) : mt_I l yX5_weight cX5_weight 3 .int 2 43 D cI cJ cZ [ob_J x 5 [.int (nI hh), .ref rl, .ref bk, .ref nd, .ref st, .ref sh, .ref wy], ob_J nd 1 [.int (nI sz), .ref kp, .ref ct, .ref sa, .ref la, .ref fz], ob_J st 2 [.ref wt, .ref rw, .ref al, .ref br, .ref fx], ar_I wt cI 808 fwt, ar_I al cI 101 fal] [.ref x, .int n, .int q] (fun r (u_u : Unit) => r = rr_weight hh sz fwt fal n q) (fun u_u : Unit => [ob_J x 5 [.int (nI hh), .ref rl, .ref bk, .ref nd, .ref st, .ref sh, .ref wy], ob_J nd 1 [.int (nI sz), .ref kp, .ref ct, .ref sa, .ref la, .ref fz], ob_J st 2 [.ref wt, .ref rw, .ref al, .ref br, .ref fx], ar_I wt cI 808 fwt, ar_I al cI 101 fal]) := by
  refine en_I (by decide) (Nat.le_of_ble_eq_true rfl) ?_
  intro p e s m below meth c A ls H locs hx hb hr hml hts hown hlk hN hK hA hP hD hS hl
  have hown : s.vm.findClass RX5 = some m.cls := hown
  have hl : lv_has ls 3 [(0, .ref x), (1, .int n), (2, .int q)] := hl
  refine lv_aload_n hx hb dX5_weight_0 rfl (lv_at hl 0 rfl) ?_
  refine lv_iload_n hx hb dX5_weight_1 rfl (lv_at hl 2 rfl) ?_
  refine ca_VI (rest := []) (wr := [ob_J nd 1 [.int (nI sz), .ref kp, .ref ct, .ref sa, .ref la, .ref fz], ob_J st 2 [.ref wt, .ref rw, .ref al, .ref br, .ref fx], ar_I wt cI 808 fwt, ar_I al cI 101 fal]) (w2 := fun u_u => [ob_J x 5 [.int (nI hh), .ref rl, .ref bk, .ref nd, .ref st, .ref sh, .ref wy], ob_J nd 1 [.int (nI sz), .ref kp, .ref ct, .ref sa, .ref la, .ref fz], ob_J st 2 [.ref wt, .ref rw, .ref al, .ref br, .ref fx], ar_I wt cI 808 fwt, ar_I al cI 101 fal]) (k_X5_hasSet l D cI cJ cZ x hh rl bk nd st sh wy q ) hx hb hml hown hts hN hK hA hP hD hS 5 0 rfl rfl bw_309 bw_311 bs_6 bw_1 bw_312 1 rfl (by decide +kernel) ⟨by decide, by decide⟩ [0] [1, 2, 3, 4] [4, 0, 1, 2, 3] rfl rfl (by decide) (fun _ => rfl) hl.1 rfl (Nat.le_of_ble_eq_true rfl) dX5_weight_2 ⟨Nat.zero_le _, Nat.zero_le _⟩ (fun r_2 u_u H locs w_2 hP hD hS => ?_)
  have hP : va_P D cl_A [ob_J x 5 [.int (nI hh), .ref rl, .ref bk, .ref nd, .ref st, .ref sh, .ref wy], ob_J nd 1 [.int (nI sz), .ref kp, .ref ct, .ref sa, .ref la, .ref fz], ob_J st 2 [.ref wt, .ref rw, .ref al, .ref br, .ref fx], ar_I wt cI 808 fwt, ar_I al cI 101 fal] H := hP
  have hD : va_D A [ob_J x 5 [.int (nI hh), .ref rl, .ref bk, .ref nd, .ref st, .ref sh, .ref wy], ob_J nd 1 [.int (nI sz), .ref kp, .ref ct, .ref sa, .ref la, .ref fz], ob_J st 2 [.ref wt, .ref rw, .ref al, .ref br, .ref fx], ar_I wt cI 808 fwt, ar_I al cI 101 fal] := hD
  have w_2 : r_2 = if 0 ≤ q ∧ q ≤ nI hh then 1 else 0 := w_2
  by_cases h_2 : 0 ≤ q ∧ q ≤ nI hh
  · rw [if_pos h_2] at w_2; subst w_2
    obtain ⟨iq, h_iq, rfl⟩ : ∃ z : Nat, z < (hh + 1) ∧ q = nI z := ix_hs (by omega) h_2
    have t_iq := tn_nI (n := iq) (by omega)
    refine lv_if_ne (tgt := 10) hx hb dX5_weight_5 (by decide) (fun _ => ?_) (fun h9 => absurd h9 (by decide))
    refine lv_iload_n hx hb dX5_weight_10 rfl (lv_at hl 1 rfl) ?_
    refine lv_iconst (v := (-1)) hx hb dX5_weight_11 (by decide) ?_
    refine lv_icmp_ne (tgt := 25) hx hb dX5_weight_12 (by decide) (fun c_12 => ?_) (fun c_12 => ?_)
    · refine lv_aload_n hx hb dX5_weight_25 rfl (lv_at hl 0 rfl) ?_
      refine va_get (ci := 5) (v := .ref nd) (C := RX5) (T := TX5) (N := 7) hx hb hts bi_5 hown hK hP 0 rfl rfl 3 (by decide) (hts _ bw_136) (fun _ h9 => h9) rfl dX5_weight_26 ?_
      refine lv_iload_n hx hb dX5_weight_29 rfl (lv_at hl 1 rfl) ?_
      refine ca_VI (rest := []) (wr := [ob_J x 5 [.int (nI hh), .ref rl, .ref bk, .ref nd, .ref st, .ref sh, .ref wy], ob_J st 2 [.ref wt, .ref rw, .ref al, .ref br, .ref fx], ar_I wt cI 808 fwt, ar_I al cI 101 fal]) (w2 := fun u_u => [ob_J x 5 [.int (nI hh), .ref rl, .ref bk, .ref nd, .ref st, .ref sh, .ref wy], ob_J nd 1 [.int (nI sz), .ref kp, .ref ct, .ref sa, .ref la, .ref fz], ob_J st 2 [.ref wt, .ref rw, .ref al, .ref br, .ref fx], ar_I wt cI 808 fwt, ar_I al cI 101 fal]) (k_X1_has l D cI cJ cZ nd sz kp ct sa la fz n ) hx hb hml hown hts hN hK hA hP hD hS 1 0 rfl rfl bw_190 bw_191 bw_192 bw_3 bw_193 1 rfl (by decide +kernel) ⟨by decide, by decide⟩ [1] [0, 2, 3, 4] [0, 4, 1, 2, 3] rfl rfl (by decide) (fun _ => rfl) hl.1 rfl (Nat.le_of_ble_eq_true rfl) dX5_weight_30 ⟨Nat.zero_le _, Nat.zero_le _⟩ (fun r_30 u_u H locs w_30 hP hD hS => ?_)
      have hP : va_P D cl_A [ob_J x 5 [.int (nI hh), .ref rl, .ref bk, .ref nd, .ref st, .ref sh, .ref wy], ob_J nd 1 [.int (nI sz), .ref kp, .ref ct, .ref sa, .ref la, .ref fz], ob_J st 2 [.ref wt, .ref rw, .ref al, .ref br, .ref fx], ar_I wt cI 808 fwt, ar_I al cI 101 fal] H := hP
      have hD : va_D A [ob_J x 5 [.int (nI hh), .ref rl, .ref bk, .ref nd, .ref st, .ref sh, .ref wy], ob_J nd 1 [.int (nI sz), .ref kp, .ref ct, .ref sa, .ref la, .ref fz], ob_J st 2 [.ref wt, .ref rw, .ref al, .ref br, .ref fx], ar_I wt cI 808 fwt, ar_I al cI 101 fal] := hD
      have w_30 : r_30 = if 0 ≤ n ∧ n < nI sz then 1 else 0 := w_30
      by_cases h_30 : 0 ≤ n ∧ n < nI sz
      · rw [if_pos h_30] at w_30; subst w_30
        obtain ⟨jn, h_jn, rfl⟩ : ∃ z : Nat, z < sz ∧ n = nI z := ix_lt (by omega) h_30
        have t_jn := tn_nI (n := jn) (by omega)
        refine lv_if_eq (tgt := 52) hx hb dX5_weight_33 (by decide) (fun h9 => absurd h9 (by decide)) (fun _ => ?_)
        refine lv_aload_n hx hb dX5_weight_36 rfl (lv_at hl 0 rfl) ?_
        refine va_get (ci := 5) (v := .ref st) (C := RX5) (T := TX5) (N := 7) hx hb hts bi_5 hown hK hP 0 rfl rfl 4 (by decide) (hts _ bw_137) (fun _ h9 => h9) rfl dX5_weight_37 ?_
        refine va_get (ci := 2) (v := .ref wt) (C := RX2) (T := TX2) (N := 5) hx hb hts bi_2 hown hK hP 2 rfl rfl 0 (by decide) (hts _ bw_84) (fun _ h9 => h9) rfl dX5_weight_40 ?_
        refine lv_iload_n hx hb dX5_weight_43 rfl (lv_at hl 2 rfl) ?_
        refine lv_iload_n hx hb dX5_weight_44 rfl (lv_at hl 1 rfl) ?_
        refine ca_SI (rest := [.ref wt]) (k_X5_setPlace l D cI cJ cZ iq jn ) hx hb hml hown hts hN hK hA hP hD hS bw_228 bw_229 bw_1 bw_230 2 rfl (by decide +kernel) ⟨by decide, by decide⟩ hl.1 rfl (Nat.le_of_ble_eq_true rfl) dX5_weight_45 ⟨Nat.zero_le _, Nat.zero_le _⟩ (fun r_45 u_u H locs w_45 hP hD hS => ?_)
        have w_45 : r_45 = nI (iq * 8 + jn) := w_45
        subst w_45
        refine ar_ld hx hb hK hP 3 (k := iq * 8 + jn) rfl rfl (by omega) (by decide) dX5_weight_48 ?_
        refine lv_goto (tgt := 53) hx hb dX5_weight_49 (by decide) ?_
        exact re_I (w1 := fun u_u : Unit => [ob_J x 5 [.int (nI hh), .ref rl, .ref bk, .ref nd, .ref st, .ref sh, .ref wy], ob_J nd 1 [.int (nI sz), .ref kp, .ref ct, .ref sa, .ref la, .ref fz], ob_J st 2 [.ref wt, .ref rw, .ref al, .ref br, .ref fx], ar_I wt cI 808 fwt, ar_I al cI 101 fal]) (v := fwt (iq * 8 + jn)) hx hb hr hlk hK hS rfl () hP hD (show fwt (iq * 8 + jn) = rr_weight hh sz fwt fal (nI jn) (nI iq) from by simp [rr_weight, hs_P, hn_P, h_2, t_iq, c_12, h_30, t_jn]) dX5_weight_53
      · rw [if_neg h_30] at w_30; subst w_30
        refine lv_if_eq (tgt := 52) hx hb dX5_weight_33 (by decide) (fun _ => ?_) (fun h9 => absurd (by decide) h9)
        refine lv_iconst (v := (-1)) hx hb dX5_weight_52 (by decide) ?_
        exact re_I (w1 := fun u_u : Unit => [ob_J x 5 [.int (nI hh), .ref rl, .ref bk, .ref nd, .ref st, .ref sh, .ref wy], ob_J nd 1 [.int (nI sz), .ref kp, .ref ct, .ref sa, .ref la, .ref fz], ob_J st 2 [.ref wt, .ref rw, .ref al, .ref br, .ref fx], ar_I wt cI 808 fwt, ar_I al cI 101 fal]) (v := (-1)) hx hb hr hlk hK hS rfl () hP hD (show (-1) = rr_weight hh sz fwt fal n (nI iq) from by simp [rr_weight, hs_P, hn_P, h_2, t_iq, c_12, h_30]) dX5_weight_53
    · refine lv_aload_n hx hb dX5_weight_15 rfl (lv_at hl 0 rfl) ?_
      refine va_get (ci := 5) (v := .ref st) (C := RX5) (T := TX5) (N := 7) hx hb hts bi_5 hown hK hP 0 rfl rfl 4 (by decide) (hts _ bw_137) (fun _ h9 => h9) rfl dX5_weight_16 ?_
      refine va_get (ci := 2) (v := .ref al) (C := RX2) (T := TX2) (N := 5) hx hb hts bi_2 hown hK hP 2 rfl rfl 2 (by decide) (hts _ bw_88) (fun _ h9 => h9) rfl dX5_weight_19 ?_
      refine lv_iload_n hx hb dX5_weight_22 rfl (lv_at hl 2 rfl) ?_
      refine ar_ld hx hb hK hP 4 (k := iq) rfl rfl (by omega) (by decide) dX5_weight_23 ?_
      exact re_I (w1 := fun u_u : Unit => [ob_J x 5 [.int (nI hh), .ref rl, .ref bk, .ref nd, .ref st, .ref sh, .ref wy], ob_J nd 1 [.int (nI sz), .ref kp, .ref ct, .ref sa, .ref la, .ref fz], ob_J st 2 [.ref wt, .ref rw, .ref al, .ref br, .ref fx], ar_I wt cI 808 fwt, ar_I al cI 101 fal]) (v := fal iq) hx hb hr hlk hK hS rfl () hP hD (show fal iq = rr_weight hh sz fwt fal n (nI iq) from by simp [rr_weight, hs_P, hn_P, h_2, t_iq, c_12]) dX5_weight_24
  · rw [if_neg h_2] at w_2; subst w_2
    refine lv_if_ne (tgt := 10) hx hb dX5_weight_5 (by decide) (fun h9 => absurd (by decide) h9) (fun _ => ?_)
    refine lv_iconst (v := (-1)) hx hb dX5_weight_8 (by decide) ?_
    exact re_I (w1 := fun u_u : Unit => [ob_J x 5 [.int (nI hh), .ref rl, .ref bk, .ref nd, .ref st, .ref sh, .ref wy], ob_J nd 1 [.int (nI sz), .ref kp, .ref ct, .ref sa, .ref la, .ref fz], ob_J st 2 [.ref wt, .ref rw, .ref al, .ref br, .ref fx], ar_I wt cI 808 fwt, ar_I al cI 101 fal]) (v := (-1)) hx hb hr hlk hK hS rfl () hP hD (show (-1) = rr_weight hh sz fwt fal n q from by simp [rr_weight, hs_P, hn_P, h_2]) dX5_weight_9

set_option maxHeartbeats 4000000 in
set_option maxRecDepth 100000 in
theorem k_X5_reward (l : Launch) (D : va_G) (cI cJ cZ : ClassId) (x : Nat) (nd : Nat) (st : Nat) (rw : Nat) (hh : Nat) (rl : Nat) (bk : Nat) (sh : Nat) (wy : Nat) (sz : Nat) (kp : Nat) (ct : Nat) (sa : Nat) (la : Nat) (fz : Nat) (wt : Nat) (al : Nat) (br : Nat) (fx : Nat) (frw : Nat → Int32) (n : Int32) (q : Int32) (hsz : sz ≤ 8) (hhh : hh ≤ 100) : mt_I l yX5_reward cX5_reward 3 .int 2 44 D cI cJ cZ [ob_J x 5 [.int (nI hh), .ref rl, .ref bk, .ref nd, .ref st, .ref sh, .ref wy], ob_J nd 1 [.int (nI sz), .ref kp, .ref ct, .ref sa, .ref la, .ref fz], ob_J st 2 [.ref wt, .ref rw, .ref al, .ref br, .ref fx], ar_I rw cI 808 frw] [.ref x, .int n, .int q] (fun r (u_u : Unit) => r = rr_reward hh sz frw n q) (fun u_u : Unit => [ob_J x 5 [.int (nI hh), .ref rl, .ref bk, .ref nd, .ref st, .ref sh, .ref wy], ob_J nd 1 [.int (nI sz), .ref kp, .ref ct, .ref sa, .ref la, .ref fz], ob_J st 2 [.ref wt, .ref rw, .ref al, .ref br, .ref fx], ar_I rw cI 808 frw]) := by
  refine en_I (by decide) (Nat.le_of_ble_eq_true rfl) ?_
  intro p e s m below meth c A ls H locs hx hb hr hml hts hown hlk hN hK hA hP hD hS hl
  have hown : s.vm.findClass RX5 = some m.cls := hown
  have hl : lv_has ls 3 [(0, .ref x), (1, .int n), (2, .int q)] := hl
  refine lv_iload_n hx hb dX5_reward_0 rfl (lv_at hl 2 rfl) ?_
  refine lv_iconst (v := 0) hx hb dX5_reward_1 (by decide) ?_
  refine lv_aload_n hx hb dX5_reward_2 rfl (lv_at hl 0 rfl) ?_
  refine va_get (ci := 5) (v := .int (nI hh)) (C := RX5) (T := TX5) (N := 7) hx hb hts bi_5 hown hK hP 0 rfl rfl 0 (by decide) (hts _ bw_133) (fun _ h9 => h9) rfl dX5_reward_3 ?_
  refine lv_iconst (v := 1) hx hb dX5_reward_6 (by decide) ?_
  refine lv_isub hx hb dX5_reward_7 ?_
  refine ca_SI (rest := []) (k_X5_isWithin l D cI cJ cZ q 0 ((nI hh) - 1) ) hx hb hml hown hts hN hK hA hP hD hS bw_163 bw_164 bw_1 bw_165 3 rfl (by decide +kernel) ⟨by decide, by decide⟩ hl.1 rfl (Nat.le_of_ble_eq_true rfl) dX5_reward_8 ⟨Nat.zero_le _, Nat.zero_le _⟩ (fun r_8 u_u H locs w_8 hP hD hS => ?_)
  have w_8 : r_8 = if 0 ≤ q ∧ q ≤ ((nI hh) - 1) then 1 else 0 := w_8
  by_cases h_8 : 0 ≤ q ∧ q ≤ ((nI hh) - 1)
  · rw [if_pos h_8] at w_8; subst w_8
    obtain ⟨iq, h_iq, rfl⟩ : ∃ z : Nat, z < hh ∧ q = nI z := ix_m1 (by omega) h_8
    have t_iq := tn_nI (n := iq) (by omega)
    refine lv_if_ne (tgt := 16) hx hb dX5_reward_11 (by decide) (fun _ => ?_) (fun h9 => absurd h9 (by decide))
    refine lv_iload_n hx hb dX5_reward_16 rfl (lv_at hl 1 rfl) ?_
    refine lv_iconst (v := (-1)) hx hb dX5_reward_17 (by decide) ?_
    refine lv_icmp_ne (tgt := 30) hx hb dX5_reward_18 (by decide) (fun c_18 => ?_) (fun c_18 => ?_)
    · refine lv_aload_n hx hb dX5_reward_30 rfl (lv_at hl 0 rfl) ?_
      refine va_get (ci := 5) (v := .ref nd) (C := RX5) (T := TX5) (N := 7) hx hb hts bi_5 hown hK hP 0 rfl rfl 3 (by decide) (hts _ bw_136) (fun _ h9 => h9) rfl dX5_reward_31 ?_
      refine lv_iload_n hx hb dX5_reward_34 rfl (lv_at hl 1 rfl) ?_
      refine ca_VI (rest := []) (wr := [ob_J x 5 [.int (nI hh), .ref rl, .ref bk, .ref nd, .ref st, .ref sh, .ref wy], ob_J st 2 [.ref wt, .ref rw, .ref al, .ref br, .ref fx], ar_I rw cI 808 frw]) (w2 := fun u_u => [ob_J x 5 [.int (nI hh), .ref rl, .ref bk, .ref nd, .ref st, .ref sh, .ref wy], ob_J nd 1 [.int (nI sz), .ref kp, .ref ct, .ref sa, .ref la, .ref fz], ob_J st 2 [.ref wt, .ref rw, .ref al, .ref br, .ref fx], ar_I rw cI 808 frw]) (k_X1_has l D cI cJ cZ nd sz kp ct sa la fz n ) hx hb hml hown hts hN hK hA hP hD hS 1 0 rfl rfl bw_190 bw_191 bw_192 bw_3 bw_193 1 rfl (by decide +kernel) ⟨by decide, by decide⟩ [1] [0, 2, 3] [0, 3, 1, 2] rfl rfl (by decide) (fun _ => rfl) hl.1 rfl (Nat.le_of_ble_eq_true rfl) dX5_reward_35 ⟨Nat.zero_le _, Nat.zero_le _⟩ (fun r_35 u_u H locs w_35 hP hD hS => ?_)
      have hP : va_P D cl_A [ob_J x 5 [.int (nI hh), .ref rl, .ref bk, .ref nd, .ref st, .ref sh, .ref wy], ob_J nd 1 [.int (nI sz), .ref kp, .ref ct, .ref sa, .ref la, .ref fz], ob_J st 2 [.ref wt, .ref rw, .ref al, .ref br, .ref fx], ar_I rw cI 808 frw] H := hP
      have hD : va_D A [ob_J x 5 [.int (nI hh), .ref rl, .ref bk, .ref nd, .ref st, .ref sh, .ref wy], ob_J nd 1 [.int (nI sz), .ref kp, .ref ct, .ref sa, .ref la, .ref fz], ob_J st 2 [.ref wt, .ref rw, .ref al, .ref br, .ref fx], ar_I rw cI 808 frw] := hD
      have w_35 : r_35 = if 0 ≤ n ∧ n < nI sz then 1 else 0 := w_35
      by_cases h_35 : 0 ≤ n ∧ n < nI sz
      · rw [if_pos h_35] at w_35; subst w_35
        obtain ⟨jn, h_jn, rfl⟩ : ∃ z : Nat, z < sz ∧ n = nI z := ix_lt (by omega) h_35
        have t_jn := tn_nI (n := jn) (by omega)
        refine lv_if_eq (tgt := 57) hx hb dX5_reward_38 (by decide) (fun h9 => absurd h9 (by decide)) (fun _ => ?_)
        refine lv_aload_n hx hb dX5_reward_41 rfl (lv_at hl 0 rfl) ?_
        refine va_get (ci := 5) (v := .ref st) (C := RX5) (T := TX5) (N := 7) hx hb hts bi_5 hown hK hP 0 rfl rfl 4 (by decide) (hts _ bw_137) (fun _ h9 => h9) rfl dX5_reward_42 ?_
        refine va_get (ci := 2) (v := .ref rw) (C := RX2) (T := TX2) (N := 5) hx hb hts bi_2 hown hK hP 2 rfl rfl 1 (by decide) (hts _ bw_86) (fun _ h9 => h9) rfl dX5_reward_45 ?_
        refine lv_iload_n hx hb dX5_reward_48 rfl (lv_at hl 2 rfl) ?_
        refine lv_iload_n hx hb dX5_reward_49 rfl (lv_at hl 1 rfl) ?_
        refine ca_SI (rest := [.ref rw]) (k_X5_setPlace l D cI cJ cZ iq jn ) hx hb hml hown hts hN hK hA hP hD hS bw_228 bw_229 bw_1 bw_230 2 rfl (by decide +kernel) ⟨by decide, by decide⟩ hl.1 rfl (Nat.le_of_ble_eq_true rfl) dX5_reward_50 ⟨Nat.zero_le _, Nat.zero_le _⟩ (fun r_50 u_u H locs w_50 hP hD hS => ?_)
        have w_50 : r_50 = nI (iq * 8 + jn) := w_50
        subst w_50
        refine ar_ld hx hb hK hP 3 (k := iq * 8 + jn) rfl rfl (by omega) (by decide) dX5_reward_53 ?_
        refine lv_goto (tgt := 58) hx hb dX5_reward_54 (by decide) ?_
        exact re_I (w1 := fun u_u : Unit => [ob_J x 5 [.int (nI hh), .ref rl, .ref bk, .ref nd, .ref st, .ref sh, .ref wy], ob_J nd 1 [.int (nI sz), .ref kp, .ref ct, .ref sa, .ref la, .ref fz], ob_J st 2 [.ref wt, .ref rw, .ref al, .ref br, .ref fx], ar_I rw cI 808 frw]) (v := frw (iq * 8 + jn)) hx hb hr hlk hK hS rfl () hP hD (show frw (iq * 8 + jn) = rr_reward hh sz frw (nI jn) (nI iq) from by simp [rr_reward, hn_P, h_8, t_iq, c_18, h_35, t_jn]) dX5_reward_58
      · rw [if_neg h_35] at w_35; subst w_35
        refine lv_if_eq (tgt := 57) hx hb dX5_reward_38 (by decide) (fun _ => ?_) (fun h9 => absurd (by decide) h9)
        refine lv_iconst (v := (-1)) hx hb dX5_reward_57 (by decide) ?_
        exact re_I (w1 := fun u_u : Unit => [ob_J x 5 [.int (nI hh), .ref rl, .ref bk, .ref nd, .ref st, .ref sh, .ref wy], ob_J nd 1 [.int (nI sz), .ref kp, .ref ct, .ref sa, .ref la, .ref fz], ob_J st 2 [.ref wt, .ref rw, .ref al, .ref br, .ref fx], ar_I rw cI 808 frw]) (v := (-1)) hx hb hr hlk hK hS rfl () hP hD (show (-1) = rr_reward hh sz frw n (nI iq) from by simp [rr_reward, hn_P, h_8, t_iq, c_18, h_35]) dX5_reward_58
    · refine lv_aload_n hx hb dX5_reward_21 rfl (lv_at hl 0 rfl) ?_
      refine va_get (ci := 5) (v := .ref st) (C := RX5) (T := TX5) (N := 7) hx hb hts bi_5 hown hK hP 0 rfl rfl 4 (by decide) (hts _ bw_137) (fun _ h9 => h9) rfl dX5_reward_22 ?_
      refine lv_iload_n hx hb dX5_reward_25 rfl (lv_at hl 2 rfl) ?_
      refine ca_VI (rest := []) (wr := [ob_J x 5 [.int (nI hh), .ref rl, .ref bk, .ref nd, .ref st, .ref sh, .ref wy], ob_J nd 1 [.int (nI sz), .ref kp, .ref ct, .ref sa, .ref la, .ref fz]]) (w2 := fun u_u => [ob_J x 5 [.int (nI hh), .ref rl, .ref bk, .ref nd, .ref st, .ref sh, .ref wy], ob_J nd 1 [.int (nI sz), .ref kp, .ref ct, .ref sa, .ref la, .ref fz], ob_J st 2 [.ref wt, .ref rw, .ref al, .ref br, .ref fx], ar_I rw cI 808 frw]) (k_X2_rewardsOf l D cI cJ cZ st rw wt al br fx frw iq (by first | assumption | omega)) hx hb hml hown hts hN hK hA hP hD hS 2 0 rfl rfl bw_317 bw_318 bw_319 bw_4 bw_320 1 rfl (by decide +kernel) ⟨by decide, by decide⟩ [2, 3] [0, 1] [0, 1, 2, 3] rfl rfl (by decide) (fun _ => rfl) hl.1 rfl (Nat.le_of_ble_eq_true rfl) dX5_reward_26 ⟨Nat.zero_le _, Nat.zero_le _⟩ (fun r_26 u_u H locs w_26 hP hD hS => ?_)
      have hP : va_P D cl_A [ob_J x 5 [.int (nI hh), .ref rl, .ref bk, .ref nd, .ref st, .ref sh, .ref wy], ob_J nd 1 [.int (nI sz), .ref kp, .ref ct, .ref sa, .ref la, .ref fz], ob_J st 2 [.ref wt, .ref rw, .ref al, .ref br, .ref fx], ar_I rw cI 808 frw] H := hP
      have hD : va_D A [ob_J x 5 [.int (nI hh), .ref rl, .ref bk, .ref nd, .ref st, .ref sh, .ref wy], ob_J nd 1 [.int (nI sz), .ref kp, .ref ct, .ref sa, .ref la, .ref fz], ob_J st 2 [.ref wt, .ref rw, .ref al, .ref br, .ref fx], ar_I rw cI 808 frw] := hD
      have w_26 : r_26 = sI_ (fun n => frw (iq * 8 + n)) 8 := w_26
      subst w_26
      exact re_I (w1 := fun u_u : Unit => [ob_J x 5 [.int (nI hh), .ref rl, .ref bk, .ref nd, .ref st, .ref sh, .ref wy], ob_J nd 1 [.int (nI sz), .ref kp, .ref ct, .ref sa, .ref la, .ref fz], ob_J st 2 [.ref wt, .ref rw, .ref al, .ref br, .ref fx], ar_I rw cI 808 frw]) (v := sI_ (fun n => frw (iq * 8 + n)) 8) hx hb hr hlk hK hS rfl () hP hD (show sI_ (fun n => frw (iq * 8 + n)) 8 = rr_reward hh sz frw n (nI iq) from by simp [rr_reward, hn_P, h_8, t_iq, c_18]) dX5_reward_29
  · rw [if_neg h_8] at w_8; subst w_8
    refine lv_if_ne (tgt := 16) hx hb dX5_reward_11 (by decide) (fun h9 => absurd (by decide) h9) (fun _ => ?_)
    refine lv_iconst (v := (-1)) hx hb dX5_reward_14 (by decide) ?_
    exact re_I (w1 := fun u_u : Unit => [ob_J x 5 [.int (nI hh), .ref rl, .ref bk, .ref nd, .ref st, .ref sh, .ref wy], ob_J nd 1 [.int (nI sz), .ref kp, .ref ct, .ref sa, .ref la, .ref fz], ob_J st 2 [.ref wt, .ref rw, .ref al, .ref br, .ref fx], ar_I rw cI 808 frw]) (v := (-1)) hx hb hr hlk hK hS rfl () hP hD (show (-1) = rr_reward hh sz frw n q from by simp [rr_reward, hn_P, h_8]) dX5_reward_15

set_option maxHeartbeats 4000000 in
set_option maxRecDepth 100000 in
theorem k_X5_judge (l : Launch) (D : va_G) (cI cJ cZ : ClassId) (x : Nat) (nd : Nat) (st : Nat) (wt : Nat) (al : Nat) (hh : Nat) (rl : Nat) (bk : Nat) (sh : Nat) (wy : Nat) (sz : Nat) (kp : Nat) (ct : Nat) (sa : Nat) (la : Nat) (fz : Nat) (rw : Nat) (br : Nat) (fx : Nat) (fwt : Nat → Int32) (fal : Nat → Int32) (q : Int32) (bits : Int32) (hsz : sz ≤ 8) (hhh : hh ≤ 100) : mt_I l yX5_judge cX5_judge 3 .int 3 67 D cI cJ cZ [ob_J x 5 [.int (nI hh), .ref rl, .ref bk, .ref nd, .ref st, .ref sh, .ref wy], ob_J nd 1 [.int (nI sz), .ref kp, .ref ct, .ref sa, .ref la, .ref fz], ob_J st 2 [.ref wt, .ref rw, .ref al, .ref br, .ref fx], ar_I wt cI 808 fwt, ar_I al cI 101 fal] [.ref x, .int q, .int bits] (fun r (u_u : Unit) => r = rr_judge hh sz fwt fal q bits) (fun u_u : Unit => [ob_J x 5 [.int (nI hh), .ref rl, .ref bk, .ref nd, .ref st, .ref sh, .ref wy], ob_J nd 1 [.int (nI sz), .ref kp, .ref ct, .ref sa, .ref la, .ref fz], ob_J st 2 [.ref wt, .ref rw, .ref al, .ref br, .ref fx], ar_I wt cI 808 fwt, ar_I al cI 101 fal]) := by
  refine en_I (by decide) (Nat.le_of_ble_eq_true rfl) ?_
  intro p e s m below meth c A ls H locs hx hb hr hml hts hown hlk hN hK hA hP hD hS hl
  have hown : s.vm.findClass RX5 = some m.cls := hown
  have hl : lv_has ls 3 [(0, .ref x), (1, .int q), (2, .int bits)] := hl
  refine lv_aload_n hx hb dX5_judge_0 rfl (lv_at hl 0 rfl) ?_
  refine lv_iload_n hx hb dX5_judge_1 rfl (lv_at hl 1 rfl) ?_
  refine ca_VI (rest := []) (wr := [ob_J nd 1 [.int (nI sz), .ref kp, .ref ct, .ref sa, .ref la, .ref fz], ob_J st 2 [.ref wt, .ref rw, .ref al, .ref br, .ref fx], ar_I wt cI 808 fwt, ar_I al cI 101 fal]) (w2 := fun u_u => [ob_J x 5 [.int (nI hh), .ref rl, .ref bk, .ref nd, .ref st, .ref sh, .ref wy], ob_J nd 1 [.int (nI sz), .ref kp, .ref ct, .ref sa, .ref la, .ref fz], ob_J st 2 [.ref wt, .ref rw, .ref al, .ref br, .ref fx], ar_I wt cI 808 fwt, ar_I al cI 101 fal]) (k_X5_hasSet l D cI cJ cZ x hh rl bk nd st sh wy q ) hx hb hml hown hts hN hK hA hP hD hS 5 0 rfl rfl bw_309 bw_311 bs_6 bw_1 bw_312 1 rfl (by decide +kernel) ⟨by decide, by decide⟩ [0] [1, 2, 3, 4] [4, 0, 1, 2, 3] rfl rfl (by decide) (fun _ => rfl) hl.1 rfl (Nat.le_of_ble_eq_true rfl) dX5_judge_2 ⟨Nat.zero_le _, Nat.zero_le _⟩ (fun r_2 u_u H locs w_2 hP hD hS => ?_)
  have hP : va_P D cl_A [ob_J x 5 [.int (nI hh), .ref rl, .ref bk, .ref nd, .ref st, .ref sh, .ref wy], ob_J nd 1 [.int (nI sz), .ref kp, .ref ct, .ref sa, .ref la, .ref fz], ob_J st 2 [.ref wt, .ref rw, .ref al, .ref br, .ref fx], ar_I wt cI 808 fwt, ar_I al cI 101 fal] H := hP
  have hD : va_D A [ob_J x 5 [.int (nI hh), .ref rl, .ref bk, .ref nd, .ref st, .ref sh, .ref wy], ob_J nd 1 [.int (nI sz), .ref kp, .ref ct, .ref sa, .ref la, .ref fz], ob_J st 2 [.ref wt, .ref rw, .ref al, .ref br, .ref fx], ar_I wt cI 808 fwt, ar_I al cI 101 fal] := hD
  have w_2 : r_2 = if 0 ≤ q ∧ q ≤ nI hh then 1 else 0 := w_2
  by_cases h_2 : 0 ≤ q ∧ q ≤ nI hh
  · rw [if_pos h_2] at w_2; subst w_2
    obtain ⟨iq, h_iq, rfl⟩ : ∃ z : Nat, z < (hh + 1) ∧ q = nI z := ix_hs (by omega) h_2
    have t_iq := tn_nI (n := iq) (by omega)
    refine lv_if_eq (tgt := 19) hx hb dX5_judge_5 (by decide) (fun h9 => absurd h9 (by decide)) (fun _ => ?_)
    refine lv_aload_n hx hb dX5_judge_8 rfl (lv_at hl 0 rfl) ?_
    refine va_get (ci := 5) (v := .ref nd) (C := RX5) (T := TX5) (N := 7) hx hb hts bi_5 hown hK hP 0 rfl rfl 3 (by decide) (hts _ bw_136) (fun _ h9 => h9) rfl dX5_judge_9 ?_
    refine lv_iload_n hx hb dX5_judge_12 rfl (lv_at hl 2 rfl) ?_
    refine ca_VI (rest := []) (wr := [ob_J x 5 [.int (nI hh), .ref rl, .ref bk, .ref nd, .ref st, .ref sh, .ref wy], ob_J st 2 [.ref wt, .ref rw, .ref al, .ref br, .ref fx], ar_I wt cI 808 fwt, ar_I al cI 101 fal]) (w2 := fun u_u => [ob_J x 5 [.int (nI hh), .ref rl, .ref bk, .ref nd, .ref st, .ref sh, .ref wy], ob_J nd 1 [.int (nI sz), .ref kp, .ref ct, .ref sa, .ref la, .ref fz], ob_J st 2 [.ref wt, .ref rw, .ref al, .ref br, .ref fx], ar_I wt cI 808 fwt, ar_I al cI 101 fal]) (k_X1_haveAll l D cI cJ cZ nd sz kp ct sa la fz bits ) hx hb hml hown hts hN hK hA hP hD hS 1 0 rfl rfl bw_325 bw_326 bw_327 bw_3 bw_328 1 rfl (by decide +kernel) ⟨by decide, by decide⟩ [1] [0, 2, 3, 4] [0, 4, 1, 2, 3] rfl rfl (by decide) (fun _ => rfl) hl.1 rfl (Nat.le_of_ble_eq_true rfl) dX5_judge_13 ⟨Nat.zero_le _, Nat.zero_le _⟩ (fun r_13 u_u H locs w_13 hP hD hS => ?_)
    have hP : va_P D cl_A [ob_J x 5 [.int (nI hh), .ref rl, .ref bk, .ref nd, .ref st, .ref sh, .ref wy], ob_J nd 1 [.int (nI sz), .ref kp, .ref ct, .ref sa, .ref la, .ref fz], ob_J st 2 [.ref wt, .ref rw, .ref al, .ref br, .ref fx], ar_I wt cI 808 fwt, ar_I al cI 101 fal] H := hP
    have hD : va_D A [ob_J x 5 [.int (nI hh), .ref rl, .ref bk, .ref nd, .ref st, .ref sh, .ref wy], ob_J nd 1 [.int (nI sz), .ref kp, .ref ct, .ref sa, .ref la, .ref fz], ob_J st 2 [.ref wt, .ref rw, .ref al, .ref br, .ref fx], ar_I wt cI 808 fwt, ar_I al cI 101 fal] := hD
    have w_13 : r_13 = if (bits.toUInt32 >>> ((nI sz).toUInt32 &&& Int32.toUInt32 31)).toInt32 = 0 then 1 else 0 := w_13
    by_cases h_13 : (bits.toUInt32 >>> ((nI sz).toUInt32 &&& Int32.toUInt32 31)).toInt32 = 0
    · rw [if_pos h_13] at w_13; subst w_13
      obtain ⟨ib, h_ib, rfl⟩ : ∃ z : Nat, z < 256 ∧ bits = nI z := ix_ha hsz h_13
      have t_ib := tn_nI (n := ib) (by omega)
      refine lv_if_ne (tgt := 21) hx hb dX5_judge_16 (by decide) (fun _ => ?_) (fun h9 => absurd h9 (by decide))
      refine lv_aload_n hx hb dX5_judge_21 rfl (lv_at hl 0 rfl) ?_
      refine va_get (ci := 5) (v := .ref st) (C := RX5) (T := TX5) (N := 7) hx hb hts bi_5 hown hK hP 0 rfl rfl 4 (by decide) (hts _ bw_137) (fun _ h9 => h9) rfl dX5_judge_22 ?_
      refine lv_iload_n hx hb dX5_judge_25 rfl (lv_at hl 1 rfl) ?_
      refine lv_iload_n hx hb dX5_judge_26 rfl (lv_at hl 2 rfl) ?_
      refine ca_VI (rest := []) (wr := [ob_J x 5 [.int (nI hh), .ref rl, .ref bk, .ref nd, .ref st, .ref sh, .ref wy], ob_J nd 1 [.int (nI sz), .ref kp, .ref ct, .ref sa, .ref la, .ref fz]]) (w2 := fun u_u => [ob_J x 5 [.int (nI hh), .ref rl, .ref bk, .ref nd, .ref st, .ref sh, .ref wy], ob_J nd 1 [.int (nI sz), .ref kp, .ref ct, .ref sa, .ref la, .ref fz], ob_J st 2 [.ref wt, .ref rw, .ref al, .ref br, .ref fx], ar_I wt cI 808 fwt, ar_I al cI 101 fal]) (k_X2_isGood l D cI cJ cZ st wt al rw br fx fwt fal iq ib (by first | assumption | omega) (by first | assumption | omega)) hx hb hml hown hts hN hK hA hP hD hS 2 0 rfl rfl bw_329 bw_330 bw_331 bw_4 bw_332 2 rfl (by decide +kernel) ⟨by decide, by decide⟩ [2, 3, 4] [0, 1] [0, 1, 2, 3, 4] rfl rfl (by decide) (fun _ => rfl) hl.1 rfl (Nat.le_of_ble_eq_true rfl) dX5_judge_27 ⟨Nat.zero_le _, Nat.zero_le _⟩ (fun r_27 u_u H locs w_27 hP hD hS => ?_)
      have hP : va_P D cl_A [ob_J x 5 [.int (nI hh), .ref rl, .ref bk, .ref nd, .ref st, .ref sh, .ref wy], ob_J nd 1 [.int (nI sz), .ref kp, .ref ct, .ref sa, .ref la, .ref fz], ob_J st 2 [.ref wt, .ref rw, .ref al, .ref br, .ref fx], ar_I wt cI 808 fwt, ar_I al cI 101 fal] H := hP
      have hD : va_D A [ob_J x 5 [.int (nI hh), .ref rl, .ref bk, .ref nd, .ref st, .ref sh, .ref wy], ob_J nd 1 [.int (nI sz), .ref kp, .ref ct, .ref sa, .ref la, .ref fz], ob_J st 2 [.ref wt, .ref rw, .ref al, .ref br, .ref fx], ar_I wt cI 808 fwt, ar_I al cI 101 fal] := hD
      have w_27 : r_27 = if 2 * fal iq < 3 * wo_ fwt iq ib 8 then 1 else 0 := w_27
      by_cases h_27 : 2 * fal iq < 3 * wo_ fwt iq ib 8
      · rw [if_pos h_27] at w_27; subst w_27
        refine lv_if_eq (tgt := 37) hx hb dX5_judge_30 (by decide) (fun h9 => absurd h9 (by decide)) (fun _ => ?_)
        refine lv_iconst (v := 1) hx hb dX5_judge_33 (by decide) ?_
        refine lv_goto (tgt := 38) hx hb dX5_judge_34 (by decide) ?_
        exact re_I (w1 := fun u_u : Unit => [ob_J x 5 [.int (nI hh), .ref rl, .ref bk, .ref nd, .ref st, .ref sh, .ref wy], ob_J nd 1 [.int (nI sz), .ref kp, .ref ct, .ref sa, .ref la, .ref fz], ob_J st 2 [.ref wt, .ref rw, .ref al, .ref br, .ref fx], ar_I wt cI 808 fwt, ar_I al cI 101 fal]) (v := 1) hx hb hr hlk hK hS rfl () hP hD (show 1 = rr_judge hh sz fwt fal (nI iq) (nI ib) from by simp [rr_judge, hs_P, ha_P, h_2, t_iq, h_13, t_ib, h_27]) dX5_judge_38
      · rw [if_neg h_27] at w_27; subst w_27
        refine lv_if_eq (tgt := 37) hx hb dX5_judge_30 (by decide) (fun _ => ?_) (fun h9 => absurd (by decide) h9)
        refine lv_iconst (v := 0) hx hb dX5_judge_37 (by decide) ?_
        exact re_I (w1 := fun u_u : Unit => [ob_J x 5 [.int (nI hh), .ref rl, .ref bk, .ref nd, .ref st, .ref sh, .ref wy], ob_J nd 1 [.int (nI sz), .ref kp, .ref ct, .ref sa, .ref la, .ref fz], ob_J st 2 [.ref wt, .ref rw, .ref al, .ref br, .ref fx], ar_I wt cI 808 fwt, ar_I al cI 101 fal]) (v := 0) hx hb hr hlk hK hS rfl () hP hD (show 0 = rr_judge hh sz fwt fal (nI iq) (nI ib) from by simp [rr_judge, hs_P, ha_P, h_2, t_iq, h_13, t_ib, h_27]) dX5_judge_38
    · rw [if_neg h_13] at w_13; subst w_13
      refine lv_if_ne (tgt := 21) hx hb dX5_judge_16 (by decide) (fun h9 => absurd (by decide) h9) (fun _ => ?_)
      refine lv_iconst (v := (-1)) hx hb dX5_judge_19 (by decide) ?_
      exact re_I (w1 := fun u_u : Unit => [ob_J x 5 [.int (nI hh), .ref rl, .ref bk, .ref nd, .ref st, .ref sh, .ref wy], ob_J nd 1 [.int (nI sz), .ref kp, .ref ct, .ref sa, .ref la, .ref fz], ob_J st 2 [.ref wt, .ref rw, .ref al, .ref br, .ref fx], ar_I wt cI 808 fwt, ar_I al cI 101 fal]) (v := (-1)) hx hb hr hlk hK hS rfl () hP hD (show (-1) = rr_judge hh sz fwt fal (nI iq) bits from by simp [rr_judge, hs_P, ha_P, h_2, t_iq, h_13]) dX5_judge_20
  · rw [if_neg h_2] at w_2; subst w_2
    refine lv_if_eq (tgt := 19) hx hb dX5_judge_5 (by decide) (fun _ => ?_) (fun h9 => absurd (by decide) h9)
    refine lv_iconst (v := (-1)) hx hb dX5_judge_19 (by decide) ?_
    exact re_I (w1 := fun u_u : Unit => [ob_J x 5 [.int (nI hh), .ref rl, .ref bk, .ref nd, .ref st, .ref sh, .ref wy], ob_J nd 1 [.int (nI sz), .ref kp, .ref ct, .ref sa, .ref la, .ref fz], ob_J st 2 [.ref wt, .ref rw, .ref al, .ref br, .ref fx], ar_I wt cI 808 fwt, ar_I al cI 101 fal]) (v := (-1)) hx hb hr hlk hK hS rfl () hP hD (show (-1) = rr_judge hh sz fwt fal q bits from by simp [rr_judge, hs_P, ha_P, h_2]) dX5_judge_20

set_option maxHeartbeats 4000000 in
set_option maxRecDepth 100000 in
theorem k_X5_jump (l : Launch) (D : va_G) (cI cJ cZ : ClassId) (x : Nat) (nd : Nat) (st : Nat) (wt : Nat) (al : Nat) (hh : Nat) (rl : Nat) (bk : Nat) (sh : Nat) (wy : Nat) (sz : Nat) (kp : Nat) (ct : Nat) (sa : Nat) (la : Nat) (fz : Nat) (rw : Nat) (br : Nat) (fx : Nat) (fwt : Nat → Int32) (fal : Nat → Int32) (f : Int32) (t : Int32) (bits : Int32) (hsz : sz ≤ 8) (hhh : hh ≤ 100) : mt_I l yX5_jump cX5_jump 4 .int 4 90 D cI cJ cZ [ob_J x 5 [.int (nI hh), .ref rl, .ref bk, .ref nd, .ref st, .ref sh, .ref wy], ob_J nd 1 [.int (nI sz), .ref kp, .ref ct, .ref sa, .ref la, .ref fz], ob_J st 2 [.ref wt, .ref rw, .ref al, .ref br, .ref fx], ar_I wt cI 808 fwt, ar_I al cI 101 fal] [.ref x, .int f, .int t, .int bits] (fun r (u_u : Unit) => r = rr_jump hh sz fwt fal f t bits) (fun u_u : Unit => [ob_J x 5 [.int (nI hh), .ref rl, .ref bk, .ref nd, .ref st, .ref sh, .ref wy], ob_J nd 1 [.int (nI sz), .ref kp, .ref ct, .ref sa, .ref la, .ref fz], ob_J st 2 [.ref wt, .ref rw, .ref al, .ref br, .ref fx], ar_I wt cI 808 fwt, ar_I al cI 101 fal]) := by
  refine en_I (by decide) (Nat.le_of_ble_eq_true rfl) ?_
  intro p e s m below meth c A ls H locs hx hb hr hml hts hown hlk hN hK hA hP hD hS hl
  have hown : s.vm.findClass RX5 = some m.cls := hown
  have hl : lv_has ls 4 [(0, .ref x), (1, .int f), (2, .int t), (3, .int bits)] := hl
  refine lv_aload_n hx hb dX5_jump_0 rfl (lv_at hl 0 rfl) ?_
  refine lv_iload_n hx hb dX5_jump_1 rfl (lv_at hl 1 rfl) ?_
  refine lv_iload_n hx hb dX5_jump_2 rfl (lv_at hl 2 rfl) ?_
  refine ca_VI (rest := []) (wr := [ob_J nd 1 [.int (nI sz), .ref kp, .ref ct, .ref sa, .ref la, .ref fz], ob_J st 2 [.ref wt, .ref rw, .ref al, .ref br, .ref fx], ar_I wt cI 808 fwt, ar_I al cI 101 fal]) (w2 := fun u_u => [ob_J x 5 [.int (nI hh), .ref rl, .ref bk, .ref nd, .ref st, .ref sh, .ref wy], ob_J nd 1 [.int (nI sz), .ref kp, .ref ct, .ref sa, .ref la, .ref fz], ob_J st 2 [.ref wt, .ref rw, .ref al, .ref br, .ref fx], ar_I wt cI 808 fwt, ar_I al cI 101 fal]) (k_X5_isUpward l D cI cJ cZ x hh rl bk nd st sh wy f t ) hx hb hml hown hts hN hK hA hP hD hS 5 0 rfl rfl bw_341 bw_343 bs_7 bw_1 bw_344 2 rfl (by decide +kernel) ⟨by decide, by decide⟩ [0] [1, 2, 3, 4] [4, 0, 1, 2, 3] rfl rfl (by decide) (fun _ => rfl) hl.1 rfl (Nat.le_of_ble_eq_true rfl) dX5_jump_3 ⟨Nat.zero_le _, Nat.zero_le _⟩ (fun r_3 u_u H locs w_3 hP hD hS => ?_)
  have hP : va_P D cl_A [ob_J x 5 [.int (nI hh), .ref rl, .ref bk, .ref nd, .ref st, .ref sh, .ref wy], ob_J nd 1 [.int (nI sz), .ref kp, .ref ct, .ref sa, .ref la, .ref fz], ob_J st 2 [.ref wt, .ref rw, .ref al, .ref br, .ref fx], ar_I wt cI 808 fwt, ar_I al cI 101 fal] H := hP
  have hD : va_D A [ob_J x 5 [.int (nI hh), .ref rl, .ref bk, .ref nd, .ref st, .ref sh, .ref wy], ob_J nd 1 [.int (nI sz), .ref kp, .ref ct, .ref sa, .ref la, .ref fz], ob_J st 2 [.ref wt, .ref rw, .ref al, .ref br, .ref fx], ar_I wt cI 808 fwt, ar_I al cI 101 fal] := hD
  have w_3 : r_3 = if (0 ≤ f ∧ f ≤ nI hh) ∧ (0 ≤ t ∧ t ≤ nI hh) ∧ f < t then 1 else 0 := w_3
  by_cases h_3 : (0 ≤ f ∧ f ≤ nI hh) ∧ (0 ≤ t ∧ t ≤ nI hh) ∧ f < t
  · rw [if_pos h_3] at w_3; subst w_3
    obtain ⟨kf, h_kf, rfl⟩ : ∃ z : Nat, z < (hh + 1) ∧ f = nI z := ix_hs (by omega) h_3.1
    have t_kf := tn_nI (n := kf) (by omega)
    obtain ⟨kt, h_kt, rfl⟩ : ∃ z : Nat, z < (hh + 1) ∧ t = nI z := ix_hs (by omega) h_3.2.1
    have t_kt := tn_nI (n := kt) (by omega)
    refine lv_if_eq (tgt := 20) hx hb dX5_jump_6 (by decide) (fun h9 => absurd h9 (by decide)) (fun _ => ?_)
    refine lv_aload_n hx hb dX5_jump_9 rfl (lv_at hl 0 rfl) ?_
    refine va_get (ci := 5) (v := .ref nd) (C := RX5) (T := TX5) (N := 7) hx hb hts bi_5 hown hK hP 0 rfl rfl 3 (by decide) (hts _ bw_136) (fun _ h9 => h9) rfl dX5_jump_10 ?_
    refine lv_iload_n hx hb dX5_jump_13 rfl (lv_at hl 3 rfl) ?_
    refine ca_VI (rest := []) (wr := [ob_J x 5 [.int (nI hh), .ref rl, .ref bk, .ref nd, .ref st, .ref sh, .ref wy], ob_J st 2 [.ref wt, .ref rw, .ref al, .ref br, .ref fx], ar_I wt cI 808 fwt, ar_I al cI 101 fal]) (w2 := fun u_u => [ob_J x 5 [.int (nI hh), .ref rl, .ref bk, .ref nd, .ref st, .ref sh, .ref wy], ob_J nd 1 [.int (nI sz), .ref kp, .ref ct, .ref sa, .ref la, .ref fz], ob_J st 2 [.ref wt, .ref rw, .ref al, .ref br, .ref fx], ar_I wt cI 808 fwt, ar_I al cI 101 fal]) (k_X1_haveAll l D cI cJ cZ nd sz kp ct sa la fz bits ) hx hb hml hown hts hN hK hA hP hD hS 1 0 rfl rfl bw_325 bw_326 bw_327 bw_3 bw_328 1 rfl (by decide +kernel) ⟨by decide, by decide⟩ [1] [0, 2, 3, 4] [0, 4, 1, 2, 3] rfl rfl (by decide) (fun _ => rfl) hl.1 rfl (Nat.le_of_ble_eq_true rfl) dX5_jump_14 ⟨Nat.zero_le _, Nat.zero_le _⟩ (fun r_14 u_u H locs w_14 hP hD hS => ?_)
    have hP : va_P D cl_A [ob_J x 5 [.int (nI hh), .ref rl, .ref bk, .ref nd, .ref st, .ref sh, .ref wy], ob_J nd 1 [.int (nI sz), .ref kp, .ref ct, .ref sa, .ref la, .ref fz], ob_J st 2 [.ref wt, .ref rw, .ref al, .ref br, .ref fx], ar_I wt cI 808 fwt, ar_I al cI 101 fal] H := hP
    have hD : va_D A [ob_J x 5 [.int (nI hh), .ref rl, .ref bk, .ref nd, .ref st, .ref sh, .ref wy], ob_J nd 1 [.int (nI sz), .ref kp, .ref ct, .ref sa, .ref la, .ref fz], ob_J st 2 [.ref wt, .ref rw, .ref al, .ref br, .ref fx], ar_I wt cI 808 fwt, ar_I al cI 101 fal] := hD
    have w_14 : r_14 = if (bits.toUInt32 >>> ((nI sz).toUInt32 &&& Int32.toUInt32 31)).toInt32 = 0 then 1 else 0 := w_14
    by_cases h_14 : (bits.toUInt32 >>> ((nI sz).toUInt32 &&& Int32.toUInt32 31)).toInt32 = 0
    · rw [if_pos h_14] at w_14; subst w_14
      obtain ⟨ib, h_ib, rfl⟩ : ∃ z : Nat, z < 256 ∧ bits = nI z := ix_ha hsz h_14
      have t_ib := tn_nI (n := ib) (by omega)
      refine lv_if_ne (tgt := 22) hx hb dX5_jump_17 (by decide) (fun _ => ?_) (fun h9 => absurd h9 (by decide))
      refine lv_aload_n hx hb dX5_jump_22 rfl (lv_at hl 0 rfl) ?_
      refine va_get (ci := 5) (v := .ref st) (C := RX5) (T := TX5) (N := 7) hx hb hts bi_5 hown hK hP 0 rfl rfl 4 (by decide) (hts _ bw_137) (fun _ h9 => h9) rfl dX5_jump_23 ?_
      refine lv_iload_n hx hb dX5_jump_26 rfl (lv_at hl 1 rfl) ?_
      refine lv_iload_n hx hb dX5_jump_27 rfl (lv_at hl 2 rfl) ?_
      refine lv_iload_n hx hb dX5_jump_28 rfl (lv_at hl 3 rfl) ?_
      refine ca_VI (rest := []) (wr := [ob_J x 5 [.int (nI hh), .ref rl, .ref bk, .ref nd, .ref st, .ref sh, .ref wy], ob_J nd 1 [.int (nI sz), .ref kp, .ref ct, .ref sa, .ref la, .ref fz]]) (w2 := fun u_u => [ob_J x 5 [.int (nI hh), .ref rl, .ref bk, .ref nd, .ref st, .ref sh, .ref wy], ob_J nd 1 [.int (nI sz), .ref kp, .ref ct, .ref sa, .ref la, .ref fz], ob_J st 2 [.ref wt, .ref rw, .ref al, .ref br, .ref fx], ar_I wt cI 808 fwt, ar_I al cI 101 fal]) (k_X2_allowsJump l D cI cJ cZ st wt al rw br fx fwt fal kf kt ib (by first | assumption | omega) (by first | assumption | omega) (by first | assumption | omega)) hx hb hml hown hts hN hK hA hP hD hS 2 0 rfl rfl bw_345 bw_346 bw_347 bw_4 bw_348 3 rfl (by decide +kernel) ⟨by decide, by decide⟩ [2, 3, 4] [0, 1] [0, 1, 2, 3, 4] rfl rfl (by decide) (fun _ => rfl) hl.1 rfl (Nat.le_of_ble_eq_true rfl) dX5_jump_29 ⟨Nat.zero_le _, Nat.zero_le _⟩ (fun r_29 u_u H locs w_29 hP hD hS => ?_)
      have hP : va_P D cl_A [ob_J x 5 [.int (nI hh), .ref rl, .ref bk, .ref nd, .ref st, .ref sh, .ref wy], ob_J nd 1 [.int (nI sz), .ref kp, .ref ct, .ref sa, .ref la, .ref fz], ob_J st 2 [.ref wt, .ref rw, .ref al, .ref br, .ref fx], ar_I wt cI 808 fwt, ar_I al cI 101 fal] H := hP
      have hD : va_D A [ob_J x 5 [.int (nI hh), .ref rl, .ref bk, .ref nd, .ref st, .ref sh, .ref wy], ob_J nd 1 [.int (nI sz), .ref kp, .ref ct, .ref sa, .ref la, .ref fz], ob_J st 2 [.ref wt, .ref rw, .ref al, .ref br, .ref fx], ar_I wt cI 808 fwt, ar_I al cI 101 fal] := hD
      have w_29 : r_29 = if 2 * fal kt < 3 * wo_ fwt kt ib 8 ∧ fal kf < 3 * wo_ fwt kf ib 8 then 1 else 0 := w_29
      by_cases h_29 : 2 * fal kt < 3 * wo_ fwt kt ib 8 ∧ fal kf < 3 * wo_ fwt kf ib 8
      · rw [if_pos h_29] at w_29; subst w_29
        refine lv_if_eq (tgt := 39) hx hb dX5_jump_32 (by decide) (fun h9 => absurd h9 (by decide)) (fun _ => ?_)
        refine lv_iconst (v := 1) hx hb dX5_jump_35 (by decide) ?_
        refine lv_goto (tgt := 40) hx hb dX5_jump_36 (by decide) ?_
        exact re_I (w1 := fun u_u : Unit => [ob_J x 5 [.int (nI hh), .ref rl, .ref bk, .ref nd, .ref st, .ref sh, .ref wy], ob_J nd 1 [.int (nI sz), .ref kp, .ref ct, .ref sa, .ref la, .ref fz], ob_J st 2 [.ref wt, .ref rw, .ref al, .ref br, .ref fx], ar_I wt cI 808 fwt, ar_I al cI 101 fal]) (v := 1) hx hb hr hlk hK hS rfl () hP hD (show 1 = rr_jump hh sz fwt fal (nI kf) (nI kt) (nI ib) from by simp [rr_jump, up_P, ha_P, h_3, t_kf, t_kt, h_14, t_ib, h_29]) dX5_jump_40
      · rw [if_neg h_29] at w_29; subst w_29
        refine lv_if_eq (tgt := 39) hx hb dX5_jump_32 (by decide) (fun _ => ?_) (fun h9 => absurd (by decide) h9)
        refine lv_iconst (v := 0) hx hb dX5_jump_39 (by decide) ?_
        exact re_I (w1 := fun u_u : Unit => [ob_J x 5 [.int (nI hh), .ref rl, .ref bk, .ref nd, .ref st, .ref sh, .ref wy], ob_J nd 1 [.int (nI sz), .ref kp, .ref ct, .ref sa, .ref la, .ref fz], ob_J st 2 [.ref wt, .ref rw, .ref al, .ref br, .ref fx], ar_I wt cI 808 fwt, ar_I al cI 101 fal]) (v := 0) hx hb hr hlk hK hS rfl () hP hD (show 0 = rr_jump hh sz fwt fal (nI kf) (nI kt) (nI ib) from by simp [rr_jump, up_P, ha_P, h_3, t_kf, t_kt, h_14, t_ib, h_29]) dX5_jump_40
    · rw [if_neg h_14] at w_14; subst w_14
      refine lv_if_ne (tgt := 22) hx hb dX5_jump_17 (by decide) (fun h9 => absurd (by decide) h9) (fun _ => ?_)
      refine lv_iconst (v := (-1)) hx hb dX5_jump_20 (by decide) ?_
      exact re_I (w1 := fun u_u : Unit => [ob_J x 5 [.int (nI hh), .ref rl, .ref bk, .ref nd, .ref st, .ref sh, .ref wy], ob_J nd 1 [.int (nI sz), .ref kp, .ref ct, .ref sa, .ref la, .ref fz], ob_J st 2 [.ref wt, .ref rw, .ref al, .ref br, .ref fx], ar_I wt cI 808 fwt, ar_I al cI 101 fal]) (v := (-1)) hx hb hr hlk hK hS rfl () hP hD (show (-1) = rr_jump hh sz fwt fal (nI kf) (nI kt) bits from by simp [rr_jump, up_P, ha_P, h_3, t_kf, t_kt, h_14]) dX5_jump_21
  · rw [if_neg h_3] at w_3; subst w_3
    refine lv_if_eq (tgt := 20) hx hb dX5_jump_6 (by decide) (fun _ => ?_) (fun h9 => absurd (by decide) h9)
    refine lv_iconst (v := (-1)) hx hb dX5_jump_20 (by decide) ?_
    exact re_I (w1 := fun u_u : Unit => [ob_J x 5 [.int (nI hh), .ref rl, .ref bk, .ref nd, .ref st, .ref sh, .ref wy], ob_J nd 1 [.int (nI sz), .ref kp, .ref ct, .ref sa, .ref la, .ref fz], ob_J st 2 [.ref wt, .ref rw, .ref al, .ref br, .ref fx], ar_I wt cI 808 fwt, ar_I al cI 101 fal]) (v := (-1)) hx hb hr hlk hK hS rfl () hP hD (show (-1) = rr_jump hh sz fwt fal f t bits from by simp [rr_jump, up_P, ha_P, h_3]) dX5_jump_21

set_option maxHeartbeats 4000000 in
set_option maxRecDepth 100000 in
theorem k_X5_overlap (l : Launch) (D : va_G) (cI cJ cZ : ClassId) (x : Nat) (st : Nat) (wt : Nat) (hh : Nat) (rl : Nat) (bk : Nat) (nd : Nat) (sh : Nat) (wy : Nat) (rw : Nat) (al : Nat) (br : Nat) (fx : Nat) (fwt : Nat → Int32) (a : Int32) (b : Int32) (hhh : hh ≤ 100) : mt_I l yX5_overlap cX5_overlap 3 .int 2 54 D cI cJ cZ [ob_J x 5 [.int (nI hh), .ref rl, .ref bk, .ref nd, .ref st, .ref sh, .ref wy], ob_J st 2 [.ref wt, .ref rw, .ref al, .ref br, .ref fx], ar_I wt cI 808 fwt] [.ref x, .int a, .int b] (fun r (u_u : Unit) => r = rr_overlap hh fwt a b) (fun u_u : Unit => [ob_J x 5 [.int (nI hh), .ref rl, .ref bk, .ref nd, .ref st, .ref sh, .ref wy], ob_J st 2 [.ref wt, .ref rw, .ref al, .ref br, .ref fx], ar_I wt cI 808 fwt]) := by
  refine en_I (by decide) (Nat.le_of_ble_eq_true rfl) ?_
  intro p e s m below meth c A ls H locs hx hb hr hml hts hown hlk hN hK hA hP hD hS hl
  have hown : s.vm.findClass RX5 = some m.cls := hown
  have hl : lv_has ls 3 [(0, .ref x), (1, .int a), (2, .int b)] := hl
  refine lv_aload_n hx hb dX5_overlap_0 rfl (lv_at hl 0 rfl) ?_
  refine lv_iload_n hx hb dX5_overlap_1 rfl (lv_at hl 1 rfl) ?_
  refine ca_VI (rest := []) (wr := [ob_J st 2 [.ref wt, .ref rw, .ref al, .ref br, .ref fx], ar_I wt cI 808 fwt]) (w2 := fun u_u => [ob_J x 5 [.int (nI hh), .ref rl, .ref bk, .ref nd, .ref st, .ref sh, .ref wy], ob_J st 2 [.ref wt, .ref rw, .ref al, .ref br, .ref fx], ar_I wt cI 808 fwt]) (k_X5_hasSet l D cI cJ cZ x hh rl bk nd st sh wy a ) hx hb hml hown hts hN hK hA hP hD hS 5 0 rfl rfl bw_309 bw_311 bs_6 bw_1 bw_312 1 rfl (by decide +kernel) ⟨by decide, by decide⟩ [0] [1, 2] [2, 0, 1] rfl rfl (by decide) (fun _ => rfl) hl.1 rfl (Nat.le_of_ble_eq_true rfl) dX5_overlap_2 ⟨Nat.zero_le _, Nat.zero_le _⟩ (fun r_2 u_u H locs w_2 hP hD hS => ?_)
  have hP : va_P D cl_A [ob_J x 5 [.int (nI hh), .ref rl, .ref bk, .ref nd, .ref st, .ref sh, .ref wy], ob_J st 2 [.ref wt, .ref rw, .ref al, .ref br, .ref fx], ar_I wt cI 808 fwt] H := hP
  have hD : va_D A [ob_J x 5 [.int (nI hh), .ref rl, .ref bk, .ref nd, .ref st, .ref sh, .ref wy], ob_J st 2 [.ref wt, .ref rw, .ref al, .ref br, .ref fx], ar_I wt cI 808 fwt] := hD
  have w_2 : r_2 = if 0 ≤ a ∧ a ≤ nI hh then 1 else 0 := w_2
  by_cases h_2 : 0 ≤ a ∧ a ≤ nI hh
  · rw [if_pos h_2] at w_2; subst w_2
    obtain ⟨ka, h_ka, rfl⟩ : ∃ z : Nat, z < (hh + 1) ∧ a = nI z := ix_hs (by omega) h_2
    have t_ka := tn_nI (n := ka) (by omega)
    refine lv_if_eq (tgt := 16) hx hb dX5_overlap_5 (by decide) (fun h9 => absurd h9 (by decide)) (fun _ => ?_)
    refine lv_aload_n hx hb dX5_overlap_8 rfl (lv_at hl 0 rfl) ?_
    refine lv_iload_n hx hb dX5_overlap_9 rfl (lv_at hl 2 rfl) ?_
    refine ca_VI (rest := []) (wr := [ob_J st 2 [.ref wt, .ref rw, .ref al, .ref br, .ref fx], ar_I wt cI 808 fwt]) (w2 := fun u_u => [ob_J x 5 [.int (nI hh), .ref rl, .ref bk, .ref nd, .ref st, .ref sh, .ref wy], ob_J st 2 [.ref wt, .ref rw, .ref al, .ref br, .ref fx], ar_I wt cI 808 fwt]) (k_X5_hasSet l D cI cJ cZ x hh rl bk nd st sh wy b ) hx hb hml hown hts hN hK hA hP hD hS 5 0 rfl rfl bw_309 bw_311 bs_6 bw_1 bw_312 1 rfl (by decide +kernel) ⟨by decide, by decide⟩ [0] [1, 2] [2, 0, 1] rfl rfl (by decide) (fun _ => rfl) hl.1 rfl (Nat.le_of_ble_eq_true rfl) dX5_overlap_10 ⟨Nat.zero_le _, Nat.zero_le _⟩ (fun r_10 u_u H locs w_10 hP hD hS => ?_)
    have hP : va_P D cl_A [ob_J x 5 [.int (nI hh), .ref rl, .ref bk, .ref nd, .ref st, .ref sh, .ref wy], ob_J st 2 [.ref wt, .ref rw, .ref al, .ref br, .ref fx], ar_I wt cI 808 fwt] H := hP
    have hD : va_D A [ob_J x 5 [.int (nI hh), .ref rl, .ref bk, .ref nd, .ref st, .ref sh, .ref wy], ob_J st 2 [.ref wt, .ref rw, .ref al, .ref br, .ref fx], ar_I wt cI 808 fwt] := hD
    have w_10 : r_10 = if 0 ≤ b ∧ b ≤ nI hh then 1 else 0 := w_10
    by_cases h_10 : 0 ≤ b ∧ b ≤ nI hh
    · rw [if_pos h_10] at w_10; subst w_10
      obtain ⟨kb, h_kb, rfl⟩ : ∃ z : Nat, z < (hh + 1) ∧ b = nI z := ix_hs (by omega) h_10
      have t_kb := tn_nI (n := kb) (by omega)
      refine lv_if_ne (tgt := 18) hx hb dX5_overlap_13 (by decide) (fun _ => ?_) (fun h9 => absurd h9 (by decide))
      refine lv_aload_n hx hb dX5_overlap_18 rfl (lv_at hl 0 rfl) ?_
      refine va_get (ci := 5) (v := .ref st) (C := RX5) (T := TX5) (N := 7) hx hb hts bi_5 hown hK hP 0 rfl rfl 4 (by decide) (hts _ bw_137) (fun _ h9 => h9) rfl dX5_overlap_19 ?_
      refine lv_iload_n hx hb dX5_overlap_22 rfl (lv_at hl 1 rfl) ?_
      refine lv_iload_n hx hb dX5_overlap_23 rfl (lv_at hl 2 rfl) ?_
      refine ca_VI (rest := []) (wr := [ob_J x 5 [.int (nI hh), .ref rl, .ref bk, .ref nd, .ref st, .ref sh, .ref wy]]) (w2 := fun u_u => [ob_J x 5 [.int (nI hh), .ref rl, .ref bk, .ref nd, .ref st, .ref sh, .ref wy], ob_J st 2 [.ref wt, .ref rw, .ref al, .ref br, .ref fx], ar_I wt cI 808 fwt]) (k_X2_commonWeight l D cI cJ cZ st wt rw al br fx fwt ka kb (by first | assumption | omega) (by first | assumption | omega)) hx hb hml hown hts hN hK hA hP hD hS 2 0 rfl rfl bw_354 bw_355 bw_356 bw_4 bw_357 2 rfl (by decide +kernel) ⟨by decide, by decide⟩ [1, 2] [0] [0, 1, 2] rfl rfl (by decide) (fun _ => rfl) hl.1 rfl (Nat.le_of_ble_eq_true rfl) dX5_overlap_24 ⟨Nat.zero_le _, Nat.zero_le _⟩ (fun r_24 u_u H locs w_24 hP hD hS => ?_)
      have hP : va_P D cl_A [ob_J x 5 [.int (nI hh), .ref rl, .ref bk, .ref nd, .ref st, .ref sh, .ref wy], ob_J st 2 [.ref wt, .ref rw, .ref al, .ref br, .ref fx], ar_I wt cI 808 fwt] H := hP
      have hD : va_D A [ob_J x 5 [.int (nI hh), .ref rl, .ref bk, .ref nd, .ref st, .ref sh, .ref wy], ob_J st 2 [.ref wt, .ref rw, .ref al, .ref br, .ref fx], ar_I wt cI 808 fwt] := hD
      have w_24 : r_24 = sI_ (fun n => if fwt (kb * 8 + n) < fwt (ka * 8 + n) then fwt (kb * 8 + n) else fwt (ka * 8 + n)) 8 := w_24
      subst w_24
      exact re_I (w1 := fun u_u : Unit => [ob_J x 5 [.int (nI hh), .ref rl, .ref bk, .ref nd, .ref st, .ref sh, .ref wy], ob_J st 2 [.ref wt, .ref rw, .ref al, .ref br, .ref fx], ar_I wt cI 808 fwt]) (v := sI_ (fun n => if fwt (kb * 8 + n) < fwt (ka * 8 + n) then fwt (kb * 8 + n) else fwt (ka * 8 + n)) 8) hx hb hr hlk hK hS rfl () hP hD (show sI_ (fun n => if fwt (kb * 8 + n) < fwt (ka * 8 + n) then fwt (kb * 8 + n) else fwt (ka * 8 + n)) 8 = rr_overlap hh fwt (nI ka) (nI kb) from by simp [rr_overlap, hs_P, h_2, t_ka, h_10, t_kb]) dX5_overlap_27
    · rw [if_neg h_10] at w_10; subst w_10
      refine lv_if_ne (tgt := 18) hx hb dX5_overlap_13 (by decide) (fun h9 => absurd (by decide) h9) (fun _ => ?_)
      refine lv_iconst (v := (-1)) hx hb dX5_overlap_16 (by decide) ?_
      exact re_I (w1 := fun u_u : Unit => [ob_J x 5 [.int (nI hh), .ref rl, .ref bk, .ref nd, .ref st, .ref sh, .ref wy], ob_J st 2 [.ref wt, .ref rw, .ref al, .ref br, .ref fx], ar_I wt cI 808 fwt]) (v := (-1)) hx hb hr hlk hK hS rfl () hP hD (show (-1) = rr_overlap hh fwt (nI ka) b from by simp [rr_overlap, hs_P, h_2, t_ka, h_10]) dX5_overlap_17
  · rw [if_neg h_2] at w_2; subst w_2
    refine lv_if_eq (tgt := 16) hx hb dX5_overlap_5 (by decide) (fun _ => ?_) (fun h9 => absurd (by decide) h9)
    refine lv_iconst (v := (-1)) hx hb dX5_overlap_16 (by decide) ?_
    exact re_I (w1 := fun u_u : Unit => [ob_J x 5 [.int (nI hh), .ref rl, .ref bk, .ref nd, .ref st, .ref sh, .ref wy], ob_J st 2 [.ref wt, .ref rw, .ref al, .ref br, .ref fx], ar_I wt cI 808 fwt]) (v := (-1)) hx hb hr hlk hK hS rfl () hP hD (show (-1) = rr_overlap hh fwt a b from by simp [rr_overlap, hs_P, h_2]) dX5_overlap_17

set_option maxHeartbeats 4000000 in
set_option maxRecDepth 100000 in
theorem k_X5_count (l : Launch) (D : va_G) (cI cJ cZ : ClassId) (x : Nat) (rl : Nat) (bk : Nat) (bal : Nat) (stk : Nat) (due : Nat) (nd : Nat) (hh : Nat) (st : Nat) (sh : Nat) (wy : Nat) (frl : Nat → Int32) (funded : Int32) (rewarded : Int32) (fbal : Nat → Int32) (fstk : Nat → Int32) (fdue : Nat → Int32) (sz : Nat) (kp : Nat) (ct : Nat) (sa : Nat) (la : Nat) (fz : Nat) (what : Int32)  : mt_I l yX5_count cX5_count 2 .int 3 66 D cI cJ cZ [ob_J x 5 [.int (nI hh), .ref rl, .ref bk, .ref nd, .ref st, .ref sh, .ref wy], ar_I rl cI 4 frl, ob_J bk 0 [.int funded, .int rewarded, .ref bal, .ref stk, .ref due], ar_I bal cI 10 fbal, ar_I stk cI 80 fstk, ar_I due cI 1100 fdue, ob_J nd 1 [.int (nI sz), .ref kp, .ref ct, .ref sa, .ref la, .ref fz]] [.ref x, .int what] (fun r (u_u : Unit) => r = rr_count hh sz funded rewarded frl fbal fstk fdue what) (fun u_u : Unit => [ob_J x 5 [.int (nI hh), .ref rl, .ref bk, .ref nd, .ref st, .ref sh, .ref wy], ar_I rl cI 4 frl, ob_J bk 0 [.int funded, .int rewarded, .ref bal, .ref stk, .ref due], ar_I bal cI 10 fbal, ar_I stk cI 80 fstk, ar_I due cI 1100 fdue, ob_J nd 1 [.int (nI sz), .ref kp, .ref ct, .ref sa, .ref la, .ref fz]]) := by
  refine en_I (by decide) (Nat.le_of_ble_eq_true rfl) ?_
  intro p e s m below meth c A ls H locs hx hb hr hml hts hown hlk hN hK hA hP hD hS hl
  have hown : s.vm.findClass RX5 = some m.cls := hown
  have hl : lv_has ls 2 [(0, .ref x), (1, .int what)] := hl
  refine lv_iload_n hx hb dX5_count_0 rfl (lv_at hl 1 rfl) ?_
  by_cases e_1_0 : what = 0
  · subst e_1_0
    refine lv_tableIn (off := 59) (tgt := 60) hx hb dX5_count_1 (by decide) (by decide) (by decide) (by decide) ?_
    refine lv_aload_n hx hb dX5_count_60 rfl (lv_at hl 0 rfl) ?_
    refine va_get (ci := 5) (v := .int (nI hh)) (C := RX5) (T := TX5) (N := 7) hx hb hts bi_5 hown hK hP 0 rfl rfl 0 (by decide) (hts _ bw_133) (fun _ h9 => h9) rfl dX5_count_61 ?_
    exact re_I (w1 := fun u_u : Unit => [ob_J x 5 [.int (nI hh), .ref rl, .ref bk, .ref nd, .ref st, .ref sh, .ref wy], ar_I rl cI 4 frl, ob_J bk 0 [.int funded, .int rewarded, .ref bal, .ref stk, .ref due], ar_I bal cI 10 fbal, ar_I stk cI 80 fstk, ar_I due cI 1100 fdue, ob_J nd 1 [.int (nI sz), .ref kp, .ref ct, .ref sa, .ref la, .ref fz]]) (v := nI hh) hx hb hr hlk hK hS rfl () hP hD (show nI hh = rr_count hh sz funded rewarded frl fbal fstk fdue 0 from by simp [rr_count, ]) dX5_count_64
  by_cases e_1_1 : what = 1
  · subst e_1_1
    refine lv_tableIn (off := 64) (tgt := 65) hx hb dX5_count_1 (by decide) (by decide) (by decide) (by decide) ?_
    refine lv_aload_n hx hb dX5_count_65 rfl (lv_at hl 0 rfl) ?_
    refine va_get (ci := 5) (v := .ref nd) (C := RX5) (T := TX5) (N := 7) hx hb hts bi_5 hown hK hP 0 rfl rfl 3 (by decide) (hts _ bw_136) (fun _ h9 => h9) rfl dX5_count_66 ?_
    refine va_get (ci := 1) (v := .int (nI sz)) (C := RX1) (T := TX1) (N := 6) hx hb hts bi_1 hown hK hP 6 rfl rfl 0 (by decide) (hts _ bw_52) (fun _ h9 => h9) rfl dX5_count_69 ?_
    exact re_I (w1 := fun u_u : Unit => [ob_J x 5 [.int (nI hh), .ref rl, .ref bk, .ref nd, .ref st, .ref sh, .ref wy], ar_I rl cI 4 frl, ob_J bk 0 [.int funded, .int rewarded, .ref bal, .ref stk, .ref due], ar_I bal cI 10 fbal, ar_I stk cI 80 fstk, ar_I due cI 1100 fdue, ob_J nd 1 [.int (nI sz), .ref kp, .ref ct, .ref sa, .ref la, .ref fz]]) (v := nI sz) hx hb hr hlk hK hS rfl () hP hD (show nI sz = rr_count hh sz funded rewarded frl fbal fstk fdue 1 from by simp [rr_count, e_1_0]) dX5_count_72
  by_cases e_1_2 : what = 2
  · subst e_1_2
    refine lv_tableIn (off := 72) (tgt := 73) hx hb dX5_count_1 (by decide) (by decide) (by decide) (by decide) ?_
    refine lv_aload_n hx hb dX5_count_73 rfl (lv_at hl 0 rfl) ?_
    refine va_get (ci := 5) (v := .ref bk) (C := RX5) (T := TX5) (N := 7) hx hb hts bi_5 hown hK hP 0 rfl rfl 2 (by decide) (hts _ bw_135) (fun _ h9 => h9) rfl dX5_count_74 ?_
    refine va_get (ci := 0) (v := .int funded) (C := RX0) (T := TX0) (N := 5) hx hb hts bi_0 hown hK hP 2 rfl rfl 0 (by decide) (hts _ bw_25) (fun _ h9 => h9) rfl dX5_count_77 ?_
    exact re_I (w1 := fun u_u : Unit => [ob_J x 5 [.int (nI hh), .ref rl, .ref bk, .ref nd, .ref st, .ref sh, .ref wy], ar_I rl cI 4 frl, ob_J bk 0 [.int funded, .int rewarded, .ref bal, .ref stk, .ref due], ar_I bal cI 10 fbal, ar_I stk cI 80 fstk, ar_I due cI 1100 fdue, ob_J nd 1 [.int (nI sz), .ref kp, .ref ct, .ref sa, .ref la, .ref fz]]) (v := funded) hx hb hr hlk hK hS rfl () hP hD (show funded = rr_count hh sz funded rewarded frl fbal fstk fdue 2 from by simp [rr_count, e_1_0, e_1_1]) dX5_count_80
  by_cases e_1_3 : what = 3
  · subst e_1_3
    refine lv_tableIn (off := 80) (tgt := 81) hx hb dX5_count_1 (by decide) (by decide) (by decide) (by decide) ?_
    refine lv_aload_n hx hb dX5_count_81 rfl (lv_at hl 0 rfl) ?_
    refine va_get (ci := 5) (v := .ref bk) (C := RX5) (T := TX5) (N := 7) hx hb hts bi_5 hown hK hP 0 rfl rfl 2 (by decide) (hts _ bw_135) (fun _ h9 => h9) rfl dX5_count_82 ?_
    refine va_get (ci := 0) (v := .int rewarded) (C := RX0) (T := TX0) (N := 5) hx hb hts bi_0 hown hK hP 2 rfl rfl 1 (by decide) (hts _ bw_26) (fun _ h9 => h9) rfl dX5_count_85 ?_
    exact re_I (w1 := fun u_u : Unit => [ob_J x 5 [.int (nI hh), .ref rl, .ref bk, .ref nd, .ref st, .ref sh, .ref wy], ar_I rl cI 4 frl, ob_J bk 0 [.int funded, .int rewarded, .ref bal, .ref stk, .ref due], ar_I bal cI 10 fbal, ar_I stk cI 80 fstk, ar_I due cI 1100 fdue, ob_J nd 1 [.int (nI sz), .ref kp, .ref ct, .ref sa, .ref la, .ref fz]]) (v := rewarded) hx hb hr hlk hK hS rfl () hP hD (show rewarded = rr_count hh sz funded rewarded frl fbal fstk fdue 3 from by simp [rr_count, e_1_0, e_1_1, e_1_2]) dX5_count_88
  by_cases e_1_4 : what = 4
  · subst e_1_4
    refine lv_tableIn (off := 88) (tgt := 89) hx hb dX5_count_1 (by decide) (by decide) (by decide) (by decide) ?_
    refine lv_aload_n hx hb dX5_count_89 rfl (lv_at hl 0 rfl) ?_
    refine va_get (ci := 5) (v := .ref bk) (C := RX5) (T := TX5) (N := 7) hx hb hts bi_5 hown hK hP 0 rfl rfl 2 (by decide) (hts _ bw_135) (fun _ h9 => h9) rfl dX5_count_90 ?_
    refine ca_VI (rest := []) (wr := [ob_J x 5 [.int (nI hh), .ref rl, .ref bk, .ref nd, .ref st, .ref sh, .ref wy], ar_I rl cI 4 frl, ar_I stk cI 80 fstk, ar_I due cI 1100 fdue, ob_J nd 1 [.int (nI sz), .ref kp, .ref ct, .ref sa, .ref la, .ref fz]]) (w2 := fun u_u => [ob_J x 5 [.int (nI hh), .ref rl, .ref bk, .ref nd, .ref st, .ref sh, .ref wy], ar_I rl cI 4 frl, ob_J bk 0 [.int funded, .int rewarded, .ref bal, .ref stk, .ref due], ar_I bal cI 10 fbal, ar_I stk cI 80 fstk, ar_I due cI 1100 fdue, ob_J nd 1 [.int (nI sz), .ref kp, .ref ct, .ref sa, .ref la, .ref fz]]) (k_X0_allBalances l D cI cJ cZ bk bal funded rewarded stk due fbal ) hx hb hml hown hts hN hK hA hP hD hS 0 0 rfl rfl bw_384 bw_385 bw_386 bw_2 bw_387 0 rfl (by decide +kernel) ⟨by decide, by decide⟩ [2, 3] [0, 1, 4, 5, 6] [0, 1, 5, 6, 2, 3, 4] rfl rfl (by decide) (fun _ => rfl) hl.1 rfl (Nat.le_of_ble_eq_true rfl) dX5_count_93 ⟨Nat.zero_le _, Nat.zero_le _⟩ (fun r_93 u_u H locs w_93 hP hD hS => ?_)
    have hP : va_P D cl_A [ob_J x 5 [.int (nI hh), .ref rl, .ref bk, .ref nd, .ref st, .ref sh, .ref wy], ar_I rl cI 4 frl, ob_J bk 0 [.int funded, .int rewarded, .ref bal, .ref stk, .ref due], ar_I bal cI 10 fbal, ar_I stk cI 80 fstk, ar_I due cI 1100 fdue, ob_J nd 1 [.int (nI sz), .ref kp, .ref ct, .ref sa, .ref la, .ref fz]] H := hP
    have hD : va_D A [ob_J x 5 [.int (nI hh), .ref rl, .ref bk, .ref nd, .ref st, .ref sh, .ref wy], ar_I rl cI 4 frl, ob_J bk 0 [.int funded, .int rewarded, .ref bal, .ref stk, .ref due], ar_I bal cI 10 fbal, ar_I stk cI 80 fstk, ar_I due cI 1100 fdue, ob_J nd 1 [.int (nI sz), .ref kp, .ref ct, .ref sa, .ref la, .ref fz]] := hD
    have w_93 : r_93 = sI_ fbal 10 := w_93
    subst w_93
    exact re_I (w1 := fun u_u : Unit => [ob_J x 5 [.int (nI hh), .ref rl, .ref bk, .ref nd, .ref st, .ref sh, .ref wy], ar_I rl cI 4 frl, ob_J bk 0 [.int funded, .int rewarded, .ref bal, .ref stk, .ref due], ar_I bal cI 10 fbal, ar_I stk cI 80 fstk, ar_I due cI 1100 fdue, ob_J nd 1 [.int (nI sz), .ref kp, .ref ct, .ref sa, .ref la, .ref fz]]) (v := sI_ fbal 10) hx hb hr hlk hK hS rfl () hP hD (show sI_ fbal 10 = rr_count hh sz funded rewarded frl fbal fstk fdue 4 from by simp [rr_count, e_1_0, e_1_1, e_1_2, e_1_3]) dX5_count_96
  by_cases e_1_5 : what = 5
  · subst e_1_5
    refine lv_tableIn (off := 96) (tgt := 97) hx hb dX5_count_1 (by decide) (by decide) (by decide) (by decide) ?_
    refine lv_aload_n hx hb dX5_count_97 rfl (lv_at hl 0 rfl) ?_
    refine va_get (ci := 5) (v := .ref bk) (C := RX5) (T := TX5) (N := 7) hx hb hts bi_5 hown hK hP 0 rfl rfl 2 (by decide) (hts _ bw_135) (fun _ h9 => h9) rfl dX5_count_98 ?_
    refine ca_VI (rest := []) (wr := [ob_J x 5 [.int (nI hh), .ref rl, .ref bk, .ref nd, .ref st, .ref sh, .ref wy], ar_I rl cI 4 frl, ar_I bal cI 10 fbal, ar_I due cI 1100 fdue, ob_J nd 1 [.int (nI sz), .ref kp, .ref ct, .ref sa, .ref la, .ref fz]]) (w2 := fun u_u => [ob_J x 5 [.int (nI hh), .ref rl, .ref bk, .ref nd, .ref st, .ref sh, .ref wy], ar_I rl cI 4 frl, ob_J bk 0 [.int funded, .int rewarded, .ref bal, .ref stk, .ref due], ar_I bal cI 10 fbal, ar_I stk cI 80 fstk, ar_I due cI 1100 fdue, ob_J nd 1 [.int (nI sz), .ref kp, .ref ct, .ref sa, .ref la, .ref fz]]) (k_X0_allStakes l D cI cJ cZ bk stk funded rewarded bal due fstk ) hx hb hml hown hts hN hK hA hP hD hS 0 0 rfl rfl bw_388 bw_389 bw_390 bw_2 bw_391 0 rfl (by decide +kernel) ⟨by decide, by decide⟩ [2, 4] [0, 1, 3, 5, 6] [0, 1, 5, 2, 6, 3, 4] rfl rfl (by decide) (fun _ => rfl) hl.1 rfl (Nat.le_of_ble_eq_true rfl) dX5_count_101 ⟨Nat.zero_le _, Nat.zero_le _⟩ (fun r_101 u_u H locs w_101 hP hD hS => ?_)
    have hP : va_P D cl_A [ob_J x 5 [.int (nI hh), .ref rl, .ref bk, .ref nd, .ref st, .ref sh, .ref wy], ar_I rl cI 4 frl, ob_J bk 0 [.int funded, .int rewarded, .ref bal, .ref stk, .ref due], ar_I bal cI 10 fbal, ar_I stk cI 80 fstk, ar_I due cI 1100 fdue, ob_J nd 1 [.int (nI sz), .ref kp, .ref ct, .ref sa, .ref la, .ref fz]] H := hP
    have hD : va_D A [ob_J x 5 [.int (nI hh), .ref rl, .ref bk, .ref nd, .ref st, .ref sh, .ref wy], ar_I rl cI 4 frl, ob_J bk 0 [.int funded, .int rewarded, .ref bal, .ref stk, .ref due], ar_I bal cI 10 fbal, ar_I stk cI 80 fstk, ar_I due cI 1100 fdue, ob_J nd 1 [.int (nI sz), .ref kp, .ref ct, .ref sa, .ref la, .ref fz]] := hD
    have w_101 : r_101 = sI_ (fun jn => sI_ (fun a => fstk (jn * 10 + a)) 10) 8 := w_101
    subst w_101
    exact re_I (w1 := fun u_u : Unit => [ob_J x 5 [.int (nI hh), .ref rl, .ref bk, .ref nd, .ref st, .ref sh, .ref wy], ar_I rl cI 4 frl, ob_J bk 0 [.int funded, .int rewarded, .ref bal, .ref stk, .ref due], ar_I bal cI 10 fbal, ar_I stk cI 80 fstk, ar_I due cI 1100 fdue, ob_J nd 1 [.int (nI sz), .ref kp, .ref ct, .ref sa, .ref la, .ref fz]]) (v := sI_ (fun jn => sI_ (fun a => fstk (jn * 10 + a)) 10) 8) hx hb hr hlk hK hS rfl () hP hD (show sI_ (fun jn => sI_ (fun a => fstk (jn * 10 + a)) 10) 8 = rr_count hh sz funded rewarded frl fbal fstk fdue 5 from by simp [rr_count, e_1_0, e_1_1, e_1_2, e_1_3, e_1_4]) dX5_count_104
  by_cases e_1_6 : what = 6
  · subst e_1_6
    refine lv_tableIn (off := 104) (tgt := 105) hx hb dX5_count_1 (by decide) (by decide) (by decide) (by decide) ?_
    refine lv_aload_n hx hb dX5_count_105 rfl (lv_at hl 0 rfl) ?_
    refine va_get (ci := 5) (v := .ref bk) (C := RX5) (T := TX5) (N := 7) hx hb hts bi_5 hown hK hP 0 rfl rfl 2 (by decide) (hts _ bw_135) (fun _ h9 => h9) rfl dX5_count_106 ?_
    refine ca_VI (rest := []) (wr := [ob_J x 5 [.int (nI hh), .ref rl, .ref bk, .ref nd, .ref st, .ref sh, .ref wy], ar_I rl cI 4 frl, ar_I bal cI 10 fbal, ar_I stk cI 80 fstk, ob_J nd 1 [.int (nI sz), .ref kp, .ref ct, .ref sa, .ref la, .ref fz]]) (w2 := fun u_u => [ob_J x 5 [.int (nI hh), .ref rl, .ref bk, .ref nd, .ref st, .ref sh, .ref wy], ar_I rl cI 4 frl, ob_J bk 0 [.int funded, .int rewarded, .ref bal, .ref stk, .ref due], ar_I bal cI 10 fbal, ar_I stk cI 80 fstk, ar_I due cI 1100 fdue, ob_J nd 1 [.int (nI sz), .ref kp, .ref ct, .ref sa, .ref la, .ref fz]]) (k_X0_allDue l D cI cJ cZ bk due funded rewarded bal stk fdue ) hx hb hml hown hts hN hK hA hP hD hS 0 0 rfl rfl bw_393 bw_394 bw_395 bw_2 bw_396 0 rfl (by decide +kernel) ⟨by decide, by decide⟩ [2, 5] [0, 1, 3, 4, 6] [0, 1, 5, 2, 3, 6, 4] rfl rfl (by decide) (fun _ => rfl) hl.1 rfl (Nat.le_of_ble_eq_true rfl) dX5_count_109 ⟨Nat.zero_le _, Nat.zero_le _⟩ (fun r_109 u_u H locs w_109 hP hD hS => ?_)
    have hP : va_P D cl_A [ob_J x 5 [.int (nI hh), .ref rl, .ref bk, .ref nd, .ref st, .ref sh, .ref wy], ar_I rl cI 4 frl, ob_J bk 0 [.int funded, .int rewarded, .ref bal, .ref stk, .ref due], ar_I bal cI 10 fbal, ar_I stk cI 80 fstk, ar_I due cI 1100 fdue, ob_J nd 1 [.int (nI sz), .ref kp, .ref ct, .ref sa, .ref la, .ref fz]] H := hP
    have hD : va_D A [ob_J x 5 [.int (nI hh), .ref rl, .ref bk, .ref nd, .ref st, .ref sh, .ref wy], ar_I rl cI 4 frl, ob_J bk 0 [.int funded, .int rewarded, .ref bal, .ref stk, .ref due], ar_I bal cI 10 fbal, ar_I stk cI 80 fstk, ar_I due cI 1100 fdue, ob_J nd 1 [.int (nI sz), .ref kp, .ref ct, .ref sa, .ref la, .ref fz]] := hD
    have w_109 : r_109 = sI_ (fun ia => sI_ (fun k => fdue (ia * 110 + (k + 1))) 109) 10 := w_109
    subst w_109
    exact re_I (w1 := fun u_u : Unit => [ob_J x 5 [.int (nI hh), .ref rl, .ref bk, .ref nd, .ref st, .ref sh, .ref wy], ar_I rl cI 4 frl, ob_J bk 0 [.int funded, .int rewarded, .ref bal, .ref stk, .ref due], ar_I bal cI 10 fbal, ar_I stk cI 80 fstk, ar_I due cI 1100 fdue, ob_J nd 1 [.int (nI sz), .ref kp, .ref ct, .ref sa, .ref la, .ref fz]]) (v := sI_ (fun ia => sI_ (fun k => fdue (ia * 110 + (k + 1))) 109) 10) hx hb hr hlk hK hS rfl () hP hD (show sI_ (fun ia => sI_ (fun k => fdue (ia * 110 + (k + 1))) 109) 10 = rr_count hh sz funded rewarded frl fbal fstk fdue 6 from by simp [rr_count, e_1_0, e_1_1, e_1_2, e_1_3, e_1_4, e_1_5]) dX5_count_112
  by_cases e_1_7 : what = 7
  · subst e_1_7
    refine lv_tableIn (off := 112) (tgt := 113) hx hb dX5_count_1 (by decide) (by decide) (by decide) (by decide) ?_
    refine lv_aload_n hx hb dX5_count_113 rfl (lv_at hl 0 rfl) ?_
    refine va_get (ci := 5) (v := .ref rl) (C := RX5) (T := TX5) (N := 7) hx hb hts bi_5 hown hK hP 0 rfl rfl 1 (by decide) (hts _ bw_134) (fun _ h9 => h9) rfl dX5_count_114 ?_
    refine lv_iconst (v := 0) hx hb dX5_count_117 (by decide) ?_
    refine ar_ld hx hb hK hP 1 (k := 0) rfl rfl (by omega) (by decide) dX5_count_118 ?_
    exact re_I (w1 := fun u_u : Unit => [ob_J x 5 [.int (nI hh), .ref rl, .ref bk, .ref nd, .ref st, .ref sh, .ref wy], ar_I rl cI 4 frl, ob_J bk 0 [.int funded, .int rewarded, .ref bal, .ref stk, .ref due], ar_I bal cI 10 fbal, ar_I stk cI 80 fstk, ar_I due cI 1100 fdue, ob_J nd 1 [.int (nI sz), .ref kp, .ref ct, .ref sa, .ref la, .ref fz]]) (v := frl 0) hx hb hr hlk hK hS rfl () hP hD (show frl 0 = rr_count hh sz funded rewarded frl fbal fstk fdue 7 from by simp [rr_count, e_1_0, e_1_1, e_1_2, e_1_3, e_1_4, e_1_5, e_1_6]) dX5_count_119
  by_cases e_1_8 : what = 8
  · subst e_1_8
    refine lv_tableIn (off := 119) (tgt := 120) hx hb dX5_count_1 (by decide) (by decide) (by decide) (by decide) ?_
    refine lv_aload_n hx hb dX5_count_120 rfl (lv_at hl 0 rfl) ?_
    refine va_get (ci := 5) (v := .ref rl) (C := RX5) (T := TX5) (N := 7) hx hb hts bi_5 hown hK hP 0 rfl rfl 1 (by decide) (hts _ bw_134) (fun _ h9 => h9) rfl dX5_count_121 ?_
    refine lv_iconst (v := 1) hx hb dX5_count_124 (by decide) ?_
    refine ar_ld hx hb hK hP 1 (k := 1) rfl rfl (by omega) (by decide) dX5_count_125 ?_
    exact re_I (w1 := fun u_u : Unit => [ob_J x 5 [.int (nI hh), .ref rl, .ref bk, .ref nd, .ref st, .ref sh, .ref wy], ar_I rl cI 4 frl, ob_J bk 0 [.int funded, .int rewarded, .ref bal, .ref stk, .ref due], ar_I bal cI 10 fbal, ar_I stk cI 80 fstk, ar_I due cI 1100 fdue, ob_J nd 1 [.int (nI sz), .ref kp, .ref ct, .ref sa, .ref la, .ref fz]]) (v := frl 1) hx hb hr hlk hK hS rfl () hP hD (show frl 1 = rr_count hh sz funded rewarded frl fbal fstk fdue 8 from by simp [rr_count, e_1_0, e_1_1, e_1_2, e_1_3, e_1_4, e_1_5, e_1_6, e_1_7]) dX5_count_126
  by_cases e_1_9 : what = 9
  · subst e_1_9
    refine lv_tableIn (off := 126) (tgt := 127) hx hb dX5_count_1 (by decide) (by decide) (by decide) (by decide) ?_
    refine lv_aload_n hx hb dX5_count_127 rfl (lv_at hl 0 rfl) ?_
    refine va_get (ci := 5) (v := .ref rl) (C := RX5) (T := TX5) (N := 7) hx hb hts bi_5 hown hK hP 0 rfl rfl 1 (by decide) (hts _ bw_134) (fun _ h9 => h9) rfl dX5_count_128 ?_
    refine lv_iconst (v := 2) hx hb dX5_count_131 (by decide) ?_
    refine ar_ld hx hb hK hP 1 (k := 2) rfl rfl (by omega) (by decide) dX5_count_132 ?_
    exact re_I (w1 := fun u_u : Unit => [ob_J x 5 [.int (nI hh), .ref rl, .ref bk, .ref nd, .ref st, .ref sh, .ref wy], ar_I rl cI 4 frl, ob_J bk 0 [.int funded, .int rewarded, .ref bal, .ref stk, .ref due], ar_I bal cI 10 fbal, ar_I stk cI 80 fstk, ar_I due cI 1100 fdue, ob_J nd 1 [.int (nI sz), .ref kp, .ref ct, .ref sa, .ref la, .ref fz]]) (v := frl 2) hx hb hr hlk hK hS rfl () hP hD (show frl 2 = rr_count hh sz funded rewarded frl fbal fstk fdue 9 from by simp [rr_count, e_1_0, e_1_1, e_1_2, e_1_3, e_1_4, e_1_5, e_1_6, e_1_7, e_1_8]) dX5_count_133
  by_cases e_1_10 : what = 10
  · subst e_1_10
    refine lv_tableIn (off := 133) (tgt := 134) hx hb dX5_count_1 (by decide) (by decide) (by decide) (by decide) ?_
    refine lv_aload_n hx hb dX5_count_134 rfl (lv_at hl 0 rfl) ?_
    refine va_get (ci := 5) (v := .ref rl) (C := RX5) (T := TX5) (N := 7) hx hb hts bi_5 hown hK hP 0 rfl rfl 1 (by decide) (hts _ bw_134) (fun _ h9 => h9) rfl dX5_count_135 ?_
    refine lv_iconst (v := 3) hx hb dX5_count_138 (by decide) ?_
    refine ar_ld hx hb hK hP 1 (k := 3) rfl rfl (by omega) (by decide) dX5_count_139 ?_
    exact re_I (w1 := fun u_u : Unit => [ob_J x 5 [.int (nI hh), .ref rl, .ref bk, .ref nd, .ref st, .ref sh, .ref wy], ar_I rl cI 4 frl, ob_J bk 0 [.int funded, .int rewarded, .ref bal, .ref stk, .ref due], ar_I bal cI 10 fbal, ar_I stk cI 80 fstk, ar_I due cI 1100 fdue, ob_J nd 1 [.int (nI sz), .ref kp, .ref ct, .ref sa, .ref la, .ref fz]]) (v := frl 3) hx hb hr hlk hK hS rfl () hP hD (show frl 3 = rr_count hh sz funded rewarded frl fbal fstk fdue 10 from by simp [rr_count, e_1_0, e_1_1, e_1_2, e_1_3, e_1_4, e_1_5, e_1_6, e_1_7, e_1_8, e_1_9]) dX5_count_140
  refine lv_tableOut (tgt := 141) hx hb dX5_count_1 (sw_out 10 (fun z hz => ?_)) (by decide) ?_
  · rcases (show z = 0 ∨ z = 1 ∨ z = 2 ∨ z = 3 ∨ z = 4 ∨ z = 5 ∨ z = 6 ∨ z = 7 ∨ z = 8 ∨ z = 9 ∨ z = 10 by omega) with rfl | rfl | rfl | rfl | rfl | rfl | rfl | rfl | rfl | rfl | rfl
    · exact e_1_0
    · exact e_1_1
    · exact e_1_2
    · exact e_1_3
    · exact e_1_4
    · exact e_1_5
    · exact e_1_6
    · exact e_1_7
    · exact e_1_8
    · exact e_1_9
    · exact e_1_10
  · refine lv_iconst (v := (-1)) hx hb dX5_count_141 (by decide) ?_
    exact re_I (w1 := fun u_u : Unit => [ob_J x 5 [.int (nI hh), .ref rl, .ref bk, .ref nd, .ref st, .ref sh, .ref wy], ar_I rl cI 4 frl, ob_J bk 0 [.int funded, .int rewarded, .ref bal, .ref stk, .ref due], ar_I bal cI 10 fbal, ar_I stk cI 80 fstk, ar_I due cI 1100 fdue, ob_J nd 1 [.int (nI sz), .ref kp, .ref ct, .ref sa, .ref la, .ref fz]]) (v := (-1)) hx hb hr hlk hK hS rfl () hP hD (show (-1) = rr_count hh sz funded rewarded frl fbal fstk fdue what from by simp [rr_count, e_1_0, e_1_1, e_1_2, e_1_3, e_1_4, e_1_5, e_1_6, e_1_7, e_1_8, e_1_9, e_1_10]) dX5_count_142
end

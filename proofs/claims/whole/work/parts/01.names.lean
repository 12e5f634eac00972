/-- a private method of a class that the tables say can be made, by its rows of tables_1 -/
def lw_okq (q : MethodName × Nat) : Prop := (q.1.cls ≠ "java/lang/invoke/MethodHandle" ∧ q.1.cls ≠ "java/lang/invoke/VarHandle") ∧ Cond.instantiable q.1.cls q.2 ∈ tables_1 ∧ Cond.privateMethod q.1 ∈ tables_1 ∧ Cond.instanceMethod q.1 ∈ tables_1
theorem lw_p0 : lw_okq (⟨"StoneGhosts", "tryShop", "()I"⟩, 6) := ⟨⟨by decide +kernel, by decide +kernel⟩, List.mem_of_getElem? (i := 17) (by decide +kernel), List.mem_of_getElem? (i := 380) (by decide +kernel), List.mem_of_getElem? (i := 381) (by decide +kernel)⟩
theorem lw_p1 : lw_okq (⟨"StoneGhosts", "tellWhole", "(I)I"⟩, 6) := ⟨⟨by decide +kernel, by decide +kernel⟩, List.mem_of_getElem? (i := 17) (by decide +kernel), List.mem_of_getElem? (i := 732) (by decide +kernel), List.mem_of_getElem? (i := 733) (by decide +kernel)⟩
theorem lw_p2 : lw_okq (⟨"StoneGhostsModel", "isStone", "(I)Z"⟩, 38) := ⟨⟨by decide +kernel, by decide +kernel⟩, List.mem_of_getElem? (i := 740) (by decide +kernel), List.mem_of_getElem? (i := 883) (by decide +kernel), List.mem_of_getElem? (i := 884) (by decide +kernel)⟩
theorem lw_p3 : lw_okq (⟨"StoneGhostsModel", "readOn", "(II)I"⟩, 38) := ⟨⟨by decide +kernel, by decide +kernel⟩, List.mem_of_getElem? (i := 740) (by decide +kernel), List.mem_of_getElem? (i := 922) (by decide +kernel), List.mem_of_getElem? (i := 923) (by decide +kernel)⟩
theorem lw_p4 : lw_okq (⟨"StoneGhostsModel", "close", "(II)I"⟩, 38) := ⟨⟨by decide +kernel, by decide +kernel⟩, List.mem_of_getElem? (i := 740) (by decide +kernel), List.mem_of_getElem? (i := 933) (by decide +kernel), List.mem_of_getElem? (i := 934) (by decide +kernel)⟩
theorem lw_p5 : lw_okq (⟨"StoneGhostsModel", "refusal", "()I"⟩, 38) := ⟨⟨by decide +kernel, by decide +kernel⟩, List.mem_of_getElem? (i := 740) (by decide +kernel), List.mem_of_getElem? (i := 944) (by decide +kernel), List.mem_of_getElem? (i := 945) (by decide +kernel)⟩
theorem lw_p6 : lw_okq (⟨"StoneGhostsModel", "store", "([I)V"⟩, 38) := ⟨⟨by decide +kernel, by decide +kernel⟩, List.mem_of_getElem? (i := 740) (by decide +kernel), List.mem_of_getElem? (i := 949) (by decide +kernel), List.mem_of_getElem? (i := 950) (by decide +kernel)⟩
theorem lw_p7 : lw_okq (⟨"StoneGhostsModel", "goShop", "()V"⟩, 38) := ⟨⟨by decide +kernel, by decide +kernel⟩, List.mem_of_getElem? (i := 740) (by decide +kernel), List.mem_of_getElem? (i := 953) (by decide +kernel), List.mem_of_getElem? (i := 954) (by decide +kernel)⟩
theorem lw_p8 : lw_okq (⟨"StoneGhostsModel", "beginCount", "()V"⟩, 38) := ⟨⟨by decide +kernel, by decide +kernel⟩, List.mem_of_getElem? (i := 740) (by decide +kernel), List.mem_of_getElem? (i := 957) (by decide +kernel), List.mem_of_getElem? (i := 958) (by decide +kernel)⟩
theorem lw_p9 : lw_okq (⟨"StoneGhostsModel", "whyNot", "(III)I"⟩, 38) := ⟨⟨by decide +kernel, by decide +kernel⟩, List.mem_of_getElem? (i := 740) (by decide +kernel), List.mem_of_getElem? (i := 961) (by decide +kernel), List.mem_of_getElem? (i := 962) (by decide +kernel)⟩
theorem lw_p10 : lw_okq (⟨"StoneGhostsModel", "happen", "(III)V"⟩, 38) := ⟨⟨by decide +kernel, by decide +kernel⟩, List.mem_of_getElem? (i := 740) (by decide +kernel), List.mem_of_getElem? (i := 965) (by decide +kernel), List.mem_of_getElem? (i := 966) (by decide +kernel)⟩
theorem lw_p11 : lw_okq (⟨"StoneGhostsModel", "pullOnce", "(I)V"⟩, 38) := ⟨⟨by decide +kernel, by decide +kernel⟩, List.mem_of_getElem? (i := 740) (by decide +kernel), List.mem_of_getElem? (i := 969) (by decide +kernel), List.mem_of_getElem? (i := 970) (by decide +kernel)⟩
theorem lw_p12 : lw_okq (⟨"StoneGhostsModel", "wearOf", "(I)I"⟩, 38) := ⟨⟨by decide +kernel, by decide +kernel⟩, List.mem_of_getElem? (i := 740) (by decide +kernel), List.mem_of_getElem? (i := 976) (by decide +kernel), List.mem_of_getElem? (i := 977) (by decide +kernel)⟩
theorem lw_p13 : lw_okq (⟨"StoneGhostsModel", "ghostFat", "(II)I"⟩, 38) := ⟨⟨by decide +kernel, by decide +kernel⟩, List.mem_of_getElem? (i := 740) (by decide +kernel), List.mem_of_getElem? (i := 980) (by decide +kernel), List.mem_of_getElem? (i := 981) (by decide +kernel)⟩
theorem lw_p14 : lw_okq (⟨"StoneGhostsModel", "ghostOn", "(II)I"⟩, 38) := ⟨⟨by decide +kernel, by decide +kernel⟩, List.mem_of_getElem? (i := 740) (by decide +kernel), List.mem_of_getElem? (i := 984) (by decide +kernel), List.mem_of_getElem? (i := 985) (by decide +kernel)⟩
theorem lw_p15 : lw_okq (⟨"StoneGhostsModel", "grindFor", "(III)V"⟩, 38) := ⟨⟨by decide +kernel, by decide +kernel⟩, List.mem_of_getElem? (i := 740) (by decide +kernel), List.mem_of_getElem? (i := 988) (by decide +kernel), List.mem_of_getElem? (i := 989) (by decide +kernel)⟩
def lw_privs_1 : List (MethodName × Nat) := [(⟨"StoneGhosts", "tryShop", "()I"⟩, 6), (⟨"StoneGhosts", "tellWhole", "(I)I"⟩, 6), (⟨"StoneGhostsModel", "isStone", "(I)Z"⟩, 38), (⟨"StoneGhostsModel", "readOn", "(II)I"⟩, 38), (⟨"StoneGhostsModel", "close", "(II)I"⟩, 38), (⟨"StoneGhostsModel", "refusal", "()I"⟩, 38), (⟨"StoneGhostsModel", "store", "([I)V"⟩, 38), (⟨"StoneGhostsModel", "goShop", "()V"⟩, 38), (⟨"StoneGhostsModel", "beginCount", "()V"⟩, 38), (⟨"StoneGhostsModel", "whyNot", "(III)I"⟩, 38), (⟨"StoneGhostsModel", "happen", "(III)V"⟩, 38), (⟨"StoneGhostsModel", "pullOnce", "(I)V"⟩, 38), (⟨"StoneGhostsModel", "wearOf", "(I)I"⟩, 38), (⟨"StoneGhostsModel", "ghostFat", "(II)I"⟩, 38), (⟨"StoneGhostsModel", "ghostOn", "(II)I"⟩, 38), (⟨"StoneGhostsModel", "grindFor", "(III)V"⟩, 38)]
theorem lw_r1 : ∀ q ∈ lw_privs_1, lw_okq q := List.forall_mem_cons.mpr ⟨lw_p0, List.forall_mem_cons.mpr ⟨lw_p1, List.forall_mem_cons.mpr ⟨lw_p2, List.forall_mem_cons.mpr ⟨lw_p3, List.forall_mem_cons.mpr ⟨lw_p4, List.forall_mem_cons.mpr ⟨lw_p5, List.forall_mem_cons.mpr ⟨lw_p6, List.forall_mem_cons.mpr ⟨lw_p7, List.forall_mem_cons.mpr ⟨lw_p8, List.forall_mem_cons.mpr ⟨lw_p9, List.forall_mem_cons.mpr ⟨lw_p10, List.forall_mem_cons.mpr ⟨lw_p11, List.forall_mem_cons.mpr ⟨lw_p12, List.forall_mem_cons.mpr ⟨lw_p13, List.forall_mem_cons.mpr ⟨lw_p14, List.forall_mem_cons.mpr ⟨lw_p15, fun _ h => absurd h List.not_mem_nil⟩⟩⟩⟩⟩⟩⟩⟩⟩⟩⟩⟩⟩⟩⟩⟩
theorem lw_p16 : lw_okq (⟨"StoneGhostsModel", "putBack", "()V"⟩, 38) := ⟨⟨by decide +kernel, by decide +kernel⟩, List.mem_of_getElem? (i := 740) (by decide +kernel), List.mem_of_getElem? (i := 992) (by decide +kernel), List.mem_of_getElem? (i := 993) (by decide +kernel)⟩
theorem lw_p17 : lw_okq (⟨"StoneGhostsModel", "lasts", "(IIII)I"⟩, 38) := ⟨⟨by decide +kernel, by decide +kernel⟩, List.mem_of_getElem? (i := 740) (by decide +kernel), List.mem_of_getElem? (i := 1020) (by decide +kernel), List.mem_of_getElem? (i := 1021) (by decide +kernel)⟩
theorem lw_p18 : lw_okq (⟨"StoneGhostsModel", "layOrders", "(II)V"⟩, 38) := ⟨⟨by decide +kernel, by decide +kernel⟩, List.mem_of_getElem? (i := 740) (by decide +kernel), List.mem_of_getElem? (i := 1037) (by decide +kernel), List.mem_of_getElem? (i := 1038) (by decide +kernel)⟩
theorem lw_p19 : lw_okq (⟨"StoneGhostsModel", "bestFrom", "(II)I"⟩, 38) := ⟨⟨by decide +kernel, by decide +kernel⟩, List.mem_of_getElem? (i := 740) (by decide +kernel), List.mem_of_getElem? (i := 1041) (by decide +kernel), List.mem_of_getElem? (i := 1042) (by decide +kernel)⟩
theorem lw_p20 : lw_okq (⟨"StoneGhostsModel", "withOn", "(III)I"⟩, 38) := ⟨⟨by decide +kernel, by decide +kernel⟩, List.mem_of_getElem? (i := 740) (by decide +kernel), List.mem_of_getElem? (i := 1045) (by decide +kernel), List.mem_of_getElem? (i := 1046) (by decide +kernel)⟩
theorem lw_p21 : lw_okq (⟨"StoneGhostsModel", "fits", "(II)Z"⟩, 38) := ⟨⟨by decide +kernel, by decide +kernel⟩, List.mem_of_getElem? (i := 740) (by decide +kernel), List.mem_of_getElem? (i := 1080) (by decide +kernel), List.mem_of_getElem? (i := 1081) (by decide +kernel)⟩
theorem lw_p22 : lw_okq (⟨"StoneGhostsModel", "shows", "(IIII)Z"⟩, 38) := ⟨⟨by decide +kernel, by decide +kernel⟩, List.mem_of_getElem? (i := 740) (by decide +kernel), List.mem_of_getElem? (i := 1084) (by decide +kernel), List.mem_of_getElem? (i := 1085) (by decide +kernel)⟩
theorem lw_p23 : lw_okq (⟨"StoneGhostsModel", "mostLeft", "(II)I"⟩, 38) := ⟨⟨by decide +kernel, by decide +kernel⟩, List.mem_of_getElem? (i := 740) (by decide +kernel), List.mem_of_getElem? (i := 1097) (by decide +kernel), List.mem_of_getElem? (i := 1098) (by decide +kernel)⟩
theorem lw_p24 : lw_okq (⟨"StoneGhostsModel", "passAll", "()V"⟩, 38) := ⟨⟨by decide +kernel, by decide +kernel⟩, List.mem_of_getElem? (i := 740) (by decide +kernel), List.mem_of_getElem? (i := 1112) (by decide +kernel), List.mem_of_getElem? (i := 1113) (by decide +kernel)⟩
theorem lw_p25 : lw_okq (⟨"StoneGhostsModel", "passStones", "()V"⟩, 38) := ⟨⟨by decide +kernel, by decide +kernel⟩, List.mem_of_getElem? (i := 740) (by decide +kernel), List.mem_of_getElem? (i := 1116) (by decide +kernel), List.mem_of_getElem? (i := 1117) (by decide +kernel)⟩
theorem lw_p26 : lw_okq (⟨"StoneGhostsModel", "pass", "(I)I"⟩, 38) := ⟨⟨by decide +kernel, by decide +kernel⟩, List.mem_of_getElem? (i := 740) (by decide +kernel), List.mem_of_getElem? (i := 1120) (by decide +kernel), List.mem_of_getElem? (i := 1121) (by decide +kernel)⟩
theorem lw_p27 : lw_okq (⟨"StoneGhostsModel", "toldOfPicture", "(II)I"⟩, 38) := ⟨⟨by decide +kernel, by decide +kernel⟩, List.mem_of_getElem? (i := 740) (by decide +kernel), List.mem_of_getElem? (i := 1136) (by decide +kernel), List.mem_of_getElem? (i := 1137) (by decide +kernel)⟩
theorem lw_p28 : lw_okq (⟨"StoneGhostsModel", "toldOfStone", "(II)I"⟩, 38) := ⟨⟨by decide +kernel, by decide +kernel⟩, List.mem_of_getElem? (i := 740) (by decide +kernel), List.mem_of_getElem? (i := 1143) (by decide +kernel), List.mem_of_getElem? (i := 1144) (by decide +kernel)⟩
def lw_privs_2 : List (MethodName × Nat) := [(⟨"StoneGhostsModel", "putBack", "()V"⟩, 38), (⟨"StoneGhostsModel", "lasts", "(IIII)I"⟩, 38), (⟨"StoneGhostsModel", "layOrders", "(II)V"⟩, 38), (⟨"StoneGhostsModel", "bestFrom", "(II)I"⟩, 38), (⟨"StoneGhostsModel", "withOn", "(III)I"⟩, 38), (⟨"StoneGhostsModel", "fits", "(II)Z"⟩, 38), (⟨"StoneGhostsModel", "shows", "(IIII)Z"⟩, 38), (⟨"StoneGhostsModel", "mostLeft", "(II)I"⟩, 38), (⟨"StoneGhostsModel", "passAll", "()V"⟩, 38), (⟨"StoneGhostsModel", "passStones", "()V"⟩, 38), (⟨"StoneGhostsModel", "pass", "(I)I"⟩, 38), (⟨"StoneGhostsModel", "toldOfPicture", "(II)I"⟩, 38), (⟨"StoneGhostsModel", "toldOfStone", "(II)I"⟩, 38)]
theorem lw_r2 : ∀ q ∈ lw_privs_2, lw_okq q := List.forall_mem_cons.mpr ⟨lw_p16, List.forall_mem_cons.mpr ⟨lw_p17, List.forall_mem_cons.mpr ⟨lw_p18, List.forall_mem_cons.mpr ⟨lw_p19, List.forall_mem_cons.mpr ⟨lw_p20, List.forall_mem_cons.mpr ⟨lw_p21, List.forall_mem_cons.mpr ⟨lw_p22, List.forall_mem_cons.mpr ⟨lw_p23, List.forall_mem_cons.mpr ⟨lw_p24, List.forall_mem_cons.mpr ⟨lw_p25, List.forall_mem_cons.mpr ⟨lw_p26, List.forall_mem_cons.mpr ⟨lw_p27, List.forall_mem_cons.mpr ⟨lw_p28, fun _ h => absurd h List.not_mem_nil⟩⟩⟩⟩⟩⟩⟩⟩⟩⟩⟩⟩⟩
def lw_privs : List (MethodName × Nat) := lw_privs_1 ++ (lw_privs_2)
def lw_tbl : List Cond := k2_sels lw_privs ++ tables_1
theorem lw_privs_ok : ∀ q ∈ lw_privs, lw_okq q := by
  show ∀ q ∈ lw_privs_1 ++ (lw_privs_2), lw_okq q
  exact List.forall_mem_append.mpr ⟨lw_r1, lw_r2⟩
def RX0 : String := "StoneGhosts$Act"
def TX0 : u_T := fun k => match k with
  | 0 => ("StoneGhosts$Act", "stone", "I", false)
  | 1 => ("StoneGhosts$Act", "kind", "I", false)
  | _ => ("StoneGhosts$Act", "amount", "I", false)
def tyX0 : Nat → FieldType := fun k => match k with
  | 0 => .int
  | 1 => .int
  | _ => .int
theorem nmX0 : ∀ a, a < 3 → ∀ b, b < 3 → a ≠ b → (TX0 a).2.1 ≠ (TX0 b).2.1 := by decide +kernel
theorem tyX0_ok : ∀ k, k < 3 → parseFieldDescriptor (TX0 k).2.2.1 = some (tyX0 k) := by decide +kernel
abbrev cX0_init : ByteArray := prog_2_method_1_code
def yX0_init : MethodName := ⟨RX0, "<init>", "()V"⟩
abbrev cX0_become : ByteArray := prog_2_method_2_code
def yX0_become : MethodName := ⟨RX0, "become", "(III)V"⟩
def RX1 : String := "StoneGhosts$ColourTable"
def TX1 : u_T := fun k => match k with
  | 0 => ("StoneGhosts$ColourTable", "least", "[I", true)
  | _ => ("StoneGhosts$ColourTable", "size", "I", false)
def tyX1 : Nat → FieldType := fun k => match k with
  | 0 => .array .int
  | _ => .int
theorem nmX1 : ∀ a, a < 2 → ∀ b, b < 2 → a ≠ b → (TX1 a).2.1 ≠ (TX1 b).2.1 := by decide +kernel
theorem tyX1_ok : ∀ k, k < 2 → parseFieldDescriptor (TX1 k).2.2.1 = some (tyX1 k) := by decide +kernel
abbrev cX1_init : ByteArray := prog_3_method_1_code
def yX1_init : MethodName := ⟨RX1, "<init>", "()V"⟩
abbrev cX1_fill : ByteArray := prog_3_method_2_code
def yX1_fill : MethodName := ⟨RX1, "fill", "([II)V"⟩
abbrev cX1_firstBest : ByteArray := prog_3_method_3_code
def yX1_firstBest : MethodName := ⟨RX1, "firstBest", "([II)I"⟩
abbrev cX1_missedWith : ByteArray := prog_3_method_4_code
def yX1_missedWith : MethodName := ⟨RX1, "missedWith", "([III)I"⟩
def RX2 : String := "StoneGhosts$OrderTable"
def TX2 : u_T := fun k => match k with
  | 0 => ("StoneGhosts$OrderTable", "best", "[I", true)
  | 1 => ("StoneGhosts$OrderTable", "allowed", "[I", true)
  | _ => ("StoneGhosts$OrderTable", "pay", "[I", true)
def tyX2 : Nat → FieldType := fun k => match k with
  | 0 => .array .int
  | 1 => .array .int
  | _ => .array .int
theorem nmX2 : ∀ a, a < 3 → ∀ b, b < 3 → a ≠ b → (TX2 a).2.1 ≠ (TX2 b).2.1 := by decide +kernel
theorem tyX2_ok : ∀ k, k < 3 → parseFieldDescriptor (TX2 k).2.2.1 = some (tyX2 k) := by decide +kernel
abbrev cX2_init : ByteArray := prog_4_method_1_code
def yX2_init : MethodName := ⟨RX2, "<init>", "()V"⟩
abbrev cX2_fill : ByteArray := prog_4_method_2_code
def yX2_fill : MethodName := ⟨RX2, "fill", "(LStoneGhosts$Room;II)V"⟩
abbrev cX2_stonesFor : ByteArray := prog_4_method_3_code
def yX2_stonesFor : MethodName := ⟨RX2, "stonesFor", "(LStoneGhosts$Room;II)I"⟩
abbrev cX2_bestFrom : ByteArray := prog_4_method_4_code
def yX2_bestFrom : MethodName := ⟨RX2, "bestFrom", "(II)I"⟩
abbrev cX2_isFree : ByteArray := prog_4_method_5_code
def yX2_isFree : MethodName := ⟨RX2, "isFree", "(III)Z"⟩
abbrev cX2_payWith : ByteArray := prog_4_method_6_code
def yX2_payWith : MethodName := ⟨RX2, "payWith", "(III)I"⟩
abbrev cX2_payBehind : ByteArray := prog_4_method_7_code
def yX2_payBehind : MethodName := ⟨RX2, "payBehind", "(II)I"⟩
abbrev cX2_mostPay : ByteArray := prog_4_method_8_code
def yX2_mostPay : MethodName := ⟨RX2, "mostPay", "()I"⟩
abbrev cX2_stoneFor : ByteArray := prog_4_method_9_code
def yX2_stoneFor : MethodName := ⟨RX2, "stoneFor", "(I)I"⟩
abbrev cX2_firstBest : ByteArray := prog_4_method_10_code
def yX2_firstBest : MethodName := ⟨RX2, "firstBest", "(II)I"⟩
def RX3 : String := "StoneGhosts$Pad"
def TX3 : u_T := fun k => match k with
  | 0 => ("StoneGhosts$Pad", "size", "I", false)
  | _ => ("StoneGhosts$Pad", "signs", "[I", true)
def tyX3 : Nat → FieldType := fun k => match k with
  | 0 => .int
  | _ => .array .int
theorem nmX3 : ∀ a, a < 2 → ∀ b, b < 2 → a ≠ b → (TX3 a).2.1 ≠ (TX3 b).2.1 := by decide +kernel
theorem tyX3_ok : ∀ k, k < 2 → parseFieldDescriptor (TX3 k).2.2.1 = some (tyX3 k) := by decide +kernel
abbrev cX3_init : ByteArray := prog_5_method_1_code
def yX3_init : MethodName := ⟨RX3, "<init>", "()V"⟩
abbrev cX3_write : ByteArray := prog_5_method_2_code
def yX3_write : MethodName := ⟨RX3, "write", "(I)Z"⟩
abbrev cX3_signAt : ByteArray := prog_5_method_3_code
def yX3_signAt : MethodName := ⟨RX3, "signAt", "(I)I"⟩
abbrev cX3_firstFault : ByteArray := prog_5_method_4_code
def yX3_firstFault : MethodName := ⟨RX3, "firstFault", "()I"⟩
abbrev cX3_hasThird : ByteArray := prog_5_method_5_code
def yX3_hasThird : MethodName := ⟨RX3, "hasThird", "(I)Z"⟩
abbrev cX3_readAct : ByteArray := prog_5_method_6_code
def yX3_readAct : MethodName := ⟨RX3, "readAct", "(ILStoneGhosts$Act;)V"⟩
abbrev cX3_isStone : ByteArray := prog_5_method_7_code
def yX3_isStone : MethodName := ⟨RX3, "isStone", "(I)Z"⟩
abbrev cX3_isPicture : ByteArray := prog_5_method_8_code
def yX3_isPicture : MethodName := ⟨RX3, "isPicture", "(I)Z"⟩
abbrev cX3_isDigit : ByteArray := prog_5_method_9_code
def yX3_isDigit : MethodName := ⟨RX3, "isDigit", "(I)Z"⟩
abbrev cX3_takesDigit : ByteArray := prog_5_method_10_code
def yX3_takesDigit : MethodName := ⟨RX3, "takesDigit", "(I)Z"⟩
def RX4 : String := "StoneGhosts$Room"
def TX4 : u_T := fun k => match k with
  | 0 => ("StoneGhosts$Room", "shelf", "LStoneGhosts$Shelf;", true)
  | 1 => ("StoneGhosts$Room", "rules", "LStoneGhosts$Rules;", true)
  | _ => ("StoneGhosts$Room", "sights", "LStoneGhosts$Sights;", true)
def tyX4 : Nat → FieldType := fun k => match k with
  | 0 => .object "StoneGhosts$Shelf"
  | 1 => .object "StoneGhosts$Rules"
  | _ => .object "StoneGhosts$Sights"
theorem nmX4 : ∀ a, a < 3 → ∀ b, b < 3 → a ≠ b → (TX4 a).2.1 ≠ (TX4 b).2.1 := by decide +kernel
theorem tyX4_ok : ∀ k, k < 3 → parseFieldDescriptor (TX4 k).2.2.1 = some (tyX4 k) := by decide +kernel
abbrev cX4_init : ByteArray := prog_6_method_1_code
def yX4_init : MethodName := ⟨RX4, "<init>", "()V"⟩
abbrev cX4_copyFrom : ByteArray := prog_6_method_2_code
def yX4_copyFrom : MethodName := ⟨RX4, "copyFrom", "(LStoneGhosts$Room;)V"⟩
abbrev cX4_wouldLast : ByteArray := prog_6_method_3_code
def yX4_wouldLast : MethodName := ⟨RX4, "wouldLast", "(IIII)Z"⟩
abbrev cX4_takesOrders : ByteArray := prog_6_method_4_code
def yX4_takesOrders : MethodName := ⟨RX4, "takesOrders", "(I)Z"⟩
abbrev cX4_countTwos : ByteArray := prog_6_method_5_code
def yX4_countTwos : MethodName := ⟨RX4, "countTwos", "(I)I"⟩
abbrev cX4_fewestMinutes : ByteArray := prog_6_method_6_code
def yX4_fewestMinutes : MethodName := ⟨RX4, "fewestMinutes", "(I)I"⟩
abbrev cX4_mostMinutes : ByteArray := prog_6_method_7_code
def yX4_mostMinutes : MethodName := ⟨RX4, "mostMinutes", "(I)I"⟩
abbrev cX4_mostLeft : ByteArray := prog_6_method_8_code
def yX4_mostLeft : MethodName := ⟨RX4, "mostLeft", "(II)I"⟩
def RX5 : String := "StoneGhosts$Rules"
def TX5 : u_T := fun k => match k with
  | 0 => ("StoneGhosts$Rules", "flat", "I", false)
  | 1 => ("StoneGhosts$Rules", "least", "I", false)
  | 2 => ("StoneGhosts$Rules", "deep", "[I", true)
  | 3 => ("StoneGhosts$Rules", "fine", "[I", true)
  | 4 => ("StoneGhosts$Rules", "pay", "[I", true)
  | _ => ("StoneGhosts$Rules", "hair", "[I", true)
def tyX5 : Nat → FieldType := fun k => match k with
  | 0 => .int
  | 1 => .int
  | 2 => .array .int
  | 3 => .array .int
  | 4 => .array .int
  | _ => .array .int
theorem nmX5 : ∀ a, a < 6 → ∀ b, b < 6 → a ≠ b → (TX5 a).2.1 ≠ (TX5 b).2.1 := by decide +kernel
theorem tyX5_ok : ∀ k, k < 6 → parseFieldDescriptor (TX5 k).2.2.1 = some (tyX5 k) := by decide +kernel
abbrev cX5_init : ByteArray := prog_7_method_1_code
def yX5_init : MethodName := ⟨RX5, "<init>", "()V"⟩
abbrev cX5_copyFrom : ByteArray := prog_7_method_2_code
def yX5_copyFrom : MethodName := ⟨RX5, "copyFrom", "(LStoneGhosts$Rules;)V"⟩
abbrev cX5_tell : ByteArray := prog_7_method_3_code
def yX5_tell : MethodName := ⟨RX5, "tell", "(II)I"⟩
abbrev cX5_deepOf : ByteArray := prog_7_method_4_code
def yX5_deepOf : MethodName := ⟨RX5, "deepOf", "(I)I"⟩
abbrev cX5_payOf : ByteArray := prog_7_method_5_code
def yX5_payOf : MethodName := ⟨RX5, "payOf", "(I)I"⟩
abbrev cX5_wear : ByteArray := prog_7_method_6_code
def yX5_wear : MethodName := ⟨RX5, "wear", "(I)I"⟩
abbrev cX5_minutesShowing : ByteArray := prog_7_method_7_code
def yX5_minutesShowing : MethodName := ⟨RX5, "minutesShowing", "(III)I"⟩
def RX6 : String := "StoneGhosts$Shelf"
def TX6 : u_T := fun k => match k with
  | 0 => ("StoneGhosts$Shelf", "there", "I", false)
  | 1 => ("StoneGhosts$Shelf", "thick", "[I", true)
  | 2 => ("StoneGhosts$Shelf", "hollow", "[I", true)
  | 3 => ("StoneGhosts$Shelf", "damp", "[I", true)
  | 4 => ("StoneGhosts$Shelf", "fresh", "[I", true)
  | 5 => ("StoneGhosts$Shelf", "pulls", "[I", true)
  | _ => ("StoneGhosts$Shelf", "fats", "[I", true)
def tyX6 : Nat → FieldType := fun k => match k with
  | 0 => .int
  | 1 => .array .int
  | 2 => .array .int
  | 3 => .array .int
  | 4 => .array .int
  | 5 => .array .int
  | _ => .array .int
theorem nmX6 : ∀ a, a < 7 → ∀ b, b < 7 → a ≠ b → (TX6 a).2.1 ≠ (TX6 b).2.1 := by decide +kernel
theorem tyX6_ok : ∀ k, k < 7 → parseFieldDescriptor (TX6 k).2.2.1 = some (tyX6 k) := by decide +kernel
abbrev cX6_init : ByteArray := prog_8_method_1_code
def yX6_init : MethodName := ⟨RX6, "<init>", "()V"⟩
abbrev cX6_has : ByteArray := prog_8_method_2_code
def yX6_has : MethodName := ⟨RX6, "has", "(I)Z"⟩
abbrev cX6_count : ByteArray := prog_8_method_3_code
def yX6_count : MethodName := ⟨RX6, "count", "()I"⟩
abbrev cX6_countFresh : ByteArray := prog_8_method_4_code
def yX6_countFresh : MethodName := ⟨RX6, "countFresh", "()I"⟩
abbrev cX6_put : ByteArray := prog_8_method_5_code
def yX6_put : MethodName := ⟨RX6, "put", "(IIII)V"⟩
abbrev cX6_take : ByteArray := prog_8_method_6_code
def yX6_take : MethodName := ⟨RX6, "take", "(I)V"⟩
abbrev cX6_copyFrom : ByteArray := prog_8_method_7_code
def yX6_copyFrom : MethodName := ⟨RX6, "copyFrom", "(LStoneGhosts$Shelf;)V"⟩
abbrev cX6_tell : ByteArray := prog_8_method_8_code
def yX6_tell : MethodName := ⟨RX6, "tell", "(II)I"⟩
abbrev cX6_fatOf : ByteArray := prog_8_method_9_code
def yX6_fatOf : MethodName := ⟨RX6, "fatOf", "(II)I"⟩
abbrev cX6_ghostFat : ByteArray := prog_8_method_10_code
def yX6_ghostFat : MethodName := ⟨RX6, "ghostFat", "(II)I"⟩
abbrev cX6_greatestGhost : ByteArray := prog_8_method_11_code
def yX6_greatestGhost : MethodName := ⟨RX6, "greatestGhost", "(II)I"⟩
abbrev cX6_draw : ByteArray := prog_8_method_12_code
def yX6_draw : MethodName := ⟨RX6, "draw", "(III)V"⟩
abbrev cX6_grindOff : ByteArray := prog_8_method_13_code
def yX6_grindOff : MethodName := ⟨RX6, "grindOff", "(IIZ)V"⟩
abbrev cX6_wet : ByteArray := prog_8_method_14_code
def yX6_wet : MethodName := ⟨RX6, "wet", "(II)V"⟩
abbrev cX6_glueBelow : ByteArray := prog_8_method_15_code
def yX6_glueBelow : MethodName := ⟨RX6, "glueBelow", "(II)V"⟩
abbrev cX6_pullOnce : ByteArray := prog_8_method_16_code
def yX6_pullOnce : MethodName := ⟨RX6, "pullOnce", "(II)I"⟩
def RX7 : String := "StoneGhosts$Sights"
def TX7 : u_T := fun k => match k with
  | 0 => ("StoneGhosts$Sights", "size", "I", false)
  | 1 => ("StoneGhosts$Sights", "shown", "I", false)
  | 2 => ("StoneGhosts$Sights", "drawn", "[I", true)
  | _ => ("StoneGhosts$Sights", "pull", "[I", true)
def tyX7 : Nat → FieldType := fun k => match k with
  | 0 => .int
  | 1 => .int
  | 2 => .array .int
  | _ => .array .int
theorem nmX7 : ∀ a, a < 4 → ∀ b, b < 4 → a ≠ b → (TX7 a).2.1 ≠ (TX7 b).2.1 := by decide +kernel
theorem tyX7_ok : ∀ k, k < 4 → parseFieldDescriptor (TX7 k).2.2.1 = some (tyX7 k) := by decide +kernel
abbrev cX7_init : ByteArray := prog_9_method_1_code
def yX7_init : MethodName := ⟨RX7, "<init>", "()V"⟩
abbrev cX7_add : ByteArray := prog_9_method_2_code
def yX7_add : MethodName := ⟨RX7, "add", "(IIZ)Z"⟩
abbrev cX7_copyFrom : ByteArray := prog_9_method_3_code
def yX7_copyFrom : MethodName := ⟨RX7, "copyFrom", "(LStoneGhosts$Sights;)V"⟩
def RX8 : String := "StoneGhosts$Tally"
def TX8 : u_T := fun k => match k with
  | 0 => ("StoneGhosts$Tally", "pulled", "I", false)
  | 1 => ("StoneGhosts$Tally", "firstHaunted", "I", false)
  | 2 => ("StoneGhosts$Tally", "haunter", "I", false)
  | _ => ("StoneGhosts$Tally", "ofKind", "[I", true)
def tyX8 : Nat → FieldType := fun k => match k with
  | 0 => .int
  | 1 => .int
  | 2 => .int
  | _ => .array .int
theorem nmX8 : ∀ a, a < 4 → ∀ b, b < 4 → a ≠ b → (TX8 a).2.1 ≠ (TX8 b).2.1 := by decide +kernel
theorem tyX8_ok : ∀ k, k < 4 → parseFieldDescriptor (TX8 k).2.2.1 = some (tyX8 k) := by decide +kernel
abbrev cX8_init : ByteArray := prog_10_method_1_code
def yX8_init : MethodName := ⟨RX8, "<init>", "()V"⟩
abbrev cX8_clear : ByteArray := prog_10_method_2_code
def yX8_clear : MethodName := ⟨RX8, "clear", "()V"⟩
abbrev cX8_add : ByteArray := prog_10_method_3_code
def yX8_add : MethodName := ⟨RX8, "add", "(II)V"⟩
def RX9 : String := "StoneGhosts$Trial"
def TX9 : u_T := fun k => match k with
  | 0 => ("StoneGhosts$Trial", "rules", "LStoneGhosts$Rules;", true)
  | 1 => ("StoneGhosts$Trial", "shelf", "LStoneGhosts$Shelf;", true)
  | 2 => ("StoneGhosts$Trial", "tally", "LStoneGhosts$Tally;", true)
  | 3 => ("StoneGhosts$Trial", "act", "LStoneGhosts$Act;", true)
  | 4 => ("StoneGhosts$Trial", "acts", "I", false)
  | 5 => ("StoneGhosts$Trial", "stoppedAt", "I", false)
  | _ => ("StoneGhosts$Trial", "why", "I", false)
def tyX9 : Nat → FieldType := fun k => match k with
  | 0 => .object "StoneGhosts$Rules"
  | 1 => .object "StoneGhosts$Shelf"
  | 2 => .object "StoneGhosts$Tally"
  | 3 => .object "StoneGhosts$Act"
  | 4 => .int
  | 5 => .int
  | _ => .int
theorem nmX9 : ∀ a, a < 7 → ∀ b, b < 7 → a ≠ b → (TX9 a).2.1 ≠ (TX9 b).2.1 := by decide +kernel
theorem tyX9_ok : ∀ k, k < 7 → parseFieldDescriptor (TX9 k).2.2.1 = some (tyX9 k) := by decide +kernel
abbrev cX9_init : ByteArray := prog_11_method_1_code
def yX9_init : MethodName := ⟨RX9, "<init>", "()V"⟩
abbrev cX9_begin : ByteArray := prog_11_method_2_code
def yX9_begin : MethodName := ⟨RX9, "begin", "(LStoneGhosts$Room;)V"⟩
abbrev cX9_playPad : ByteArray := prog_11_method_3_code
def yX9_playPad : MethodName := ⟨RX9, "playPad", "(LStoneGhosts$Pad;)V"⟩
abbrev cX9_playYear : ByteArray := prog_11_method_4_code
def yX9_playYear : MethodName := ⟨RX9, "playYear", "(II)V"⟩
abbrev cX9_readDraw : ByteArray := prog_11_method_5_code
def yX9_readDraw : MethodName := ⟨RX9, "readDraw", "(I)V"⟩
abbrev cX9_reasonAgainst : ByteArray := prog_11_method_6_code
def yX9_reasonAgainst : MethodName := ⟨RX9, "reasonAgainst", "()I"⟩
abbrev cX9_reasonAgainstDraw : ByteArray := prog_11_method_7_code
def yX9_reasonAgainstDraw : MethodName := ⟨RX9, "reasonAgainstDraw", "(I)I"⟩
abbrev cX9_reasonAgainstPulls : ByteArray := prog_11_method_8_code
def yX9_reasonAgainstPulls : MethodName := ⟨RX9, "reasonAgainstPulls", "(I)I"⟩
abbrev cX9_carryOut : ByteArray := prog_11_method_9_code
def yX9_carryOut : MethodName := ⟨RX9, "carryOut", "()V"⟩
abbrev cX9_pullSeveral : ByteArray := prog_11_method_10_code
def yX9_pullSeveral : MethodName := ⟨RX9, "pullSeveral", "(II)V"⟩
def RX10 : String := "StoneGhosts"
def TX10 : u_T := fun k => match k with
  | 0 => ("StoneGhosts", "room", "LStoneGhosts$Room;", true)
  | 1 => ("StoneGhosts", "pad", "LStoneGhosts$Pad;", true)
  | 2 => ("StoneGhosts", "trial", "LStoneGhosts$Trial;", true)
  | 3 => ("StoneGhosts", "orderTable", "LStoneGhosts$OrderTable;", true)
  | 4 => ("StoneGhosts", "colourTable", "LStoneGhosts$ColourTable;", true)
  | _ => ("StoneGhosts", "images", "[LStoneGhosts$Room;", true)
def tyX10 : Nat → FieldType := fun k => match k with
  | 0 => .object "StoneGhosts$Room"
  | 1 => .object "StoneGhosts$Pad"
  | 2 => .object "StoneGhosts$Trial"
  | 3 => .object "StoneGhosts$OrderTable"
  | 4 => .object "StoneGhosts$ColourTable"
  | _ => .array (.object "StoneGhosts$Room")
theorem nmX10 : ∀ a, a < 6 → ∀ b, b < 6 → a ≠ b → (TX10 a).2.1 ≠ (TX10 b).2.1 := by decide +kernel
theorem tyX10_ok : ∀ k, k < 6 → parseFieldDescriptor (TX10 k).2.2.1 = some (tyX10 k) := by decide +kernel
abbrev cX10_init : ByteArray := prog_1_method_1_code
def yX10_init : MethodName := ⟨RX10, "<init>", "()V"⟩
abbrev cX10_stone : ByteArray := prog_1_method_2_code
def yX10_stone : MethodName := ⟨RX10, "stone", "(IIII)I"⟩
abbrev cX10_smash : ByteArray := prog_1_method_3_code
def yX10_smash : MethodName := ⟨RX10, "smash", "(I)I"⟩
abbrev cX10_picture : ByteArray := prog_1_method_4_code
def yX10_picture : MethodName := ⟨RX10, "picture", "(IIII)I"⟩
abbrev cX10_set : ByteArray := prog_1_method_5_code
def yX10_set : MethodName := ⟨RX10, "set", "(II)I"⟩
abbrev cX10_hairs : ByteArray := prog_1_method_6_code
def yX10_hairs : MethodName := ⟨RX10, "hairs", "(II)I"⟩
abbrev cX10_say : ByteArray := prog_1_method_7_code
def yX10_say : MethodName := ⟨RX10, "say", "(I)I"⟩
abbrev cX10_wipe : ByteArray := prog_1_method_8_code
def yX10_wipe : MethodName := ⟨RX10, "wipe", "()I"⟩
abbrev cX10_fault : ByteArray := prog_1_method_9_code
def yX10_fault : MethodName := ⟨RX10, "fault", "()I"⟩
abbrev cX10_judge : ByteArray := prog_1_method_10_code
def yX10_judge : MethodName := ⟨RX10, "judge", "(I)I"⟩
abbrev cX10_kinds : ByteArray := prog_1_method_11_code
def yX10_kinds : MethodName := ⟨RX10, "kinds", "(I)I"⟩
abbrev cX10_behind : ByteArray := prog_1_method_12_code
def yX10_behind : MethodName := ⟨RX10, "behind", "(II)I"⟩
abbrev cX10_fat : ByteArray := prog_1_method_13_code
def yX10_fat : MethodName := ⟨RX10, "fat", "(II)I"⟩
abbrev cX10_sky : ByteArray := prog_1_method_14_code
def yX10_sky : MethodName := ⟨RX10, "sky", "(I)I"⟩
abbrev cX10_done : ByteArray := prog_1_method_15_code
def yX10_done : MethodName := ⟨RX10, "done", "()I"⟩
abbrev cX10_tryShop : ByteArray := prog_1_method_16_code
def yX10_tryShop : MethodName := ⟨RX10, "tryShop", "()I"⟩
abbrev cX10_clean : ByteArray := prog_1_method_17_code
def yX10_clean : MethodName := ⟨RX10, "clean", "(I)I"⟩
abbrev cX10_grind : ByteArray := prog_1_method_18_code
def yX10_grind : MethodName := ⟨RX10, "grind", "(III)I"⟩
abbrev cX10_lives : ByteArray := prog_1_method_19_code
def yX10_lives : MethodName := ⟨RX10, "lives", "(II)I"⟩
abbrev cX10_orders : ByteArray := prog_1_method_20_code
def yX10_orders : MethodName := ⟨RX10, "orders", "(III)I"⟩
abbrev cX10_colours : ByteArray := prog_1_method_21_code
def yX10_colours : MethodName := ⟨RX10, "colours", "(II)I"⟩
abbrev cX10_crack : ByteArray := prog_1_method_22_code
def yX10_crack : MethodName := ⟨RX10, "crack", "(IIIII)J"⟩
abbrev cX10_seen : ByteArray := prog_1_method_23_code
def yX10_seen : MethodName := ⟨RX10, "seen", "(IIZ)I"⟩
abbrev cX10_forget : ByteArray := prog_1_method_24_code
def yX10_forget : MethodName := ⟨RX10, "forget", "()I"⟩
abbrev cX10_whose : ByteArray := prog_1_method_25_code
def yX10_whose : MethodName := ⟨RX10, "whose", "(I)I"⟩
abbrev cX10_suspects : ByteArray := prog_1_method_26_code
def yX10_suspects : MethodName := ⟨RX10, "suspects", "()I"⟩
abbrev cX10_next : ByteArray := prog_1_method_27_code
def yX10_next : MethodName := ⟨RX10, "next", "(II)I"⟩
abbrev cX10_year : ByteArray := prog_1_method_28_code
def yX10_year : MethodName := ⟨RX10, "year", "(III)I"⟩
abbrev cX10_image : ByteArray := prog_1_method_29_code
def yX10_image : MethodName := ⟨RX10, "image", "(I)I"⟩
abbrev cX10_restore : ByteArray := prog_1_method_30_code
def yX10_restore : MethodName := ⟨RX10, "restore", "(I)I"⟩
abbrev cX10_told : ByteArray := prog_1_method_31_code
def yX10_told : MethodName := ⟨RX10, "told", "(I)I"⟩
abbrev cX10_tellWhole : ByteArray := prog_1_method_32_code
def yX10_tellWhole : MethodName := ⟨RX10, "tellWhole", "(I)I"⟩
abbrev cX10_inside : ByteArray := prog_1_method_33_code
def yX10_inside : MethodName := ⟨RX10, "inside", "(III)Z"⟩
abbrev cX10_hasBit : ByteArray := prog_1_method_34_code
def yX10_hasBit : MethodName := ⟨RX10, "hasBit", "(II)Z"⟩
abbrev cX10_pullsAhead : ByteArray := prog_1_method_35_code
def yX10_pullsAhead : MethodName := ⟨RX10, "pullsAhead", "(IIII)I"⟩
abbrev cX10_lowestTerms : ByteArray := prog_1_method_36_code
def yX10_lowestTerms : MethodName := ⟨RX10, "lowestTerms", "(JJI)J"⟩
def RX11 : String := "StoneGhostsModel"
def TX11 : u_T := fun k => match k with
  | 0 => ("StoneGhostsModel", "stones", "I", false)
  | 1 => ("StoneGhostsModel", "flat", "I", false)
  | 2 => ("StoneGhostsModel", "leastThick", "I", false)
  | 3 => ("StoneGhostsModel", "thick", "[I", true)
  | 4 => ("StoneGhostsModel", "hollow", "[I", true)
  | 5 => ("StoneGhostsModel", "damp", "[I", true)
  | 6 => ("StoneGhostsModel", "fresh", "[I", true)
  | 7 => ("StoneGhostsModel", "pulls", "[I", true)
  | 8 => ("StoneGhostsModel", "fats", "[I", true)
  | 9 => ("StoneGhostsModel", "deep", "[I", true)
  | 10 => ("StoneGhostsModel", "fine", "[I", true)
  | 11 => ("StoneGhostsModel", "pay", "[I", true)
  | 12 => ("StoneGhostsModel", "hair", "[I", true)
  | 13 => ("StoneGhostsModel", "sightPicture", "[I", true)
  | 14 => ("StoneGhostsModel", "sightPull", "[I", true)
  | 15 => ("StoneGhostsModel", "sightShows", "[I", true)
  | 16 => ("StoneGhostsModel", "sights", "I", false)
  | 17 => ("StoneGhostsModel", "pad", "[I", true)
  | 18 => ("StoneGhostsModel", "padMany", "I", false)
  | 19 => ("StoneGhostsModel", "act", "[I", true)
  | 20 => ("StoneGhostsModel", "where", "[I", true)
  | 21 => ("StoneGhostsModel", "much", "[I", true)
  | 22 => ("StoneGhostsModel", "acts", "I", false)
  | 23 => ("StoneGhostsModel", "pulled", "I", false)
  | 24 => ("StoneGhostsModel", "kindMany", "[I", true)
  | 25 => ("StoneGhostsModel", "skyPull", "I", false)
  | 26 => ("StoneGhostsModel", "skyWhose", "I", false)
  | 27 => ("StoneGhostsModel", "had", "[I", true)
  | 28 => ("StoneGhostsModel", "leaves", "[I", true)
  | 29 => ("StoneGhostsModel", "badAct", "I", false)
  | 30 => ("StoneGhostsModel", "badWhy", "I", false)
  | 31 => ("StoneGhostsModel", "mostPay", "[I", true)
  | 32 => ("StoneGhostsModel", "canLast", "[Z", true)
  | 33 => ("StoneGhostsModel", "leastMissed", "[I", true)
  | 34 => ("StoneGhostsModel", "kept", "[I", true)
  | 35 => ("StoneGhostsModel", "isKept", "[Z", true)
  | 36 => ("StoneGhostsModel", "keptAt", "I", false)
  | _ => ("StoneGhostsModel", "isWriting", "Z", false)
def tyX11 : Nat → FieldType := fun k => match k with
  | 0 => .int
  | 1 => .int
  | 2 => .int
  | 3 => .array .int
  | 4 => .array .int
  | 5 => .array .int
  | 6 => .array .int
  | 7 => .array .int
  | 8 => .array .int
  | 9 => .array .int
  | 10 => .array .int
  | 11 => .array .int
  | 12 => .array .int
  | 13 => .array .int
  | 14 => .array .int
  | 15 => .array .int
  | 16 => .int
  | 17 => .array .int
  | 18 => .int
  | 19 => .array .int
  | 20 => .array .int
  | 21 => .array .int
  | 22 => .int
  | 23 => .int
  | 24 => .array .int
  | 25 => .int
  | 26 => .int
  | 27 => .array .int
  | 28 => .array .int
  | 29 => .int
  | 30 => .int
  | 31 => .array .int
  | 32 => .array .boolean
  | 33 => .array .int
  | 34 => .array .int
  | 35 => .array .boolean
  | 36 => .int
  | _ => .boolean
theorem nmX11 : ∀ a, a < 38 → ∀ b, b < 38 → a ≠ b → (TX11 a).2.1 ≠ (TX11 b).2.1 := by decide +kernel
theorem tyX11_ok : ∀ k, k < 38 → parseFieldDescriptor (TX11 k).2.2.1 = some (tyX11 k) := by decide +kernel
abbrev cX11_init : ByteArray := prog_13_method_1_code
def yX11_init : MethodName := ⟨RX11, "<init>", "()V"⟩
abbrev cX11_in : ByteArray := prog_13_method_3_code
def yX11_in : MethodName := ⟨RX11, "in", "(JJJ)Z"⟩
abbrev cX11_ones : ByteArray := prog_13_method_4_code
def yX11_ones : MethodName := ⟨RX11, "ones", "(I)I"⟩
abbrev cX11_size : ByteArray := prog_13_method_5_code
def yX11_size : MethodName := ⟨RX11, "size", "(I)I"⟩
abbrev cX11_notBelow0 : ByteArray := prog_13_method_6_code
def yX11_notBelow0 : MethodName := ⟨RX11, "notBelow0", "(I)I"⟩
abbrev cX11_isStone : ByteArray := prog_13_method_7_code
def yX11_isStone : MethodName := ⟨RX11, "isStone", "(I)Z"⟩
abbrev cX11_isPicture : ByteArray := prog_13_method_8_code
def yX11_isPicture : MethodName := ⟨RX11, "isPicture", "(I)Z"⟩
abbrev cX11_at : ByteArray := prog_13_method_9_code
def yX11_at : MethodName := ⟨RX11, "at", "(II)I"⟩
abbrev cX11_stone : ByteArray := prog_13_method_10_code
def yX11_stone : MethodName := ⟨RX11, "stone", "(IIII)I"⟩
abbrev cX11_smash : ByteArray := prog_13_method_11_code
def yX11_smash : MethodName := ⟨RX11, "smash", "(I)I"⟩
abbrev cX11_picture : ByteArray := prog_13_method_12_code
def yX11_picture : MethodName := ⟨RX11, "picture", "(IIII)I"⟩
abbrev cX11_set : ByteArray := prog_13_method_13_code
def yX11_set : MethodName := ⟨RX11, "set", "(II)I"⟩
abbrev cX11_hairs : ByteArray := prog_13_method_14_code
def yX11_hairs : MethodName := ⟨RX11, "hairs", "(II)I"⟩
abbrev cX11_say : ByteArray := prog_13_method_15_code
def yX11_say : MethodName := ⟨RX11, "say", "(I)I"⟩
abbrev cX11_wipe : ByteArray := prog_13_method_16_code
def yX11_wipe : MethodName := ⟨RX11, "wipe", "()I"⟩
abbrev cX11_stoneOf : ByteArray := prog_13_method_17_code
def yX11_stoneOf : MethodName := ⟨RX11, "stoneOf", "(I)I"⟩
abbrev cX11_close : ByteArray := prog_13_method_18_code
def yX11_close : MethodName := ⟨RX11, "close", "(II)I"⟩
abbrev cX11_readOn : ByteArray := prog_13_method_19_code
def yX11_readOn : MethodName := ⟨RX11, "readOn", "(II)I"⟩
abbrev cX11_fault : ByteArray := prog_13_method_20_code
def yX11_fault : MethodName := ⟨RX11, "fault", "()I"⟩
abbrev cX11_whyNot : ByteArray := prog_13_method_21_code
def yX11_whyNot : MethodName := ⟨RX11, "whyNot", "(III)I"⟩
abbrev cX11_wearOf : ByteArray := prog_13_method_22_code
def yX11_wearOf : MethodName := ⟨RX11, "wearOf", "(I)I"⟩
abbrev cX11_ghostOn : ByteArray := prog_13_method_23_code
def yX11_ghostOn : MethodName := ⟨RX11, "ghostOn", "(II)I"⟩
abbrev cX11_ghostFat : ByteArray := prog_13_method_24_code
def yX11_ghostFat : MethodName := ⟨RX11, "ghostFat", "(II)I"⟩
abbrev cX11_pullOnce : ByteArray := prog_13_method_25_code
def yX11_pullOnce : MethodName := ⟨RX11, "pullOnce", "(I)V"⟩
abbrev cX11_grindFor : ByteArray := prog_13_method_26_code
def yX11_grindFor : MethodName := ⟨RX11, "grindFor", "(III)V"⟩
abbrev cX11_happen : ByteArray := prog_13_method_27_code
def yX11_happen : MethodName := ⟨RX11, "happen", "(III)V"⟩
abbrev cX11_store : ByteArray := prog_13_method_28_code
def yX11_store : MethodName := ⟨RX11, "store", "([I)V"⟩
abbrev cX11_putBack : ByteArray := prog_13_method_29_code
def yX11_putBack : MethodName := ⟨RX11, "putBack", "()V"⟩
abbrev cX11_beginCount : ByteArray := prog_13_method_30_code
def yX11_beginCount : MethodName := ⟨RX11, "beginCount", "()V"⟩
abbrev cX11_goShop : ByteArray := prog_13_method_31_code
def yX11_goShop : MethodName := ⟨RX11, "goShop", "()V"⟩
abbrev cX11_refusal : ByteArray := prog_13_method_32_code
def yX11_refusal : MethodName := ⟨RX11, "refusal", "()I"⟩
abbrev cX11_judge : ByteArray := prog_13_method_33_code
def yX11_judge : MethodName := ⟨RX11, "judge", "(I)I"⟩
abbrev cX11_kinds : ByteArray := prog_13_method_34_code
def yX11_kinds : MethodName := ⟨RX11, "kinds", "(I)I"⟩
abbrev cX11_behind : ByteArray := prog_13_method_35_code
def yX11_behind : MethodName := ⟨RX11, "behind", "(II)I"⟩
abbrev cX11_fat : ByteArray := prog_13_method_36_code
def yX11_fat : MethodName := ⟨RX11, "fat", "(II)I"⟩
abbrev cX11_sky : ByteArray := prog_13_method_37_code
def yX11_sky : MethodName := ⟨RX11, "sky", "(I)I"⟩
abbrev cX11_done : ByteArray := prog_13_method_38_code
def yX11_done : MethodName := ⟨RX11, "done", "()I"⟩
abbrev cX11_lasts : ByteArray := prog_13_method_39_code
def yX11_lasts : MethodName := ⟨RX11, "lasts", "(IIII)I"⟩
abbrev cX11_clean : ByteArray := prog_13_method_40_code
def yX11_clean : MethodName := ⟨RX11, "clean", "(I)I"⟩
abbrev cX11_grind : ByteArray := prog_13_method_41_code
def yX11_grind : MethodName := ⟨RX11, "grind", "(III)I"⟩
abbrev cX11_lives : ByteArray := prog_13_method_42_code
def yX11_lives : MethodName := ⟨RX11, "lives", "(II)I"⟩
abbrev cX11_layOrders : ByteArray := prog_13_method_43_code
def yX11_layOrders : MethodName := ⟨RX11, "layOrders", "(II)V"⟩
abbrev cX11_withOn : ByteArray := prog_13_method_44_code
def yX11_withOn : MethodName := ⟨RX11, "withOn", "(III)I"⟩
abbrev cX11_bestFrom : ByteArray := prog_13_method_45_code
def yX11_bestFrom : MethodName := ⟨RX11, "bestFrom", "(II)I"⟩
abbrev cX11_orders : ByteArray := prog_13_method_46_code
def yX11_orders : MethodName := ⟨RX11, "orders", "(III)I"⟩
abbrev cX11_colours : ByteArray := prog_13_method_47_code
def yX11_colours : MethodName := ⟨RX11, "colours", "(II)I"⟩
abbrev cX11_lowest : ByteArray := prog_13_method_48_code
def yX11_lowest : MethodName := ⟨RX11, "lowest", "(JJI)J"⟩
abbrev cX11_crack : ByteArray := prog_13_method_49_code
def yX11_crack : MethodName := ⟨RX11, "crack", "(IIIII)J"⟩
abbrev cX11_seen : ByteArray := prog_13_method_50_code
def yX11_seen : MethodName := ⟨RX11, "seen", "(IIZ)I"⟩
abbrev cX11_forget : ByteArray := prog_13_method_51_code
def yX11_forget : MethodName := ⟨RX11, "forget", "()I"⟩
abbrev cX11_shows : ByteArray := prog_13_method_52_code
def yX11_shows : MethodName := ⟨RX11, "shows", "(IIII)Z"⟩
abbrev cX11_fits : ByteArray := prog_13_method_53_code
def yX11_fits : MethodName := ⟨RX11, "fits", "(II)Z"⟩
abbrev cX11_whose : ByteArray := prog_13_method_54_code
def yX11_whose : MethodName := ⟨RX11, "whose", "(I)I"⟩
abbrev cX11_suspects : ByteArray := prog_13_method_55_code
def yX11_suspects : MethodName := ⟨RX11, "suspects", "()I"⟩
abbrev cX11_mostLeft : ByteArray := prog_13_method_56_code
def yX11_mostLeft : MethodName := ⟨RX11, "mostLeft", "(II)I"⟩
abbrev cX11_next : ByteArray := prog_13_method_57_code
def yX11_next : MethodName := ⟨RX11, "next", "(II)I"⟩
abbrev cX11_year : ByteArray := prog_13_method_58_code
def yX11_year : MethodName := ⟨RX11, "year", "(III)I"⟩
abbrev cX11_pass : ByteArray := prog_13_method_59_code
def yX11_pass : MethodName := ⟨RX11, "pass", "(I)I"⟩
abbrev cX11_passStones : ByteArray := prog_13_method_60_code
def yX11_passStones : MethodName := ⟨RX11, "passStones", "()V"⟩
abbrev cX11_passAll : ByteArray := prog_13_method_61_code
def yX11_passAll : MethodName := ⟨RX11, "passAll", "()V"⟩
abbrev cX11_image : ByteArray := prog_13_method_62_code
def yX11_image : MethodName := ⟨RX11, "image", "(I)I"⟩
abbrev cX11_restore : ByteArray := prog_13_method_63_code
def yX11_restore : MethodName := ⟨RX11, "restore", "(I)I"⟩
abbrev cX11_toldOfStone : ByteArray := prog_13_method_64_code
def yX11_toldOfStone : MethodName := ⟨RX11, "toldOfStone", "(II)I"⟩
abbrev cX11_toldOfPicture : ByteArray := prog_13_method_65_code
def yX11_toldOfPicture : MethodName := ⟨RX11, "toldOfPicture", "(II)I"⟩
abbrev cX11_told : ByteArray := prog_13_method_66_code
def yX11_told : MethodName := ⟨RX11, "told", "(I)I"⟩
def RJ6 : String := "java/lang/Integer"
abbrev cJ6_bitCount_0f7a4 : ByteArray := prog_14_method_49_code
def yJ6_bitCount_0f7a4 : MethodName := ⟨RJ6, "bitCount", "(I)I"⟩
def RJ9 : String := "java/lang/Math"
abbrev cJ9_abs_0f7a4 : ByteArray := prog_15_method_59_code
def yJ9_abs_0f7a4 : MethodName := ⟨RJ9, "abs", "(I)I"⟩
abbrev cJ9_max_7cf53 : ByteArray := prog_15_method_65_code
def yJ9_max_7cf53 : MethodName := ⟨RJ9, "max", "(II)I"⟩
abbrev cJ9_max_f86c9 : ByteArray := prog_15_method_66_code
def yJ9_max_f86c9 : MethodName := ⟨RJ9, "max", "(JJ)J"⟩
abbrev cJ9_min_7cf53 : ByteArray := prog_15_method_69_code
def yJ9_min_7cf53 : MethodName := ⟨RJ9, "min", "(II)I"⟩
def RJ10 : String := "java/lang/System"
def RL : String := "StoneGhostsLaw"
abbrev cL_law : ByteArray := code
def yL_law : MethodName := ⟨RL, "law", "([I)Z"⟩
abbrev vwCl : List vw_C := [(RX0, TX0, 3), (RX1, TX1, 2), (RX2, TX2, 3), (RX3, TX3, 2), (RX4, TX4, 3), (RX5, TX5, 6), (RX6, TX6, 7), (RX7, TX7, 4), (RX8, TX8, 4), (RX9, TX9, 7), (RX10, TX10, 6), (RX11, TX11, 38)]
def Nst : List Cond := [Cond.methodLinkNest RX6 44 yX10_inside RX10, Cond.methodLinkNest RX3 19 yX10_inside RX10, Cond.methodLinkNest RX5 37 yX10_inside RX10, Cond.methodLinkNest RX8 25 yX10_inside RX10, Cond.methodLinkNest RX4 58 yX10_pullsAhead RX10, Cond.methodLinkNest RX2 33 yX10_hasBit RX10, Cond.methodLinkNest RX2 69 yX10_inside RX10, Cond.methodLinkNest RX1 39 yX10_hasBit RX10, Cond.methodLinkNest RX7 22 yX10_inside RX10, Cond.methodLinkNest RX4 92 yX10_hasBit RX10]
theorem Nst_form : ∀ w ∈ Nst, ∃ (a : String) (i : Nat) (x : MethodName) (g : String), w = .methodLinkNest a i x g := by
  intro w hw
  simp only [Nst, List.mem_cons, List.not_mem_nil, or_false] at hw
  rcases hw with rfl | rfl | rfl | rfl | rfl | rfl | rfl | rfl | rfl | rfl <;> exact ⟨_, _, _, _, rfl⟩
def Tb : List Cond := lw_tbl.filter goodWord
theorem mTb {w : Cond} (i : Nat) (h : lw_tbl[i]? = some w) (g : goodWord w = true) : w ∈ Tb := List.mem_filter.mpr ⟨List.mem_of_getElem? h, g⟩
theorem mTbL {ws : List Cond} (is : List Nat) (h : ws = is.filterMap (fun i => lw_tbl[i]?)) (g : ws.all goodWord = true) : ∀ w ∈ ws, w ∈ Tb := by
  intro w hw
  have h1 := List.all_eq_true.mp g w hw
  rw [h] at hw
  obtain ⟨i, -, hi⟩ := List.mem_filterMap.mp hw
  exact mTb i hi h1
